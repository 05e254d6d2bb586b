/-! LeastPatternsModel.sorted(I)V -/
def g_X7_sorted_203 (F : Nat) (K : zK) (R : zR) (a0 : Nat)  (kself : zI → Int32 → Int32 → Option (zI)) (I : zI) (x3 : Int32) (x4 : Int32) : Option (zI) :=
  if x3 ≤ x4 then
    some I
  else
    zbd (f_X7_sort F K I R a0 (5557 : Int32) x4) fun v2 =>
    zbd (f_X7_number F K I R a0 (5557 : Int32) x4) fun v4 =>
    zbd (f_X7_arguments F K I R a0 (5557 : Int32) x4) fun v6 =>
    zbd (f_X7_writes F K I R a0 (5460 : Int32) x4 v2 v4 v6) fun I8 =>
    kself I8 x3 (x4 + (1 : Int32))
def f_X7_sorted_203 (F : Nat) (K : zK) (R : zR) (a0 : Nat)  : Nat → zI → Int32 → Int32 → Option (zI)
  | 0, _, _, _ => none
  | t + 1, I, x3, x4 => g_X7_sorted_203 F K R a0  (f_X7_sorted_203 F K R a0  t) I x3 x4
def g_X7_sorted_107 (F : Nat) (K : zK) (R : zR) (a0 : Nat) (k98 : zI → Int32 → Int32 → Int32 → Int32 → Option (zI)) (kself : zI → Int32 → Int32 → Int32 → Int32 → Int32 → Option (zI)) (I : zI) (x1 : Int32) (x2 : Int32) (x3 : Int32) (x4 : Int32) (x5 : Int32) : Option (zI) :=
  zbd (some (R a0 5)) fun o10 =>
  zbd (some (R a0 15)) fun o11 =>
  zbd (zdr K o11 1) fun a12 =>
  zbd (zrd K I a12 x4) fun v15 =>
  zbd (zdr K o10 1) fun a16 =>
  zbd (zrd K I a16 v15) fun v19 =>
  if v19 ≤ x5 then
    k98 I x1 x2 x3 (x4 + (1 : Int32))
  else
    zbd (some (R a0 15)) fun o21 =>
    zbd (zdr K o21 1) fun a22 =>
    zbd (zrd K I a22 x4) fun v25 =>
    zbd (f_X7_sort F K I R a0 (5460 : Int32) (v25 + x5)) fun v26 =>
    zbd (some (R a0 15)) fun o28 =>
    zbd (zdr K o28 1) fun a29 =>
    zbd (zrd K I a29 x4) fun v32 =>
    zbd (f_X7_number F K I R a0 (5460 : Int32) (v32 + x5)) fun v33 =>
    zbd (some (R a0 15)) fun o35 =>
    zbd (zdr K o35 1) fun a36 =>
    zbd (zrd K I a36 x4) fun v39 =>
    zbd (f_X7_arguments F K I R a0 (5460 : Int32) (v39 + x5)) fun v40 =>
    zbd (f_X7_writes F K I R a0 (5557 : Int32) x3 v26 v33 v40) fun I42 =>
    kself I42 x1 x2 (x3 + (1 : Int32)) x4 (x5 + (1 : Int32))
def f_X7_sorted_107 (F : Nat) (K : zK) (R : zR) (a0 : Nat) (k98 : zI → Int32 → Int32 → Int32 → Int32 → Option (zI)) : Nat → zI → Int32 → Int32 → Int32 → Int32 → Int32 → Option (zI)
  | 0, _, _, _, _, _, _ => none
  | t + 1, I, x1, x2, x3, x4, x5 => g_X7_sorted_107 F K R a0 k98 (f_X7_sorted_107 F K R a0 k98 t) I x1 x2 x3 x4 x5
def g_X7_sorted_98 (F : Nat) (K : zK) (R : zR) (a0 : Nat)  (kself : zI → Int32 → Int32 → Int32 → Int32 → Option (zI)) (I : zI) (x1 : Int32) (x2 : Int32) (x3 : Int32) (x4 : Int32) : Option (zI) :=
  if x2 ≤ x4 then
    zbd (some (x1 + (1 : Int32))) fun v45 =>
    f_X7_sorted_203 F K R a0 F I x3 v45
  else
    f_X7_sorted_107 F K R a0 kself F I x1 x2 x3 x4 (0 : Int32)
def f_X7_sorted_98 (F : Nat) (K : zK) (R : zR) (a0 : Nat)  : Nat → zI → Int32 → Int32 → Int32 → Int32 → Option (zI)
  | 0, _, _, _, _, _ => none
  | t + 1, I, x1, x2, x3, x4 => g_X7_sorted_98 F K R a0  (f_X7_sorted_98 F K R a0  t) I x1 x2 x3 x4
def f_X7_sorted_76 (F : Nat) (K : zK) (R : zR) (a0 : Nat) (k11 : zI → Int32 → Int32 → Int32 → Option (zI)) (I : zI) (x1 : Int32) (x2 : Int32) (x3 : Int32) (x4 : Int32) (x5 : Int32) : Option (zI) :=
  zbd (some (R a0 15)) fun o46 =>
  zbd (zdr K o46 1) fun a47 =>
  zbd (zwr K I a47 x5 x4) fun I50 =>
  k11 I50 x1 x2 (x3 + (1 : Int32))
def g_X7_sorted_31 (F : Nat) (K : zK) (R : zR) (a0 : Nat) (k11 : zI → Int32 → Int32 → Int32 → Option (zI)) (kself : zI → Int32 → Int32 → Int32 → Int32 → Int32 → Option (zI)) (I : zI) (x1 : Int32) (x2 : Int32) (x3 : Int32) (x4 : Int32) (x5 : Int32) : Option (zI) :=
  if x5 ≤ (0 : Int32) then
    f_X7_sorted_76 F K R a0 k11 I x1 x2 x3 x4 x5
  else
    zbd (some (R a0 15)) fun o52 =>
    zbd (zdr K o52 1) fun a53 =>
    zbd (zrd K I a53 (x5 - (1 : Int32))) fun v56 =>
    zbd (f_X7_order F K I R a0 v56 x4) fun v57 =>
    if v57 ≤ (0 : Int32) then
      f_X7_sorted_76 F K R a0 k11 I x1 x2 x3 x4 x5
    else
      zbd (some (R a0 15)) fun o60 =>
      zbd (some (R a0 15)) fun o61 =>
      zbd (zdr K o61 1) fun a62 =>
      zbd (zrd K I a62 (x5 - (1 : Int32))) fun v65 =>
      zbd (zdr K o60 1) fun a66 =>
      zbd (zwr K I a66 x5 v65) fun I69 =>
      kself I69 x1 x2 x3 x4 (x5 + (-1 : Int32))
def f_X7_sorted_31 (F : Nat) (K : zK) (R : zR) (a0 : Nat) (k11 : zI → Int32 → Int32 → Int32 → Option (zI)) : Nat → zI → Int32 → Int32 → Int32 → Int32 → Int32 → Option (zI)
  | 0, _, _, _, _, _, _ => none
  | t + 1, I, x1, x2, x3, x4, x5 => g_X7_sorted_31 F K R a0 k11 (f_X7_sorted_31 F K R a0 k11 t) I x1 x2 x3 x4 x5
def g_X7_sorted_11 (F : Nat) (K : zK) (R : zR) (a0 : Nat)  (kself : zI → Int32 → Int32 → Int32 → Option (zI)) (I : zI) (x1 : Int32) (x2 : Int32) (x3 : Int32) : Option (zI) :=
  if x2 ≤ x3 then
    zbd (some (x1 + (1 : Int32))) fun v71 =>
    f_X7_sorted_98 F K R a0 F I x1 x2 v71 (0 : Int32)
  else
    zbd (some (R a0 5)) fun o72 =>
    zbd (f_X7_child F K I R a0 x1 x3 o72) fun v73 =>
    f_X7_sorted_31 F K R a0 kself F I x1 x2 x3 v73 x3
def f_X7_sorted_11 (F : Nat) (K : zK) (R : zR) (a0 : Nat)  : Nat → zI → Int32 → Int32 → Int32 → Option (zI)
  | 0, _, _, _, _ => none
  | t + 1, I, x1, x2, x3 => g_X7_sorted_11 F K R a0  (f_X7_sorted_11 F K R a0  t) I x1 x2 x3
def f_X7_sorted (F : Nat) (K : zK) (I : zI) (R : zR) (a0 : Nat) (x1 : Int32) : Option (zI) :=
  zbd (f_X7_arguments F K I R a0 (5460 : Int32) x1) fun v75 =>
  f_X7_sorted_11 F K R a0 F I x1 v75 (0 : Int32)
section
variable {p : Program} {l : Launch} {e : Env} {s : State} {m : MethodId} {args : Array Value} {below : List Frame} {meth : Method} {c : Code} {D : zD} {B n n0 n' fd ld : Nat} {K K0 K' : zK} {I I' : zI} {R R' : zR} {H : Heap} {locs : List Loc} {ls : Array Slot} {r : Int32}
set_option maxRecDepth 100000 in
set_option maxHeartbeats 4000000 in
theorem wg_X7_sorted_203 {F : Nat} {a0 : Nat}  (X : zX p s m c cX7_sorted 6 RX7 D) (hr : meth.sig.returnType = none) (hlk : meth.locks = false) (hK0 : (K a0).1 = 17)  {kself : zI → Int32 → Int32 → Option (zI)} (hkself : ∀ (I : zI) (x3 : Int32) (x4 : Int32) (H : Heap) (locs : List Loc) (ls : Array Slot), kself I x3 x4 = some I' → zS (zOwn B K (B + n)) D B n K I R s.heap H locs → lv_has ls 6 [(0, .ref (B + a0)), (3, .int x3), (4, .int x4)] → W p l e ({ frames := 2, cells := 0, slots := 0, locals := 65 } : Room) s m args below meth c H locs 0 0 (MQ below (zQv D (zOwn B K (B + n)) B n K I' R) args s 0 0 (zOwn B K (B + n))) (F0 m 203 ls [])) {x3 : Int32} {x4 : Int32} (hf : g_X7_sorted_203 F K R a0  kself I x3 x4 = some I') (hW : zS (zOwn B K (B + n)) D B n K I R s.heap H locs) (hl : lv_has ls 6 [(0, .ref (B + a0)), (3, .int x3), (4, .int x4)]) : W p l e ({ frames := 2, cells := 0, slots := 0, locals := 65 } : Room) s m args below meth c H locs 0 0 (MQ below (zQv D (zOwn B K (B + n)) B n K I' R) args s 0 0 (zOwn B K (B + n))) (F0 m 203 ls []) := by
  unfold g_X7_sorted_203 at hf
  refine lv_iload X.1 X.2.1 dX7_sorted_203 (lv_at hl 2 rfl) ?_
  refine lv_iload_n X.1 X.2.1 dX7_sorted_205 rfl (lv_at hl 1 rfl) ?_
  refine lv_icmp_ge (tgt := 251) X.1 X.2.1 dX7_sorted_206 (by decide) (fun c1 => ?_) (fun c1 => ?_)
  · replace hf := zif_pos c1 hf
    obtain rfl := zi1 hf
    exact ze_retV X hr hlk hW (Nat.le_refl _) (Nat.le_refl _) dX7_sorted_251
  · replace hf := zif_neg c1 hf
    refine lv_aload_n X.1 X.2.1 dX7_sorted_209 rfl (lv_at hl 0 rfl) ?_
    refine lv_sipush (v := 5460) X.1 X.2.1 dX7_sorted_210 (by decide) ?_
    refine lv_iload X.1 X.2.1 dX7_sorted_213 (lv_at hl 2 rfl) ?_
    refine lv_aload_n X.1 X.2.1 dX7_sorted_215 rfl (lv_at hl 0 rfl) ?_
    refine lv_sipush (v := 5557) X.1 X.2.1 dX7_sorted_216 (by decide) ?_
    refine lv_iload X.1 X.2.1 dX7_sorted_219 (lv_at hl 2 rfl) ?_
    obtain ⟨v2, h3, hg⟩ := zh_bd hf
    replace hf := hg
    refine ze_aftI0 (ze_runV (As := [.int (5557 : Int32), .int x4]) (rest := [.int x4, .int (5460 : Int32), .ref (B + a0)]) X 7 119 (c_X7_sort l D B n hK0 h3) vX7_sort kml_X7_119 hW hK0 rfl rfl ⟨by decide, by decide⟩ rfl hl.1 rfl (Nat.le_of_ble_eq_true rfl) ⟨Nat.le_refl _, Nat.le_refl _⟩ dX7_sorted_221) hW (fun H locs hV => ?_)
    replace hW := hV
    refine lv_aload_n X.1 X.2.1 dX7_sorted_224 rfl (lv_at hl 0 rfl) ?_
    refine lv_sipush (v := 5557) X.1 X.2.1 dX7_sorted_225 (by decide) ?_
    refine lv_iload X.1 X.2.1 dX7_sorted_228 (lv_at hl 2 rfl) ?_
    obtain ⟨v4, h5, hg⟩ := zh_bd hf
    replace hf := hg
    refine ze_aftI0 (ze_runV (As := [.int (5557 : Int32), .int x4]) (rest := [.int v2, .int x4, .int (5460 : Int32), .ref (B + a0)]) X 7 159 (c_X7_number l D B n hK0 h5) vX7_number kml_X7_159 hW hK0 rfl rfl ⟨by decide, by decide⟩ rfl hl.1 rfl (Nat.le_of_ble_eq_true rfl) ⟨Nat.le_refl _, Nat.le_refl _⟩ dX7_sorted_230) hW (fun H locs hV => ?_)
    replace hW := hV
    refine lv_aload_n X.1 X.2.1 dX7_sorted_233 rfl (lv_at hl 0 rfl) ?_
    refine lv_sipush (v := 5557) X.1 X.2.1 dX7_sorted_234 (by decide) ?_
    refine lv_iload X.1 X.2.1 dX7_sorted_237 (lv_at hl 2 rfl) ?_
    obtain ⟨v6, h7, hg⟩ := zh_bd hf
    replace hf := hg
    refine ze_aftI0 (ze_runV (As := [.int (5557 : Int32), .int x4]) (rest := [.int v4, .int v2, .int x4, .int (5460 : Int32), .ref (B + a0)]) X 7 111 (c_X7_arguments l D B n hK0 h7) vX7_arguments kml_X7_111 hW hK0 rfl rfl ⟨by decide, by decide⟩ rfl hl.1 rfl (Nat.le_of_ble_eq_true rfl) ⟨Nat.le_refl _, Nat.le_refl _⟩ dX7_sorted_239) hW (fun H locs hV => ?_)
    replace hW := hV
    obtain ⟨I8, h9, hg⟩ := zh_bd hf
    replace hf := hg
    refine ze_aftV0 (ze_runV (As := [.int (5460 : Int32), .int x4, .int v2, .int v4, .int v6]) (rest := []) X 7 143 (c_X7_writes l D B n hK0 h9) vX7_writes kml_X7_143 hW hK0 rfl rfl ⟨by decide, by decide⟩ rfl hl.1 rfl (Nat.le_of_ble_eq_true rfl) ⟨Nat.le_refl _, Nat.le_refl _⟩ dX7_sorted_242) hW (fun H locs hV => ?_)
    replace hW := hV
    refine ze_iinc (lv' := [(4, .int (x4 + (1 : Int32))), (0, .ref (B + a0)), (3, .int x3)]) (d := 1) X.1 X.2.1 dX7_sorted_245 hl (k := 2) rfl (by decide) (by decide) rfl (fun ls hk => ?_)
    replace hl := hk
    refine lv_goto (tgt := 203) X.1 X.2.1 dX7_sorted_248 (by decide) ?_
    exact hkself _ _ _ _ _ _ hf hW (lv_sub hl [1, 2, 0] rfl)
set_option maxRecDepth 100000 in
set_option maxHeartbeats 4000000 in
theorem w_X7_sorted_203 {F : Nat} {a0 : Nat}  (X : zX p s m c cX7_sorted 6 RX7 D) (hr : meth.sig.returnType = none) (hlk : meth.locks = false) (hK0 : (K a0).1 = 17)  {t : Nat} {x3 : Int32} {x4 : Int32} (hf : f_X7_sorted_203 F K R a0  t I x3 x4 = some I') (hW : zS (zOwn B K (B + n)) D B n K I R s.heap H locs) (hl : lv_has ls 6 [(0, .ref (B + a0)), (3, .int x3), (4, .int x4)]) : W p l e ({ frames := 2, cells := 0, slots := 0, locals := 65 } : Room) s m args below meth c H locs 0 0 (MQ below (zQv D (zOwn B K (B + n)) B n K I' R) args s 0 0 (zOwn B K (B + n))) (F0 m 203 ls []) := by
  have key : ∀ t : Nat, ∀ (I : zI) (x3 : Int32) (x4 : Int32) (H : Heap) (locs : List Loc) (ls : Array Slot), f_X7_sorted_203 F K R a0  t I x3 x4 = some I' → zS (zOwn B K (B + n)) D B n K I R s.heap H locs → lv_has ls 6 [(0, .ref (B + a0)), (3, .int x3), (4, .int x4)] → W p l e ({ frames := 2, cells := 0, slots := 0, locals := 65 } : Room) s m args below meth c H locs 0 0 (MQ below (zQv D (zOwn B K (B + n)) B n K I' R) args s 0 0 (zOwn B K (B + n))) (F0 m 203 ls []) := by
    intro t
    induction t with
    | zero =>
      intro I x3 x4 H locs ls hf hW hl
      cases hf
    | succ t ih =>
      intro I x3 x4 H locs ls hf hW hl
      exact wg_X7_sorted_203 X hr hlk hK0  ih hf hW hl
  exact key t _ _ _ _ _ _ hf hW hl
set_option maxRecDepth 100000 in
set_option maxHeartbeats 4000000 in
theorem wg_X7_sorted_107 {F : Nat} {a0 : Nat} {k98 : zI → Int32 → Int32 → Int32 → Int32 → Option (zI)} (X : zX p s m c cX7_sorted 6 RX7 D) (hr : meth.sig.returnType = none) (hlk : meth.locks = false) (hK0 : (K a0).1 = 17) (hk98 : ∀ (I : zI) (x1 : Int32) (x2 : Int32) (x3 : Int32) (x4 : Int32) (H : Heap) (locs : List Loc) (ls : Array Slot), k98 I x1 x2 x3 x4 = some I' → zS (zOwn B K (B + n)) D B n K I R s.heap H locs → lv_has ls 6 [(0, .ref (B + a0)), (1, .int x1), (2, .int x2), (3, .int x3), (4, .int x4)] → W p l e ({ frames := 2, cells := 0, slots := 0, locals := 65 } : Room) s m args below meth c H locs 0 0 (MQ below (zQv D (zOwn B K (B + n)) B n K I' R) args s 0 0 (zOwn B K (B + n))) (F0 m 98 ls [])) {kself : zI → Int32 → Int32 → Int32 → Int32 → Int32 → Option (zI)} (hkself : ∀ (I : zI) (x1 : Int32) (x2 : Int32) (x3 : Int32) (x4 : Int32) (x5 : Int32) (H : Heap) (locs : List Loc) (ls : Array Slot), kself I x1 x2 x3 x4 x5 = some I' → zS (zOwn B K (B + n)) D B n K I R s.heap H locs → lv_has ls 6 [(0, .ref (B + a0)), (1, .int x1), (2, .int x2), (3, .int x3), (4, .int x4), (5, .int x5)] → W p l e ({ frames := 2, cells := 0, slots := 0, locals := 65 } : Room) s m args below meth c H locs 0 0 (MQ below (zQv D (zOwn B K (B + n)) B n K I' R) args s 0 0 (zOwn B K (B + n))) (F0 m 107 ls [])) {x1 : Int32} {x2 : Int32} {x3 : Int32} {x4 : Int32} {x5 : Int32} (hf : g_X7_sorted_107 F K R a0 k98 kself I x1 x2 x3 x4 x5 = some I') (hW : zS (zOwn B K (B + n)) D B n K I R s.heap H locs) (hl : lv_has ls 6 [(0, .ref (B + a0)), (1, .int x1), (2, .int x2), (3, .int x3), (4, .int x4), (5, .int x5)]) : W p l e ({ frames := 2, cells := 0, slots := 0, locals := 65 } : Room) s m args below meth c H locs 0 0 (MQ below (zQv D (zOwn B K (B + n)) B n K I' R) args s 0 0 (zOwn B K (B + n))) (F0 m 107 ls []) := by
  unfold g_X7_sorted_107 at hf
  refine lv_iload X.1 X.2.1 dX7_sorted_107 (lv_at hl 5 rfl) ?_
  refine lv_aload_n X.1 X.2.1 dX7_sorted_109 rfl (lv_at hl 0 rfl) ?_
  refine ze_gtR X 7 5 20 (RX7, TX7, 39) rfl hf hW hK0 rfl (by decide) kfl_X7_20 dX7_sorted_110 (fun o10 hg => ?_)
  replace hf := hg
  refine lv_aload_n X.1 X.2.1 dX7_sorted_113 rfl (lv_at hl 0 rfl) ?_
  refine ze_gtR X 7 15 42 (RX7, TX7, 39) rfl hf hW hK0 rfl (by decide) kfl_X7_42 dX7_sorted_114 (fun o11 hg => ?_)
  replace hf := hg
  refine lv_iload X.1 X.2.1 dX7_sorted_117 (lv_at hl 4 rfl) ?_
  obtain ⟨a12, rfl, k14, hg⟩ := zh_dr hf
  replace hf := hg
  refine ze_iald X hf hW k14 dX7_sorted_119 (fun v15 hg => ?_)
  replace hf := hg
  obtain ⟨a16, rfl, k18, hg⟩ := zh_dr hf
  replace hf := hg
  refine ze_iald X hf hW k18 dX7_sorted_120 (fun v19 hg => ?_)
  replace hf := hg
  refine lv_icmp_ge (tgt := 192) X.1 X.2.1 dX7_sorted_121 (by decide) (fun c20 => ?_) (fun c20 => ?_)
  · replace hf := zif_pos c20 hf
    refine ze_iinc (lv' := [(4, .int (x4 + (1 : Int32))), (0, .ref (B + a0)), (1, .int x1), (2, .int x2), (3, .int x3), (5, .int x5)]) (d := 1) X.1 X.2.1 dX7_sorted_192 hl (k := 4) rfl (by decide) (by decide) rfl (fun ls hk => ?_)
    replace hl := hk
    refine lv_goto (tgt := 98) X.1 X.2.1 dX7_sorted_195 (by decide) ?_
    exact hk98 _ _ _ _ _ _ _ _ hf hW (lv_sub hl [1, 2, 3, 4, 0] rfl)
  · replace hf := zif_neg c20 hf
    refine lv_aload_n X.1 X.2.1 dX7_sorted_124 rfl (lv_at hl 0 rfl) ?_
    refine lv_sipush (v := 5557) X.1 X.2.1 dX7_sorted_125 (by decide) ?_
    refine lv_iload_n X.1 X.2.1 dX7_sorted_128 rfl (lv_at hl 3 rfl) ?_
    refine lv_aload_n X.1 X.2.1 dX7_sorted_129 rfl (lv_at hl 0 rfl) ?_
    refine lv_sipush (v := 5460) X.1 X.2.1 dX7_sorted_130 (by decide) ?_
    refine lv_aload_n X.1 X.2.1 dX7_sorted_133 rfl (lv_at hl 0 rfl) ?_
    refine ze_gtR X 7 15 42 (RX7, TX7, 39) rfl hf hW hK0 rfl (by decide) kfl_X7_42 dX7_sorted_134 (fun o21 hg => ?_)
    replace hf := hg
    refine lv_iload X.1 X.2.1 dX7_sorted_137 (lv_at hl 4 rfl) ?_
    obtain ⟨a22, rfl, k24, hg⟩ := zh_dr hf
    replace hf := hg
    refine ze_iald X hf hW k24 dX7_sorted_139 (fun v25 hg => ?_)
    replace hf := hg
    refine lv_iload X.1 X.2.1 dX7_sorted_140 (lv_at hl 5 rfl) ?_
    refine lv_iadd X.1 X.2.1 dX7_sorted_142 ?_
    obtain ⟨v26, h27, hg⟩ := zh_bd hf
    replace hf := hg
    refine ze_aftI0 (ze_runV (As := [.int (5460 : Int32), .int (v25 + x5)]) (rest := [.int x3, .int (5557 : Int32), .ref (B + a0)]) X 7 119 (c_X7_sort l D B n hK0 h27) vX7_sort kml_X7_119 hW hK0 rfl rfl ⟨by decide, by decide⟩ rfl hl.1 rfl (Nat.le_of_ble_eq_true rfl) ⟨Nat.le_refl _, Nat.le_refl _⟩ dX7_sorted_143) hW (fun H locs hV => ?_)
    replace hW := hV
    refine lv_aload_n X.1 X.2.1 dX7_sorted_146 rfl (lv_at hl 0 rfl) ?_
    refine lv_sipush (v := 5460) X.1 X.2.1 dX7_sorted_147 (by decide) ?_
    refine lv_aload_n X.1 X.2.1 dX7_sorted_150 rfl (lv_at hl 0 rfl) ?_
    refine ze_gtR X 7 15 42 (RX7, TX7, 39) rfl hf hW hK0 rfl (by decide) kfl_X7_42 dX7_sorted_151 (fun o28 hg => ?_)
    replace hf := hg
    refine lv_iload X.1 X.2.1 dX7_sorted_154 (lv_at hl 4 rfl) ?_
    obtain ⟨a29, rfl, k31, hg⟩ := zh_dr hf
    replace hf := hg
    refine ze_iald X hf hW k31 dX7_sorted_156 (fun v32 hg => ?_)
    replace hf := hg
    refine lv_iload X.1 X.2.1 dX7_sorted_157 (lv_at hl 5 rfl) ?_
    refine lv_iadd X.1 X.2.1 dX7_sorted_159 ?_
    obtain ⟨v33, h34, hg⟩ := zh_bd hf
    replace hf := hg
    refine ze_aftI0 (ze_runV (As := [.int (5460 : Int32), .int (v32 + x5)]) (rest := [.int v26, .int x3, .int (5557 : Int32), .ref (B + a0)]) X 7 159 (c_X7_number l D B n hK0 h34) vX7_number kml_X7_159 hW hK0 rfl rfl ⟨by decide, by decide⟩ rfl hl.1 rfl (Nat.le_of_ble_eq_true rfl) ⟨Nat.le_refl _, Nat.le_refl _⟩ dX7_sorted_160) hW (fun H locs hV => ?_)
    replace hW := hV
    refine lv_aload_n X.1 X.2.1 dX7_sorted_163 rfl (lv_at hl 0 rfl) ?_
    refine lv_sipush (v := 5460) X.1 X.2.1 dX7_sorted_164 (by decide) ?_
    refine lv_aload_n X.1 X.2.1 dX7_sorted_167 rfl (lv_at hl 0 rfl) ?_
    refine ze_gtR X 7 15 42 (RX7, TX7, 39) rfl hf hW hK0 rfl (by decide) kfl_X7_42 dX7_sorted_168 (fun o35 hg => ?_)
    replace hf := hg
    refine lv_iload X.1 X.2.1 dX7_sorted_171 (lv_at hl 4 rfl) ?_
    obtain ⟨a36, rfl, k38, hg⟩ := zh_dr hf
    replace hf := hg
    refine ze_iald X hf hW k38 dX7_sorted_173 (fun v39 hg => ?_)
    replace hf := hg
    refine lv_iload X.1 X.2.1 dX7_sorted_174 (lv_at hl 5 rfl) ?_
    refine lv_iadd X.1 X.2.1 dX7_sorted_176 ?_
    obtain ⟨v40, h41, hg⟩ := zh_bd hf
    replace hf := hg
    refine ze_aftI0 (ze_runV (As := [.int (5460 : Int32), .int (v39 + x5)]) (rest := [.int v33, .int v26, .int x3, .int (5557 : Int32), .ref (B + a0)]) X 7 111 (c_X7_arguments l D B n hK0 h41) vX7_arguments kml_X7_111 hW hK0 rfl rfl ⟨by decide, by decide⟩ rfl hl.1 rfl (Nat.le_of_ble_eq_true rfl) ⟨Nat.le_refl _, Nat.le_refl _⟩ dX7_sorted_177) hW (fun H locs hV => ?_)
    replace hW := hV
    obtain ⟨I42, h43, hg⟩ := zh_bd hf
    replace hf := hg
    refine ze_aftV0 (ze_runV (As := [.int (5557 : Int32), .int x3, .int v26, .int v33, .int v40]) (rest := []) X 7 143 (c_X7_writes l D B n hK0 h43) vX7_writes kml_X7_143 hW hK0 rfl rfl ⟨by decide, by decide⟩ rfl hl.1 rfl (Nat.le_of_ble_eq_true rfl) ⟨Nat.le_refl _, Nat.le_refl _⟩ dX7_sorted_180) hW (fun H locs hV => ?_)
    replace hW := hV
    refine ze_iinc (lv' := [(3, .int (x3 + (1 : Int32))), (0, .ref (B + a0)), (1, .int x1), (2, .int x2), (4, .int x4), (5, .int x5)]) (d := 1) X.1 X.2.1 dX7_sorted_183 hl (k := 3) rfl (by decide) (by decide) rfl (fun ls hk => ?_)
    replace hl := hk
    refine ze_iinc (lv' := [(5, .int (x5 + (1 : Int32))), (3, .int (x3 + (1 : Int32))), (0, .ref (B + a0)), (1, .int x1), (2, .int x2), (4, .int x4)]) (d := 1) X.1 X.2.1 dX7_sorted_186 hl (k := 5) rfl (by decide) (by decide) rfl (fun ls hk => ?_)
    replace hl := hk
    refine lv_goto (tgt := 107) X.1 X.2.1 dX7_sorted_189 (by decide) ?_
    exact hkself _ _ _ _ _ _ _ _ _ hf hW (lv_sub hl [2, 3, 4, 1, 5, 0] rfl)
set_option maxRecDepth 100000 in
set_option maxHeartbeats 4000000 in
theorem w_X7_sorted_107 {F : Nat} {a0 : Nat} {k98 : zI → Int32 → Int32 → Int32 → Int32 → Option (zI)} (X : zX p s m c cX7_sorted 6 RX7 D) (hr : meth.sig.returnType = none) (hlk : meth.locks = false) (hK0 : (K a0).1 = 17) (hk98 : ∀ (I : zI) (x1 : Int32) (x2 : Int32) (x3 : Int32) (x4 : Int32) (H : Heap) (locs : List Loc) (ls : Array Slot), k98 I x1 x2 x3 x4 = some I' → zS (zOwn B K (B + n)) D B n K I R s.heap H locs → lv_has ls 6 [(0, .ref (B + a0)), (1, .int x1), (2, .int x2), (3, .int x3), (4, .int x4)] → W p l e ({ frames := 2, cells := 0, slots := 0, locals := 65 } : Room) s m args below meth c H locs 0 0 (MQ below (zQv D (zOwn B K (B + n)) B n K I' R) args s 0 0 (zOwn B K (B + n))) (F0 m 98 ls [])) {t : Nat} {x1 : Int32} {x2 : Int32} {x3 : Int32} {x4 : Int32} {x5 : Int32} (hf : f_X7_sorted_107 F K R a0 k98 t I x1 x2 x3 x4 x5 = some I') (hW : zS (zOwn B K (B + n)) D B n K I R s.heap H locs) (hl : lv_has ls 6 [(0, .ref (B + a0)), (1, .int x1), (2, .int x2), (3, .int x3), (4, .int x4), (5, .int x5)]) : W p l e ({ frames := 2, cells := 0, slots := 0, locals := 65 } : Room) s m args below meth c H locs 0 0 (MQ below (zQv D (zOwn B K (B + n)) B n K I' R) args s 0 0 (zOwn B K (B + n))) (F0 m 107 ls []) := by
  have key : ∀ t : Nat, ∀ (I : zI) (x1 : Int32) (x2 : Int32) (x3 : Int32) (x4 : Int32) (x5 : Int32) (H : Heap) (locs : List Loc) (ls : Array Slot), f_X7_sorted_107 F K R a0 k98 t I x1 x2 x3 x4 x5 = some I' → zS (zOwn B K (B + n)) D B n K I R s.heap H locs → lv_has ls 6 [(0, .ref (B + a0)), (1, .int x1), (2, .int x2), (3, .int x3), (4, .int x4), (5, .int x5)] → W p l e ({ frames := 2, cells := 0, slots := 0, locals := 65 } : Room) s m args below meth c H locs 0 0 (MQ below (zQv D (zOwn B K (B + n)) B n K I' R) args s 0 0 (zOwn B K (B + n))) (F0 m 107 ls []) := by
    intro t
    induction t with
    | zero =>
      intro I x1 x2 x3 x4 x5 H locs ls hf hW hl
      cases hf
    | succ t ih =>
      intro I x1 x2 x3 x4 x5 H locs ls hf hW hl
      exact wg_X7_sorted_107 X hr hlk hK0 hk98 ih hf hW hl
  exact key t _ _ _ _ _ _ _ _ _ hf hW hl
set_option maxRecDepth 100000 in
set_option maxHeartbeats 4000000 in
theorem wg_X7_sorted_98 {F : Nat} {a0 : Nat}  (X : zX p s m c cX7_sorted 6 RX7 D) (hr : meth.sig.returnType = none) (hlk : meth.locks = false) (hK0 : (K a0).1 = 17)  {kself : zI → Int32 → Int32 → Int32 → Int32 → Option (zI)} (hkself : ∀ (I : zI) (x1 : Int32) (x2 : Int32) (x3 : Int32) (x4 : Int32) (H : Heap) (locs : List Loc) (ls : Array Slot), kself I x1 x2 x3 x4 = some I' → zS (zOwn B K (B + n)) D B n K I R s.heap H locs → lv_has ls 6 [(0, .ref (B + a0)), (1, .int x1), (2, .int x2), (3, .int x3), (4, .int x4)] → W p l e ({ frames := 2, cells := 0, slots := 0, locals := 65 } : Room) s m args below meth c H locs 0 0 (MQ below (zQv D (zOwn B K (B + n)) B n K I' R) args s 0 0 (zOwn B K (B + n))) (F0 m 98 ls [])) {x1 : Int32} {x2 : Int32} {x3 : Int32} {x4 : Int32} (hf : g_X7_sorted_98 F K R a0  kself I x1 x2 x3 x4 = some I') (hW : zS (zOwn B K (B + n)) D B n K I R s.heap H locs) (hl : lv_has ls 6 [(0, .ref (B + a0)), (1, .int x1), (2, .int x2), (3, .int x3), (4, .int x4)]) : W p l e ({ frames := 2, cells := 0, slots := 0, locals := 65 } : Room) s m args below meth c H locs 0 0 (MQ below (zQv D (zOwn B K (B + n)) B n K I' R) args s 0 0 (zOwn B K (B + n))) (F0 m 98 ls []) := by
  unfold g_X7_sorted_98 at hf
  refine lv_iload X.1 X.2.1 dX7_sorted_98 (lv_at hl 4 rfl) ?_
  refine lv_iload_n X.1 X.2.1 dX7_sorted_100 rfl (lv_at hl 2 rfl) ?_
  refine lv_icmp_ge (tgt := 198) X.1 X.2.1 dX7_sorted_101 (by decide) (fun c44 => ?_) (fun c44 => ?_)
  · replace hf := zif_pos c44 hf
    refine lv_iload_n X.1 X.2.1 dX7_sorted_198 rfl (lv_at hl 1 rfl) ?_
    refine lv_iconst (v := 1) X.1 X.2.1 dX7_sorted_199 (by decide) ?_
    refine lv_iadd X.1 X.2.1 dX7_sorted_200 ?_
    refine ze_nm hf (fun v45 hg => ?_)
    replace hf := hg
    refine lv_istore (lv' := [(4, .int v45), (0, .ref (B + a0)), (1, .int x1), (2, .int x2), (3, .int x3)]) X.1 X.2.1 dX7_sorted_201 hl (by decide) rfl (fun ls hk => ?_)
    replace hl := hk
    exact w_X7_sorted_203 X hr hlk hK0 hf hW (lv_sub hl [1, 4, 0] rfl)
  · replace hf := zif_neg c44 hf
    refine lv_iconst (v := 0) X.1 X.2.1 dX7_sorted_104 (by decide) ?_
    refine lv_istore (lv' := [(5, .int (0 : Int32)), (0, .ref (B + a0)), (1, .int x1), (2, .int x2), (3, .int x3), (4, .int x4)]) X.1 X.2.1 dX7_sorted_105 hl (by decide) rfl (fun ls hk => ?_)
    replace hl := hk
    exact w_X7_sorted_107 X hr hlk hK0 hkself hf hW (lv_sub hl [1, 2, 3, 4, 5, 0] rfl)
set_option maxRecDepth 100000 in
set_option maxHeartbeats 4000000 in
theorem w_X7_sorted_98 {F : Nat} {a0 : Nat}  (X : zX p s m c cX7_sorted 6 RX7 D) (hr : meth.sig.returnType = none) (hlk : meth.locks = false) (hK0 : (K a0).1 = 17)  {t : Nat} {x1 : Int32} {x2 : Int32} {x3 : Int32} {x4 : Int32} (hf : f_X7_sorted_98 F K R a0  t I x1 x2 x3 x4 = some I') (hW : zS (zOwn B K (B + n)) D B n K I R s.heap H locs) (hl : lv_has ls 6 [(0, .ref (B + a0)), (1, .int x1), (2, .int x2), (3, .int x3), (4, .int x4)]) : W p l e ({ frames := 2, cells := 0, slots := 0, locals := 65 } : Room) s m args below meth c H locs 0 0 (MQ below (zQv D (zOwn B K (B + n)) B n K I' R) args s 0 0 (zOwn B K (B + n))) (F0 m 98 ls []) := by
  have key : ∀ t : Nat, ∀ (I : zI) (x1 : Int32) (x2 : Int32) (x3 : Int32) (x4 : Int32) (H : Heap) (locs : List Loc) (ls : Array Slot), f_X7_sorted_98 F K R a0  t I x1 x2 x3 x4 = some I' → zS (zOwn B K (B + n)) D B n K I R s.heap H locs → lv_has ls 6 [(0, .ref (B + a0)), (1, .int x1), (2, .int x2), (3, .int x3), (4, .int x4)] → W p l e ({ frames := 2, cells := 0, slots := 0, locals := 65 } : Room) s m args below meth c H locs 0 0 (MQ below (zQv D (zOwn B K (B + n)) B n K I' R) args s 0 0 (zOwn B K (B + n))) (F0 m 98 ls []) := by
    intro t
    induction t with
    | zero =>
      intro I x1 x2 x3 x4 H locs ls hf hW hl
      cases hf
    | succ t ih =>
      intro I x1 x2 x3 x4 H locs ls hf hW hl
      exact wg_X7_sorted_98 X hr hlk hK0  ih hf hW hl
  exact key t _ _ _ _ _ _ _ _ hf hW hl
set_option maxRecDepth 100000 in
set_option maxHeartbeats 4000000 in
theorem w_X7_sorted_76 {F : Nat} {a0 : Nat} {k11 : zI → Int32 → Int32 → Int32 → Option (zI)} (X : zX p s m c cX7_sorted 6 RX7 D) (hr : meth.sig.returnType = none) (hlk : meth.locks = false) (hK0 : (K a0).1 = 17) (hk11 : ∀ (I : zI) (x1 : Int32) (x2 : Int32) (x3 : Int32) (H : Heap) (locs : List Loc) (ls : Array Slot), k11 I x1 x2 x3 = some I' → zS (zOwn B K (B + n)) D B n K I R s.heap H locs → lv_has ls 6 [(0, .ref (B + a0)), (1, .int x1), (2, .int x2), (3, .int x3)] → W p l e ({ frames := 2, cells := 0, slots := 0, locals := 65 } : Room) s m args below meth c H locs 0 0 (MQ below (zQv D (zOwn B K (B + n)) B n K I' R) args s 0 0 (zOwn B K (B + n))) (F0 m 11 ls [])) {x1 : Int32} {x2 : Int32} {x3 : Int32} {x4 : Int32} {x5 : Int32} (hf : f_X7_sorted_76 F K R a0 k11 I x1 x2 x3 x4 x5 = some I') (hW : zS (zOwn B K (B + n)) D B n K I R s.heap H locs) (hl : lv_has ls 6 [(0, .ref (B + a0)), (1, .int x1), (2, .int x2), (3, .int x3), (4, .int x4), (5, .int x5)]) : W p l e ({ frames := 2, cells := 0, slots := 0, locals := 65 } : Room) s m args below meth c H locs 0 0 (MQ below (zQv D (zOwn B K (B + n)) B n K I' R) args s 0 0 (zOwn B K (B + n))) (F0 m 76 ls []) := by
  unfold f_X7_sorted_76 at hf
  refine lv_aload_n X.1 X.2.1 dX7_sorted_76 rfl (lv_at hl 0 rfl) ?_
  refine ze_gtR X 7 15 42 (RX7, TX7, 39) rfl hf hW hK0 rfl (by decide) kfl_X7_42 dX7_sorted_77 (fun o46 hg => ?_)
  replace hf := hg
  refine lv_iload X.1 X.2.1 dX7_sorted_80 (lv_at hl 5 rfl) ?_
  refine lv_iload X.1 X.2.1 dX7_sorted_82 (lv_at hl 4 rfl) ?_
  obtain ⟨a47, rfl, k49, hg⟩ := zh_dr hf
  replace hf := hg
  refine ze_iast X hf hW k49 dX7_sorted_84 (fun I50 H locs hg hV => ?_)
  replace hf := hg
  replace hW := hV
  refine ze_iinc (lv' := [(3, .int (x3 + (1 : Int32))), (0, .ref (B + a0)), (1, .int x1), (2, .int x2), (4, .int x4), (5, .int x5)]) (d := 1) X.1 X.2.1 dX7_sorted_85 hl (k := 3) rfl (by decide) (by decide) rfl (fun ls hk => ?_)
  replace hl := hk
  refine lv_goto (tgt := 11) X.1 X.2.1 dX7_sorted_88 (by decide) ?_
  exact hk11 _ _ _ _ _ _ _ hf hW (lv_sub hl [1, 2, 3, 0] rfl)
set_option maxRecDepth 100000 in
set_option maxHeartbeats 4000000 in
theorem wg_X7_sorted_31 {F : Nat} {a0 : Nat} {k11 : zI → Int32 → Int32 → Int32 → Option (zI)} (X : zX p s m c cX7_sorted 6 RX7 D) (hr : meth.sig.returnType = none) (hlk : meth.locks = false) (hK0 : (K a0).1 = 17) (hk11 : ∀ (I : zI) (x1 : Int32) (x2 : Int32) (x3 : Int32) (H : Heap) (locs : List Loc) (ls : Array Slot), k11 I x1 x2 x3 = some I' → zS (zOwn B K (B + n)) D B n K I R s.heap H locs → lv_has ls 6 [(0, .ref (B + a0)), (1, .int x1), (2, .int x2), (3, .int x3)] → W p l e ({ frames := 2, cells := 0, slots := 0, locals := 65 } : Room) s m args below meth c H locs 0 0 (MQ below (zQv D (zOwn B K (B + n)) B n K I' R) args s 0 0 (zOwn B K (B + n))) (F0 m 11 ls [])) {kself : zI → Int32 → Int32 → Int32 → Int32 → Int32 → Option (zI)} (hkself : ∀ (I : zI) (x1 : Int32) (x2 : Int32) (x3 : Int32) (x4 : Int32) (x5 : Int32) (H : Heap) (locs : List Loc) (ls : Array Slot), kself I x1 x2 x3 x4 x5 = some I' → zS (zOwn B K (B + n)) D B n K I R s.heap H locs → lv_has ls 6 [(0, .ref (B + a0)), (1, .int x1), (2, .int x2), (3, .int x3), (4, .int x4), (5, .int x5)] → W p l e ({ frames := 2, cells := 0, slots := 0, locals := 65 } : Room) s m args below meth c H locs 0 0 (MQ below (zQv D (zOwn B K (B + n)) B n K I' R) args s 0 0 (zOwn B K (B + n))) (F0 m 31 ls [])) {x1 : Int32} {x2 : Int32} {x3 : Int32} {x4 : Int32} {x5 : Int32} (hf : g_X7_sorted_31 F K R a0 k11 kself I x1 x2 x3 x4 x5 = some I') (hW : zS (zOwn B K (B + n)) D B n K I R s.heap H locs) (hl : lv_has ls 6 [(0, .ref (B + a0)), (1, .int x1), (2, .int x2), (3, .int x3), (4, .int x4), (5, .int x5)]) : W p l e ({ frames := 2, cells := 0, slots := 0, locals := 65 } : Room) s m args below meth c H locs 0 0 (MQ below (zQv D (zOwn B K (B + n)) B n K I' R) args s 0 0 (zOwn B K (B + n))) (F0 m 31 ls []) := by
  unfold g_X7_sorted_31 at hf
  refine lv_iload X.1 X.2.1 dX7_sorted_31 (lv_at hl 5 rfl) ?_
  refine lv_if_le (tgt := 76) X.1 X.2.1 dX7_sorted_33 (by decide) (fun c51 => ?_) (fun c51 => ?_)
  · replace hf := zif_pos c51 hf
    exact w_X7_sorted_76 X hr hlk hK0 hk11 hf hW hl
  · replace hf := zif_neg c51 hf
    refine lv_aload_n X.1 X.2.1 dX7_sorted_36 rfl (lv_at hl 0 rfl) ?_
    refine lv_aload_n X.1 X.2.1 dX7_sorted_37 rfl (lv_at hl 0 rfl) ?_
    refine ze_gtR X 7 15 42 (RX7, TX7, 39) rfl hf hW hK0 rfl (by decide) kfl_X7_42 dX7_sorted_38 (fun o52 hg => ?_)
    replace hf := hg
    refine lv_iload X.1 X.2.1 dX7_sorted_41 (lv_at hl 5 rfl) ?_
    refine lv_iconst (v := 1) X.1 X.2.1 dX7_sorted_43 (by decide) ?_
    refine lv_isub X.1 X.2.1 dX7_sorted_44 ?_
    obtain ⟨a53, rfl, k55, hg⟩ := zh_dr hf
    replace hf := hg
    refine ze_iald X hf hW k55 dX7_sorted_45 (fun v56 hg => ?_)
    replace hf := hg
    refine lv_iload X.1 X.2.1 dX7_sorted_46 (lv_at hl 4 rfl) ?_
    obtain ⟨v57, h58, hg⟩ := zh_bd hf
    replace hf := hg
    refine ze_aftI0 (ze_runV (As := [.int v56, .int x4]) (rest := []) X 7 169 (c_X7_order l D B n hK0 h58) vX7_order kml_X7_169 hW hK0 rfl rfl ⟨by decide, by decide⟩ rfl hl.1 rfl (Nat.le_of_ble_eq_true rfl) ⟨Nat.le_refl _, Nat.le_refl _⟩ dX7_sorted_48) hW (fun H locs hV => ?_)
    replace hW := hV
    refine lv_if_le (tgt := 76) X.1 X.2.1 dX7_sorted_51 (by decide) (fun c59 => ?_) (fun c59 => ?_)
    · replace hf := zif_pos c59 hf
      exact w_X7_sorted_76 X hr hlk hK0 hk11 hf hW hl
    · replace hf := zif_neg c59 hf
      refine lv_aload_n X.1 X.2.1 dX7_sorted_54 rfl (lv_at hl 0 rfl) ?_
      refine ze_gtR X 7 15 42 (RX7, TX7, 39) rfl hf hW hK0 rfl (by decide) kfl_X7_42 dX7_sorted_55 (fun o60 hg => ?_)
      replace hf := hg
      refine lv_iload X.1 X.2.1 dX7_sorted_58 (lv_at hl 5 rfl) ?_
      refine lv_aload_n X.1 X.2.1 dX7_sorted_60 rfl (lv_at hl 0 rfl) ?_
      refine ze_gtR X 7 15 42 (RX7, TX7, 39) rfl hf hW hK0 rfl (by decide) kfl_X7_42 dX7_sorted_61 (fun o61 hg => ?_)
      replace hf := hg
      refine lv_iload X.1 X.2.1 dX7_sorted_64 (lv_at hl 5 rfl) ?_
      refine lv_iconst (v := 1) X.1 X.2.1 dX7_sorted_66 (by decide) ?_
      refine lv_isub X.1 X.2.1 dX7_sorted_67 ?_
      obtain ⟨a62, rfl, k64, hg⟩ := zh_dr hf
      replace hf := hg
      refine ze_iald X hf hW k64 dX7_sorted_68 (fun v65 hg => ?_)
      replace hf := hg
      obtain ⟨a66, rfl, k68, hg⟩ := zh_dr hf
      replace hf := hg
      refine ze_iast X hf hW k68 dX7_sorted_69 (fun I69 H locs hg hV => ?_)
      replace hf := hg
      replace hW := hV
      refine ze_iinc (lv' := [(5, .int (x5 + (-1 : Int32))), (0, .ref (B + a0)), (1, .int x1), (2, .int x2), (3, .int x3), (4, .int x4)]) (d := -1) X.1 X.2.1 dX7_sorted_70 hl (k := 5) rfl (by decide) (by decide) rfl (fun ls hk => ?_)
      replace hl := hk
      refine lv_goto (tgt := 31) X.1 X.2.1 dX7_sorted_73 (by decide) ?_
      exact hkself _ _ _ _ _ _ _ _ _ hf hW (lv_sub hl [1, 2, 3, 4, 5, 0] rfl)
set_option maxRecDepth 100000 in
set_option maxHeartbeats 4000000 in
theorem w_X7_sorted_31 {F : Nat} {a0 : Nat} {k11 : zI → Int32 → Int32 → Int32 → Option (zI)} (X : zX p s m c cX7_sorted 6 RX7 D) (hr : meth.sig.returnType = none) (hlk : meth.locks = false) (hK0 : (K a0).1 = 17) (hk11 : ∀ (I : zI) (x1 : Int32) (x2 : Int32) (x3 : Int32) (H : Heap) (locs : List Loc) (ls : Array Slot), k11 I x1 x2 x3 = some I' → zS (zOwn B K (B + n)) D B n K I R s.heap H locs → lv_has ls 6 [(0, .ref (B + a0)), (1, .int x1), (2, .int x2), (3, .int x3)] → W p l e ({ frames := 2, cells := 0, slots := 0, locals := 65 } : Room) s m args below meth c H locs 0 0 (MQ below (zQv D (zOwn B K (B + n)) B n K I' R) args s 0 0 (zOwn B K (B + n))) (F0 m 11 ls [])) {t : Nat} {x1 : Int32} {x2 : Int32} {x3 : Int32} {x4 : Int32} {x5 : Int32} (hf : f_X7_sorted_31 F K R a0 k11 t I x1 x2 x3 x4 x5 = some I') (hW : zS (zOwn B K (B + n)) D B n K I R s.heap H locs) (hl : lv_has ls 6 [(0, .ref (B + a0)), (1, .int x1), (2, .int x2), (3, .int x3), (4, .int x4), (5, .int x5)]) : W p l e ({ frames := 2, cells := 0, slots := 0, locals := 65 } : Room) s m args below meth c H locs 0 0 (MQ below (zQv D (zOwn B K (B + n)) B n K I' R) args s 0 0 (zOwn B K (B + n))) (F0 m 31 ls []) := by
  have key : ∀ t : Nat, ∀ (I : zI) (x1 : Int32) (x2 : Int32) (x3 : Int32) (x4 : Int32) (x5 : Int32) (H : Heap) (locs : List Loc) (ls : Array Slot), f_X7_sorted_31 F K R a0 k11 t I x1 x2 x3 x4 x5 = some I' → zS (zOwn B K (B + n)) D B n K I R s.heap H locs → lv_has ls 6 [(0, .ref (B + a0)), (1, .int x1), (2, .int x2), (3, .int x3), (4, .int x4), (5, .int x5)] → W p l e ({ frames := 2, cells := 0, slots := 0, locals := 65 } : Room) s m args below meth c H locs 0 0 (MQ below (zQv D (zOwn B K (B + n)) B n K I' R) args s 0 0 (zOwn B K (B + n))) (F0 m 31 ls []) := by
    intro t
    induction t with
    | zero =>
      intro I x1 x2 x3 x4 x5 H locs ls hf hW hl
      cases hf
    | succ t ih =>
      intro I x1 x2 x3 x4 x5 H locs ls hf hW hl
      exact wg_X7_sorted_31 X hr hlk hK0 hk11 ih hf hW hl
  exact key t _ _ _ _ _ _ _ _ _ hf hW hl
set_option maxRecDepth 100000 in
set_option maxHeartbeats 4000000 in
theorem wg_X7_sorted_11 {F : Nat} {a0 : Nat}  (X : zX p s m c cX7_sorted 6 RX7 D) (hr : meth.sig.returnType = none) (hlk : meth.locks = false) (hK0 : (K a0).1 = 17)  {kself : zI → Int32 → Int32 → Int32 → Option (zI)} (hkself : ∀ (I : zI) (x1 : Int32) (x2 : Int32) (x3 : Int32) (H : Heap) (locs : List Loc) (ls : Array Slot), kself I x1 x2 x3 = some I' → zS (zOwn B K (B + n)) D B n K I R s.heap H locs → lv_has ls 6 [(0, .ref (B + a0)), (1, .int x1), (2, .int x2), (3, .int x3)] → W p l e ({ frames := 2, cells := 0, slots := 0, locals := 65 } : Room) s m args below meth c H locs 0 0 (MQ below (zQv D (zOwn B K (B + n)) B n K I' R) args s 0 0 (zOwn B K (B + n))) (F0 m 11 ls [])) {x1 : Int32} {x2 : Int32} {x3 : Int32} (hf : g_X7_sorted_11 F K R a0  kself I x1 x2 x3 = some I') (hW : zS (zOwn B K (B + n)) D B n K I R s.heap H locs) (hl : lv_has ls 6 [(0, .ref (B + a0)), (1, .int x1), (2, .int x2), (3, .int x3)]) : W p l e ({ frames := 2, cells := 0, slots := 0, locals := 65 } : Room) s m args below meth c H locs 0 0 (MQ below (zQv D (zOwn B K (B + n)) B n K I' R) args s 0 0 (zOwn B K (B + n))) (F0 m 11 ls []) := by
  unfold g_X7_sorted_11 at hf
  refine lv_iload_n X.1 X.2.1 dX7_sorted_11 rfl (lv_at hl 3 rfl) ?_
  refine lv_iload_n X.1 X.2.1 dX7_sorted_12 rfl (lv_at hl 2 rfl) ?_
  refine lv_icmp_ge (tgt := 91) X.1 X.2.1 dX7_sorted_13 (by decide) (fun c70 => ?_) (fun c70 => ?_)
  · replace hf := zif_pos c70 hf
    refine lv_iload_n X.1 X.2.1 dX7_sorted_91 rfl (lv_at hl 1 rfl) ?_
    refine lv_iconst (v := 1) X.1 X.2.1 dX7_sorted_92 (by decide) ?_
    refine lv_iadd X.1 X.2.1 dX7_sorted_93 ?_
    refine ze_nm hf (fun v71 hg => ?_)
    replace hf := hg
    refine lv_istore_n (i := 3) (lv' := [(3, .int v71), (0, .ref (B + a0)), (1, .int x1), (2, .int x2)]) X.1 X.2.1 dX7_sorted_94 rfl hl (by decide) rfl (fun ls hk => ?_)
    replace hl := hk
    refine lv_iconst (v := 0) X.1 X.2.1 dX7_sorted_95 (by decide) ?_
    refine lv_istore (lv' := [(4, .int (0 : Int32)), (3, .int v71), (0, .ref (B + a0)), (1, .int x1), (2, .int x2)]) X.1 X.2.1 dX7_sorted_96 hl (by decide) rfl (fun ls hk => ?_)
    replace hl := hk
    exact w_X7_sorted_98 X hr hlk hK0 hf hW (lv_sub hl [2, 3, 4, 1, 0] rfl)
  · replace hf := zif_neg c70 hf
    refine lv_aload_n X.1 X.2.1 dX7_sorted_16 rfl (lv_at hl 0 rfl) ?_
    refine lv_iload_n X.1 X.2.1 dX7_sorted_17 rfl (lv_at hl 1 rfl) ?_
    refine lv_iload_n X.1 X.2.1 dX7_sorted_18 rfl (lv_at hl 3 rfl) ?_
    refine lv_aload_n X.1 X.2.1 dX7_sorted_19 rfl (lv_at hl 0 rfl) ?_
    refine ze_gtR X 7 5 20 (RX7, TX7, 39) rfl hf hW hK0 rfl (by decide) kfl_X7_20 dX7_sorted_20 (fun o72 hg => ?_)
    replace hf := hg
    obtain ⟨v73, h74, hg⟩ := zh_bd hf
    replace hf := hg
    refine ze_aftI0 (ze_runV (As := [.int x1, .int x3, zrf B o72]) (rest := []) X 7 165 (c_X7_child l D B n hK0 h74) vX7_child kml_X7_165 hW hK0 rfl rfl ⟨by decide, by decide⟩ rfl hl.1 rfl (Nat.le_of_ble_eq_true rfl) ⟨Nat.le_refl _, Nat.le_refl _⟩ dX7_sorted_23) hW (fun H locs hV => ?_)
    replace hW := hV
    refine lv_istore (lv' := [(4, .int v73), (0, .ref (B + a0)), (1, .int x1), (2, .int x2), (3, .int x3)]) X.1 X.2.1 dX7_sorted_26 hl (by decide) rfl (fun ls hk => ?_)
    replace hl := hk
    refine lv_iload_n X.1 X.2.1 dX7_sorted_28 rfl (lv_at hl 4 rfl) ?_
    refine lv_istore (lv' := [(5, .int x3), (4, .int v73), (0, .ref (B + a0)), (1, .int x1), (2, .int x2), (3, .int x3)]) X.1 X.2.1 dX7_sorted_29 hl (by decide) rfl (fun ls hk => ?_)
    replace hl := hk
    exact w_X7_sorted_31 X hr hlk hK0 hkself hf hW (lv_sub hl [2, 3, 4, 5, 1, 0] rfl)
set_option maxRecDepth 100000 in
set_option maxHeartbeats 4000000 in
theorem w_X7_sorted_11 {F : Nat} {a0 : Nat}  (X : zX p s m c cX7_sorted 6 RX7 D) (hr : meth.sig.returnType = none) (hlk : meth.locks = false) (hK0 : (K a0).1 = 17)  {t : Nat} {x1 : Int32} {x2 : Int32} {x3 : Int32} (hf : f_X7_sorted_11 F K R a0  t I x1 x2 x3 = some I') (hW : zS (zOwn B K (B + n)) D B n K I R s.heap H locs) (hl : lv_has ls 6 [(0, .ref (B + a0)), (1, .int x1), (2, .int x2), (3, .int x3)]) : W p l e ({ frames := 2, cells := 0, slots := 0, locals := 65 } : Room) s m args below meth c H locs 0 0 (MQ below (zQv D (zOwn B K (B + n)) B n K I' R) args s 0 0 (zOwn B K (B + n))) (F0 m 11 ls []) := by
  have key : ∀ t : Nat, ∀ (I : zI) (x1 : Int32) (x2 : Int32) (x3 : Int32) (H : Heap) (locs : List Loc) (ls : Array Slot), f_X7_sorted_11 F K R a0  t I x1 x2 x3 = some I' → zS (zOwn B K (B + n)) D B n K I R s.heap H locs → lv_has ls 6 [(0, .ref (B + a0)), (1, .int x1), (2, .int x2), (3, .int x3)] → W p l e ({ frames := 2, cells := 0, slots := 0, locals := 65 } : Room) s m args below meth c H locs 0 0 (MQ below (zQv D (zOwn B K (B + n)) B n K I' R) args s 0 0 (zOwn B K (B + n))) (F0 m 11 ls []) := by
    intro t
    induction t with
    | zero =>
      intro I x1 x2 x3 H locs ls hf hW hl
      cases hf
    | succ t ih =>
      intro I x1 x2 x3 H locs ls hf hW hl
      exact wg_X7_sorted_11 X hr hlk hK0  ih hf hW hl
  exact key t _ _ _ _ _ _ _ hf hW hl
set_option maxRecDepth 100000 in
set_option maxHeartbeats 4000000 in
theorem c_X7_sorted (l : Launch) (D : zD) (B n : Nat) {F : Nat} {K : zK} {I : zI} {R : zR} {a0 : Nat} {x1 : Int32} {I' : zI} (hK0 : (K a0).1 = 17) (hf : f_X7_sorted F K I R a0 x1 = some I') : zM l yX7_sorted cX7_sorted 6 (none) ({ frames := 2, cells := 0, slots := 0, locals := 65 } : Room) D B n K I R [.ref (B + a0), .int x1] (zQv D (zOwn B K (B + n)) B n K I' R) := by
  refine ze_entry (lv0 := [(0, .ref (B + a0)), (1, .int x1)]) (by decide) (by simp [lg_sl, zcat, zcat_i, zcat_r, zcat_l]) (by simp [lv_args, zcat, zcat_i, zcat_r, zcat_l]) (fun p e s m below meth c X hr hlk hin hW ls hl => ?_)
  unfold f_X7_sorted at hf
  refine lv_aload_n X.1 X.2.1 dX7_sorted_0 rfl (lv_at hl 0 rfl) ?_
  refine lv_sipush (v := 5460) X.1 X.2.1 dX7_sorted_1 (by decide) ?_
  refine lv_iload_n X.1 X.2.1 dX7_sorted_4 rfl (lv_at hl 1 rfl) ?_
  obtain ⟨v75, h76, hg⟩ := zh_bd hf
  replace hf := hg
  refine ze_aftI0 (ze_runV (As := [.int (5460 : Int32), .int x1]) (rest := []) X 7 111 (c_X7_arguments l D B n hK0 h76) vX7_arguments kml_X7_111 hW hK0 rfl rfl ⟨by decide, by decide⟩ rfl hl.1 rfl (Nat.le_of_ble_eq_true rfl) ⟨Nat.le_refl _, Nat.le_refl _⟩ dX7_sorted_5) hW (fun H locs hV => ?_)
  replace hW := hV
  refine lv_istore_n (i := 2) (lv' := [(2, .int v75), (0, .ref (B + a0)), (1, .int x1)]) X.1 X.2.1 dX7_sorted_8 rfl hl (by decide) rfl (fun ls hk => ?_)
  replace hl := hk
  refine lv_iconst (v := 0) X.1 X.2.1 dX7_sorted_9 (by decide) ?_
  refine lv_istore_n (i := 3) (lv' := [(3, .int (0 : Int32)), (2, .int v75), (0, .ref (B + a0)), (1, .int x1)]) X.1 X.2.1 dX7_sorted_10 rfl hl (by decide) rfl (fun ls hk => ?_)
  replace hl := hk
  exact w_X7_sorted_11 X hr hlk hK0 hf hW (lv_sub hl [2, 3, 1, 0] rfl)
end

/-! LeastPatternsModel.sortsAll()V -/
def f_X7_sortsAll_75 (F : Nat) (K : zK) (R : zR) (a0 : Nat) (k11 : zI → Int32 → Option (zI)) (I : zI) (x1 : Int32) : Option (zI) :=
  k11 I (x1 + (-1 : Int32))
def g_X7_sortsAll_11 (F : Nat) (K : zK) (R : zR) (a0 : Nat)  (kself : zI → Int32 → Option (zI)) (I : zI) (x1 : Int32) : Option (zI) :=
  if x1 < (0 : Int32) then
    some I
  else
    zbd (some (R a0 5)) fun o2 =>
    zbd (f_X7_counts F K I R a0 (5460 : Int32) o2) fun I3 =>
    zbd (f_X7_sort F K I3 R a0 (5460 : Int32) x1) fun v5 =>
    if v5 = (0 : Int32) then
      zbd (f_X7_number F K I3 R a0 (5460 : Int32) x1) fun v8 =>
      zbd (f_X7_isSet F K I3 R a0 (3 : Int32) v8) fun v10 =>
      if v10 = (0 : Int32) then
        f_X7_sortsAll_75 F K R a0 kself I3 x1
      else
        zbd (some (R a0 5)) fun o13 =>
        zbd (f_X7_sequenceOf F K I3 R a0 (5460 : Int32) x1 o13) fun v14 =>
        if v14 = (-9 : Int32) then
          zbd (f_X7_sorted F K I3 R a0 x1) fun I17 =>
          f_X7_sortsAll_75 F K R a0 kself I17 x1
        else
          f_X7_sortsAll_75 F K R a0 kself I3 x1
    else
      f_X7_sortsAll_75 F K R a0 kself I3 x1
def f_X7_sortsAll_11 (F : Nat) (K : zK) (R : zR) (a0 : Nat)  : Nat → zI → Int32 → Option (zI)
  | 0, _, _ => none
  | t + 1, I, x1 => g_X7_sortsAll_11 F K R a0  (f_X7_sortsAll_11 F K R a0  t) I x1
def f_X7_sortsAll (F : Nat) (K : zK) (I : zI) (R : zR) (a0 : Nat)  : Option (zI) :=
  zbd (some (R a0 0)) fun o19 =>
  zbd (zdr K o19 1) fun a20 =>
  zbd (zrd K I a20 (5460 : Int32)) fun v23 =>
  zbd (some (v23 - (1 : Int32))) fun v24 =>
  f_X7_sortsAll_11 F K R a0 F I v24
section
variable {p : Program} {l : Launch} {e : Env} {s : State} {m : MethodId} {args : Array Value} {below : List Frame} {meth : Method} {c : Code} {D : zD} {B n n0 n' fd ld : Nat} {K K0 K' : zK} {I I' : zI} {R R' : zR} {H : Heap} {locs : List Loc} {ls : Array Slot} {r : Int32}
set_option maxRecDepth 100000 in
set_option maxHeartbeats 4000000 in
theorem w_X7_sortsAll_75 {F : Nat} {a0 : Nat} {k11 : zI → Int32 → Option (zI)} (X : zX p s m c cX7_sortsAll 2 RX7 D) (hr : meth.sig.returnType = none) (hlk : meth.locks = false) (hK0 : (K a0).1 = 17) (hk11 : ∀ (I : zI) (x1 : Int32) (H : Heap) (locs : List Loc) (ls : Array Slot), k11 I x1 = some I' → zS (zOwn B K (B + n)) D B n K I R s.heap H locs → lv_has ls 2 [(0, .ref (B + a0)), (1, .int x1)] → W p l e ({ frames := 3, cells := 0, slots := 0, locals := 90 } : Room) s m args below meth c H locs 0 0 (MQ below (zQv D (zOwn B K (B + n)) B n K I' R) args s 0 0 (zOwn B K (B + n))) (F0 m 11 ls [])) {x1 : Int32} (hf : f_X7_sortsAll_75 F K R a0 k11 I x1 = some I') (hW : zS (zOwn B K (B + n)) D B n K I R s.heap H locs) (hl : lv_has ls 2 [(0, .ref (B + a0)), (1, .int x1)]) : W p l e ({ frames := 3, cells := 0, slots := 0, locals := 90 } : Room) s m args below meth c H locs 0 0 (MQ below (zQv D (zOwn B K (B + n)) B n K I' R) args s 0 0 (zOwn B K (B + n))) (F0 m 75 ls []) := by
  unfold f_X7_sortsAll_75 at hf
  refine ze_iinc (lv' := [(1, .int (x1 + (-1 : Int32))), (0, .ref (B + a0))]) (d := -1) X.1 X.2.1 dX7_sortsAll_75 hl (k := 1) rfl (by decide) (by decide) rfl (fun ls hk => ?_)
  replace hl := hk
  refine lv_goto (tgt := 11) X.1 X.2.1 dX7_sortsAll_78 (by decide) ?_
  exact hk11 _ _ _ _ _ hf hW (lv_sub hl [1, 0] rfl)
set_option maxRecDepth 100000 in
set_option maxHeartbeats 4000000 in
theorem wg_X7_sortsAll_11 {F : Nat} {a0 : Nat}  (X : zX p s m c cX7_sortsAll 2 RX7 D) (hr : meth.sig.returnType = none) (hlk : meth.locks = false) (hK0 : (K a0).1 = 17)  {kself : zI → Int32 → Option (zI)} (hkself : ∀ (I : zI) (x1 : Int32) (H : Heap) (locs : List Loc) (ls : Array Slot), kself I x1 = some I' → zS (zOwn B K (B + n)) D B n K I R s.heap H locs → lv_has ls 2 [(0, .ref (B + a0)), (1, .int x1)] → W p l e ({ frames := 3, cells := 0, slots := 0, locals := 90 } : Room) s m args below meth c H locs 0 0 (MQ below (zQv D (zOwn B K (B + n)) B n K I' R) args s 0 0 (zOwn B K (B + n))) (F0 m 11 ls [])) {x1 : Int32} (hf : g_X7_sortsAll_11 F K R a0  kself I x1 = some I') (hW : zS (zOwn B K (B + n)) D B n K I R s.heap H locs) (hl : lv_has ls 2 [(0, .ref (B + a0)), (1, .int x1)]) : W p l e ({ frames := 3, cells := 0, slots := 0, locals := 90 } : Room) s m args below meth c H locs 0 0 (MQ below (zQv D (zOwn B K (B + n)) B n K I' R) args s 0 0 (zOwn B K (B + n))) (F0 m 11 ls []) := by
  unfold g_X7_sortsAll_11 at hf
  refine lv_iload_n X.1 X.2.1 dX7_sortsAll_11 rfl (lv_at hl 1 rfl) ?_
  refine lv_if_lt (tgt := 81) X.1 X.2.1 dX7_sortsAll_12 (by decide) (fun c1 => ?_) (fun c1 => ?_)
  · replace hf := zif_pos c1 hf
    obtain rfl := zi1 hf
    exact ze_retV X hr hlk hW (Nat.le_refl _) (Nat.le_refl _) dX7_sortsAll_81
  · replace hf := zif_neg c1 hf
    refine lv_aload_n X.1 X.2.1 dX7_sortsAll_15 rfl (lv_at hl 0 rfl) ?_
    refine lv_sipush (v := 5460) X.1 X.2.1 dX7_sortsAll_16 (by decide) ?_
    refine lv_aload_n X.1 X.2.1 dX7_sortsAll_19 rfl (lv_at hl 0 rfl) ?_
    refine ze_gtR X 7 5 20 (RX7, TX7, 39) rfl hf hW hK0 rfl (by decide) kfl_X7_20 dX7_sortsAll_20 (fun o2 hg => ?_)
    replace hf := hg
    obtain ⟨I3, h4, hg⟩ := zh_bd hf
    replace hf := hg
    refine ze_aftV0 (ze_runV (As := [.int (5460 : Int32), zrf B o2]) (rest := []) X 7 115 (c_X7_counts l D B n hK0 h4) vX7_counts kml_X7_115 hW hK0 rfl rfl ⟨by decide, by decide⟩ rfl hl.1 rfl (Nat.le_of_ble_eq_true rfl) ⟨Nat.le_refl _, Nat.le_refl _⟩ dX7_sortsAll_23) hW (fun H locs hV => ?_)
    replace hW := hV
    refine lv_aload_n X.1 X.2.1 dX7_sortsAll_26 rfl (lv_at hl 0 rfl) ?_
    refine lv_sipush (v := 5460) X.1 X.2.1 dX7_sortsAll_27 (by decide) ?_
    refine lv_iload_n X.1 X.2.1 dX7_sortsAll_30 rfl (lv_at hl 1 rfl) ?_
    obtain ⟨v5, h6, hg⟩ := zh_bd hf
    replace hf := hg
    refine ze_aftI0 (ze_runV (As := [.int (5460 : Int32), .int x1]) (rest := []) X 7 119 (c_X7_sort l D B n hK0 h6) vX7_sort kml_X7_119 hW hK0 rfl rfl ⟨by decide, by decide⟩ rfl hl.1 rfl (Nat.le_of_ble_eq_true rfl) ⟨Nat.le_refl _, Nat.le_refl _⟩ dX7_sortsAll_31) hW (fun H locs hV => ?_)
    replace hW := hV
    refine lv_if_ne (tgt := 75) X.1 X.2.1 dX7_sortsAll_34 (by decide) (fun c7 => ?_) (fun c7 => ?_)
    · replace hf := zif_neg c7 hf
      exact w_X7_sortsAll_75 X hr hlk hK0 hkself hf hW hl
    · replace hf := zif_pos c7 hf
      refine lv_aload_n X.1 X.2.1 dX7_sortsAll_37 rfl (lv_at hl 0 rfl) ?_
      refine lv_iconst (v := 3) X.1 X.2.1 dX7_sortsAll_38 (by decide) ?_
      refine lv_aload_n X.1 X.2.1 dX7_sortsAll_39 rfl (lv_at hl 0 rfl) ?_
      refine lv_sipush (v := 5460) X.1 X.2.1 dX7_sortsAll_40 (by decide) ?_
      refine lv_iload_n X.1 X.2.1 dX7_sortsAll_43 rfl (lv_at hl 1 rfl) ?_
      obtain ⟨v8, h9, hg⟩ := zh_bd hf
      replace hf := hg
      refine ze_aftI0 (ze_runV (As := [.int (5460 : Int32), .int x1]) (rest := [.int (3 : Int32), .ref (B + a0)]) X 7 159 (c_X7_number l D B n hK0 h9) vX7_number kml_X7_159 hW hK0 rfl rfl ⟨by decide, by decide⟩ rfl hl.1 rfl (Nat.le_of_ble_eq_true rfl) ⟨Nat.le_refl _, Nat.le_refl _⟩ dX7_sortsAll_44) hW (fun H locs hV => ?_)
      replace hW := hV
      obtain ⟨v10, h11, hg⟩ := zh_bd hf
      replace hf := hg
      refine ze_aftI0 (ze_runV (As := [.int (3 : Int32), .int v8]) (rest := []) X 7 162 (c_X7_isSet l D B n hK0 h11) vX7_isSet kml_X7_162 hW hK0 rfl rfl ⟨by decide, by decide⟩ rfl hl.1 rfl (Nat.le_of_ble_eq_true rfl) ⟨Nat.le_refl _, Nat.le_refl _⟩ dX7_sortsAll_47) hW (fun H locs hV => ?_)
      replace hW := hV
      refine lv_if_eq (tgt := 75) X.1 X.2.1 dX7_sortsAll_50 (by decide) (fun c12 => ?_) (fun c12 => ?_)
      · replace hf := zif_pos c12 hf
        exact w_X7_sortsAll_75 X hr hlk hK0 hkself hf hW hl
      · replace hf := zif_neg c12 hf
        refine lv_aload_n X.1 X.2.1 dX7_sortsAll_53 rfl (lv_at hl 0 rfl) ?_
        refine lv_sipush (v := 5460) X.1 X.2.1 dX7_sortsAll_54 (by decide) ?_
        refine lv_iload_n X.1 X.2.1 dX7_sortsAll_57 rfl (lv_at hl 1 rfl) ?_
        refine lv_aload_n X.1 X.2.1 dX7_sortsAll_58 rfl (lv_at hl 0 rfl) ?_
        refine ze_gtR X 7 5 20 (RX7, TX7, 39) rfl hf hW hK0 rfl (by decide) kfl_X7_20 dX7_sortsAll_59 (fun o13 hg => ?_)
        replace hf := hg
        obtain ⟨v14, h15, hg⟩ := zh_bd hf
        replace hf := hg
        refine ze_aftI0 (ze_runV (As := [.int (5460 : Int32), .int x1, zrf B o13]) (rest := []) X 7 172 (c_X7_sequenceOf l D B n hK0 h15) vX7_sequenceOf kml_X7_172 hW hK0 rfl rfl ⟨by decide, by decide⟩ rfl hl.1 rfl (Nat.le_of_ble_eq_true rfl) ⟨Nat.le_refl _, Nat.le_refl _⟩ dX7_sortsAll_62) hW (fun H locs hV => ?_)
        replace hW := hV
        refine lv_bipush (v := -9) X.1 X.2.1 dX7_sortsAll_65 (by decide) ?_
        refine lv_icmp_ne (tgt := 75) X.1 X.2.1 dX7_sortsAll_67 (by decide) (fun c16 => ?_) (fun c16 => ?_)
        · replace hf := zif_neg c16 hf
          exact w_X7_sortsAll_75 X hr hlk hK0 hkself hf hW hl
        · replace hf := zif_pos c16 hf
          refine lv_aload_n X.1 X.2.1 dX7_sortsAll_70 rfl (lv_at hl 0 rfl) ?_
          refine lv_iload_n X.1 X.2.1 dX7_sortsAll_71 rfl (lv_at hl 1 rfl) ?_
          obtain ⟨I17, h18, hg⟩ := zh_bd hf
          replace hf := hg
          refine ze_aftV0 (ze_runV (As := [.int x1]) (rest := []) X 7 175 (c_X7_sorted l D B n hK0 h18) vX7_sorted kml_X7_175 hW hK0 rfl rfl ⟨by decide, by decide⟩ rfl hl.1 rfl (Nat.le_of_ble_eq_true rfl) ⟨Nat.le_refl _, Nat.le_refl _⟩ dX7_sortsAll_72) hW (fun H locs hV => ?_)
          replace hW := hV
          exact w_X7_sortsAll_75 X hr hlk hK0 hkself hf hW hl
set_option maxRecDepth 100000 in
set_option maxHeartbeats 4000000 in
theorem w_X7_sortsAll_11 {F : Nat} {a0 : Nat}  (X : zX p s m c cX7_sortsAll 2 RX7 D) (hr : meth.sig.returnType = none) (hlk : meth.locks = false) (hK0 : (K a0).1 = 17)  {t : Nat} {x1 : Int32} (hf : f_X7_sortsAll_11 F K R a0  t I x1 = some I') (hW : zS (zOwn B K (B + n)) D B n K I R s.heap H locs) (hl : lv_has ls 2 [(0, .ref (B + a0)), (1, .int x1)]) : W p l e ({ frames := 3, cells := 0, slots := 0, locals := 90 } : Room) s m args below meth c H locs 0 0 (MQ below (zQv D (zOwn B K (B + n)) B n K I' R) args s 0 0 (zOwn B K (B + n))) (F0 m 11 ls []) := by
  have key : ∀ t : Nat, ∀ (I : zI) (x1 : Int32) (H : Heap) (locs : List Loc) (ls : Array Slot), f_X7_sortsAll_11 F K R a0  t I x1 = some I' → zS (zOwn B K (B + n)) D B n K I R s.heap H locs → lv_has ls 2 [(0, .ref (B + a0)), (1, .int x1)] → W p l e ({ frames := 3, cells := 0, slots := 0, locals := 90 } : Room) s m args below meth c H locs 0 0 (MQ below (zQv D (zOwn B K (B + n)) B n K I' R) args s 0 0 (zOwn B K (B + n))) (F0 m 11 ls []) := by
    intro t
    induction t with
    | zero =>
      intro I x1 H locs ls hf hW hl
      cases hf
    | succ t ih =>
      intro I x1 H locs ls hf hW hl
      exact wg_X7_sortsAll_11 X hr hlk hK0  ih hf hW hl
  exact key t _ _ _ _ _ hf hW hl
set_option maxRecDepth 100000 in
set_option maxHeartbeats 4000000 in
theorem c_X7_sortsAll (l : Launch) (D : zD) (B n : Nat) {F : Nat} {K : zK} {I : zI} {R : zR} {a0 : Nat}  {I' : zI} (hK0 : (K a0).1 = 17) (hf : f_X7_sortsAll F K I R a0  = some I') : zM l yX7_sortsAll cX7_sortsAll 2 (none) ({ frames := 3, cells := 0, slots := 0, locals := 90 } : Room) D B n K I R [.ref (B + a0)] (zQv D (zOwn B K (B + n)) B n K I' R) := by
  refine ze_entry (lv0 := [(0, .ref (B + a0))]) (by decide) (by simp [lg_sl, zcat, zcat_i, zcat_r, zcat_l]) (by simp [lv_args, zcat, zcat_i, zcat_r, zcat_l]) (fun p e s m below meth c X hr hlk hin hW ls hl => ?_)
  unfold f_X7_sortsAll at hf
  refine lv_aload_n X.1 X.2.1 dX7_sortsAll_0 rfl (lv_at hl 0 rfl) ?_
  refine ze_gtR X 7 0 7 (RX7, TX7, 39) rfl hf hW hK0 rfl (by decide) kfl_X7_7 dX7_sortsAll_1 (fun o19 hg => ?_)
  replace hf := hg
  refine lv_sipush (v := 5460) X.1 X.2.1 dX7_sortsAll_4 (by decide) ?_
  obtain ⟨a20, rfl, k22, hg⟩ := zh_dr hf
  replace hf := hg
  refine ze_iald X hf hW k22 dX7_sortsAll_7 (fun v23 hg => ?_)
  replace hf := hg
  refine lv_iconst (v := 1) X.1 X.2.1 dX7_sortsAll_8 (by decide) ?_
  refine lv_isub X.1 X.2.1 dX7_sortsAll_9 ?_
  refine ze_nm hf (fun v24 hg => ?_)
  replace hf := hg
  refine lv_istore_n (i := 1) (lv' := [(1, .int v24), (0, .ref (B + a0))]) X.1 X.2.1 dX7_sortsAll_10 rfl hl (by decide) rfl (fun ls hk => ?_)
  replace hl := hk
  exact w_X7_sortsAll_11 X hr hlk hK0 hf hW (lv_sub hl [1, 0] rfl)
end

/-! LeastPatternsModel.isRegister(I)Z -/
def f_X7_isRegister (F : Nat) (K : zK) (I : zI) (R : zR) (x0 : Int32) : Option (Int32) :=
  zbd (f_X7_in F K I R x0 (0 : Int32) (7 : Int32)) fun v1 =>
  if v1 = 0 ∨ v1 = 1 then
  some v1
  else
  none
section
variable {p : Program} {l : Launch} {e : Env} {s : State} {m : MethodId} {args : Array Value} {below : List Frame} {meth : Method} {c : Code} {D : zD} {B n n0 n' fd ld : Nat} {K K0 K' : zK} {I I' : zI} {R R' : zR} {H : Heap} {locs : List Loc} {ls : Array Slot} {r : Int32}
set_option maxRecDepth 100000 in
set_option maxHeartbeats 4000000 in
theorem c_X7_isRegister (l : Launch) (D : zD) (B n : Nat) {F : Nat} {K : zK} {I : zI} {R : zR} {x0 : Int32} {r : Int32} (hf : f_X7_isRegister F K I R x0 = some r) : zM l yX7_isRegister cX7_isRegister 1 (some .boolean) ({ frames := 2, cells := 0, slots := 0, locals := 62 } : Room) D B n K I R [.int x0] (zQi D (zOwn B K (B + n)) r B n K I R) := by
  refine ze_entry (lv0 := [(0, .int x0)]) (by decide) (by simp [lg_sl, zcat, zcat_i, zcat_r, zcat_l]) (by simp [lv_args, zcat, zcat_i, zcat_r, zcat_l]) (fun p e s m below meth c X hr hlk hin hW ls hl => ?_)
  unfold f_X7_isRegister at hf
  refine lv_iload_n X.1 X.2.1 dX7_isRegister_0 rfl (lv_at hl 0 rfl) ?_
  refine lv_iconst (v := 0) X.1 X.2.1 dX7_isRegister_1 (by decide) ?_
  refine lv_bipush (v := 7) X.1 X.2.1 dX7_isRegister_2 (by decide) ?_
  obtain ⟨v1, h2, hg⟩ := zh_bd hf
  replace hf := hg
  refine ze_aftI0 (ze_runS (As := [.int x0, .int (0 : Int32), .int (7 : Int32)]) (rest := []) X 122 (c_X7_in l D B n h2) vX7_in kml_X7_122 hW ⟨by decide, by decide⟩ rfl hl.1 rfl (Nat.le_of_ble_eq_true rfl) ⟨Nat.le_refl _, Nat.le_refl _⟩ dX7_isRegister_4) hW (fun H locs hV => ?_)
  replace hW := hV
  obtain ⟨hv3, hg⟩ := zh_if hf
  replace hf := hg
  obtain rfl := zi1 hf
  exact ze_retZ X hr hlk hv3 hW (Nat.le_refl _) (Nat.le_refl _) dX7_isRegister_7
end

/-! LeastPatternsModel.isEmpty(I)Z -/
def f_X7_isEmpty (F : Nat) (K : zK) (I : zI) (R : zR) (a0 : Nat) (x1 : Int32) : Option (Int32) :=
  zbd (some (R a0 0)) fun o1 =>
  zbd (zdr K o1 1) fun a2 =>
  zbd (zrd K I a2 ((97 : Int32) * x1)) fun v5 =>
  if v5 = (0 : Int32) then
    some (1 : Int32)
  else
    some (0 : Int32)
section
variable {p : Program} {l : Launch} {e : Env} {s : State} {m : MethodId} {args : Array Value} {below : List Frame} {meth : Method} {c : Code} {D : zD} {B n n0 n' fd ld : Nat} {K K0 K' : zK} {I I' : zI} {R R' : zR} {H : Heap} {locs : List Loc} {ls : Array Slot} {r : Int32}
set_option maxRecDepth 100000 in
set_option maxHeartbeats 4000000 in
theorem c_X7_isEmpty (l : Launch) (D : zD) (B n : Nat) {F : Nat} {K : zK} {I : zI} {R : zR} {a0 : Nat} {x1 : Int32} {r : Int32} (hK0 : (K a0).1 = 17) (hf : f_X7_isEmpty F K I R a0 x1 = some r) : zM l yX7_isEmpty cX7_isEmpty 2 (some .boolean) ({ frames := 1, cells := 0, slots := 0, locals := 40 } : Room) D B n K I R [.ref (B + a0), .int x1] (zQi D (zOwn B K (B + n)) r B n K I R) := by
  refine ze_entry (lv0 := [(0, .ref (B + a0)), (1, .int x1)]) (by decide) (by simp [lg_sl, zcat, zcat_i, zcat_r, zcat_l]) (by simp [lv_args, zcat, zcat_i, zcat_r, zcat_l]) (fun p e s m below meth c X hr hlk hin hW ls hl => ?_)
  unfold f_X7_isEmpty at hf
  refine lv_aload_n X.1 X.2.1 dX7_isEmpty_0 rfl (lv_at hl 0 rfl) ?_
  refine ze_gtR X 7 0 7 (RX7, TX7, 39) rfl hf hW hK0 rfl (by decide) kfl_X7_7 dX7_isEmpty_1 (fun o1 hg => ?_)
  replace hf := hg
  refine lv_bipush (v := 97) X.1 X.2.1 dX7_isEmpty_4 (by decide) ?_
  refine lv_iload_n X.1 X.2.1 dX7_isEmpty_6 rfl (lv_at hl 1 rfl) ?_
  refine lv_imul X.1 X.2.1 dX7_isEmpty_7 ?_
  obtain ⟨a2, rfl, k4, hg⟩ := zh_dr hf
  replace hf := hg
  refine ze_iald X hf hW k4 dX7_isEmpty_8 (fun v5 hg => ?_)
  replace hf := hg
  refine lv_if_ne (tgt := 16) X.1 X.2.1 dX7_isEmpty_9 (by decide) (fun c6 => ?_) (fun c6 => ?_)
  · replace hf := zif_neg c6 hf
    refine lv_iconst (v := 0) X.1 X.2.1 dX7_isEmpty_16 (by decide) ?_
    obtain rfl := zi1 hf
    exact ze_retZ X hr hlk (by decide) hW (Nat.le_refl _) (Nat.le_refl _) dX7_isEmpty_17
  · replace hf := zif_pos c6 hf
    refine lv_iconst (v := 1) X.1 X.2.1 dX7_isEmpty_12 (by decide) ?_
    refine lv_goto (tgt := 17) X.1 X.2.1 dX7_isEmpty_13 (by decide) ?_
    obtain rfl := zi1 hf
    exact ze_retZ X hr hlk (by decide) hW (Nat.le_refl _) (Nat.le_refl _) dX7_isEmpty_17
end

/-! LeastPatternsModel.puts(II)I -/
def f_X7_puts (F : Nat) (K : zK) (I : zI) (R : zR) (a0 : Nat) (x1 : Int32) (x2 : Int32) : Option (Int32 × zI) :=
  zbd (f_X7_copies F K I R a0 x1 ((97 : Int32) * x2)) fun I1 =>
  zbd (some (R a0 0)) fun o3 =>
  zbd (zdr K o3 1) fun a4 =>
  zbd (zrd K I1 a4 ((97 : Int32) * x2)) fun v7 =>
  some (v7, I1)
section
variable {p : Program} {l : Launch} {e : Env} {s : State} {m : MethodId} {args : Array Value} {below : List Frame} {meth : Method} {c : Code} {D : zD} {B n n0 n' fd ld : Nat} {K K0 K' : zK} {I I' : zI} {R R' : zR} {H : Heap} {locs : List Loc} {ls : Array Slot} {r : Int32}
set_option maxRecDepth 100000 in
set_option maxHeartbeats 4000000 in
theorem c_X7_puts (l : Launch) (D : zD) (B n : Nat) {F : Nat} {K : zK} {I : zI} {R : zR} {a0 : Nat} {x1 : Int32} {x2 : Int32} {r : Int32} {I' : zI} (hK0 : (K a0).1 = 17) (hf : f_X7_puts F K I R a0 x1 x2 = some (r, I')) : zM l yX7_puts cX7_puts 3 (some .int) ({ frames := 2, cells := 0, slots := 0, locals := 63 } : Room) D B n K I R [.ref (B + a0), .int x1, .int x2] (zQi D (zOwn B K (B + n)) r B n K I' R) := by
  refine ze_entry (lv0 := [(0, .ref (B + a0)), (1, .int x1), (2, .int x2)]) (by decide) (by simp [lg_sl, zcat, zcat_i, zcat_r, zcat_l]) (by simp [lv_args, zcat, zcat_i, zcat_r, zcat_l]) (fun p e s m below meth c X hr hlk hin hW ls hl => ?_)
  unfold f_X7_puts at hf
  refine lv_aload_n X.1 X.2.1 dX7_puts_0 rfl (lv_at hl 0 rfl) ?_
  refine lv_iload_n X.1 X.2.1 dX7_puts_1 rfl (lv_at hl 1 rfl) ?_
  refine lv_bipush (v := 97) X.1 X.2.1 dX7_puts_2 (by decide) ?_
  refine lv_iload_n X.1 X.2.1 dX7_puts_4 rfl (lv_at hl 2 rfl) ?_
  refine lv_imul X.1 X.2.1 dX7_puts_5 ?_
  obtain ⟨I1, h2, hg⟩ := zh_bd hf
  replace hf := hg
  refine ze_aftV0 (ze_runV (As := [.int x1, .int ((97 : Int32) * x2)]) (rest := []) X 7 178 (c_X7_copies l D B n hK0 h2) vX7_copies kml_X7_178 hW hK0 rfl rfl ⟨by decide, by decide⟩ rfl hl.1 rfl (Nat.le_of_ble_eq_true rfl) ⟨Nat.le_refl _, Nat.le_refl _⟩ dX7_puts_6) hW (fun H locs hV => ?_)
  replace hW := hV
  refine lv_aload_n X.1 X.2.1 dX7_puts_9 rfl (lv_at hl 0 rfl) ?_
  refine ze_gtR X 7 0 7 (RX7, TX7, 39) rfl hf hW hK0 rfl (by decide) kfl_X7_7 dX7_puts_10 (fun o3 hg => ?_)
  replace hf := hg
  refine lv_bipush (v := 97) X.1 X.2.1 dX7_puts_13 (by decide) ?_
  refine lv_iload_n X.1 X.2.1 dX7_puts_15 rfl (lv_at hl 2 rfl) ?_
  refine lv_imul X.1 X.2.1 dX7_puts_16 ?_
  obtain ⟨a4, rfl, k6, hg⟩ := zh_dr hf
  replace hf := hg
  refine ze_iald X hf hW k6 dX7_puts_17 (fun v7 hg => ?_)
  replace hf := hg
  obtain ⟨rfl, rfl⟩ := zi2 hf
  exact ze_retI X hr hlk hW (Nat.le_refl _) (Nat.le_refl _) dX7_puts_18
end

/-! LeastPatternsModel.put(I)I -/
def f_X7_put (F : Nat) (K : zK) (I : zI) (R : zR) (a0 : Nat) (x1 : Int32) : Option (Int32 × zI) :=
  zbd (f_X7_isRegister F K I R x1) fun v1 =>
  if v1 = (0 : Int32) then
    some ((-1 : Int32), I)
  else
    zbd (some (zup I a0 4 (-9 : Int32))) fun I4 =>
    zbd2 (f_X7_reads F K I4 R a0) fun v5 I6 =>
    if v5 = (0 : Int32) then
      some ((-10 : Int32) - (I6 a0 13), I6)
    else
      zbd (f_X7_flattens F K I6 R a0) fun I9 =>
      zbd2 (f_X7_isSound F K I9 R a0) fun v11 I12 =>
      if v11 = (0 : Int32) then
        zbd (some (zup I12 a0 4 (5 : Int32))) fun I22 =>
        some ((-10 : Int32) - (I22 a0 3), I22)
      else
        zbd (f_X7_sortsAll F K I12 R a0) fun I15 =>
        zbd (f_X7_records F K I15 R a0) fun I17 =>
        zbd2 (f_X7_puts F K I17 R a0 (5460 : Int32) x1) fun v19 I20 =>
        some (v19, I20)
section
variable {p : Program} {l : Launch} {e : Env} {s : State} {m : MethodId} {args : Array Value} {below : List Frame} {meth : Method} {c : Code} {D : zD} {B n n0 n' fd ld : Nat} {K K0 K' : zK} {I I' : zI} {R R' : zR} {H : Heap} {locs : List Loc} {ls : Array Slot} {r : Int32}
set_option maxRecDepth 100000 in
set_option maxHeartbeats 4000000 in
theorem c_X7_put (l : Launch) (D : zD) (B n : Nat) {F : Nat} {K : zK} {I : zI} {R : zR} {a0 : Nat} {x1 : Int32} {r : Int32} {I' : zI} (hK0 : (K a0).1 = 17) (hf : f_X7_put F K I R a0 x1 = some (r, I')) : zM l yX7_put cX7_put 2 (some .int) ({ frames := 5, cells := 0, slots := 0, locals := 135 } : Room) D B n K I R [.ref (B + a0), .int x1] (zQi D (zOwn B K (B + n)) r B n K I' R) := by
  refine ze_entry (lv0 := [(0, .ref (B + a0)), (1, .int x1)]) (by decide) (by simp [lg_sl, zcat, zcat_i, zcat_r, zcat_l]) (by simp [lv_args, zcat, zcat_i, zcat_r, zcat_l]) (fun p e s m below meth c X hr hlk hin hW ls hl => ?_)
  unfold f_X7_put at hf
  refine lv_iload_n X.1 X.2.1 dX7_put_0 rfl (lv_at hl 1 rfl) ?_
  obtain ⟨v1, h2, hg⟩ := zh_bd hf
  replace hf := hg
  refine ze_aftI0 (ze_runS (As := [.int x1]) (rest := []) X 182 (c_X7_isRegister l D B n h2) vX7_isRegister kml_X7_182 hW ⟨by decide, by decide⟩ rfl hl.1 rfl (Nat.le_of_ble_eq_true rfl) ⟨Nat.le_refl _, Nat.le_refl _⟩ dX7_put_1) hW (fun H locs hV => ?_)
  replace hW := hV
  refine lv_if_ne (tgt := 9) X.1 X.2.1 dX7_put_4 (by decide) (fun c3 => ?_) (fun c3 => ?_)
  · replace hf := zif_neg c3 hf
    refine lv_aload_n X.1 X.2.1 dX7_put_9 rfl (lv_at hl 0 rfl) ?_
    refine lv_bipush (v := -9) X.1 X.2.1 dX7_put_10 (by decide) ?_
    refine ze_putI X 7 4 16 (RX7, TX7, 39) rfl hf hW hK0 rfl (by decide) kfl_X7_16 rfl (by decide +kernel) dX7_put_12 (fun I4 H locs hg hV => ?_)
    replace hf := hg
    replace hW := hV
    refine lv_aload_n X.1 X.2.1 dX7_put_15 rfl (lv_at hl 0 rfl) ?_
    obtain ⟨v5, I6, h7, hg⟩ := zh_bd2 hf
    replace hf := hg
    refine ze_aftI0 (ze_runV (As := []) (rest := []) X 7 186 (c_X7_reads l D B n hK0 h7) vX7_reads kml_X7_186 hW hK0 rfl rfl ⟨by decide, by decide⟩ rfl hl.1 rfl (Nat.le_of_ble_eq_true rfl) ⟨Nat.le_refl _, Nat.le_refl _⟩ dX7_put_16) hW (fun H locs hV => ?_)
    replace hW := hV
    refine lv_if_ne (tgt := 30) X.1 X.2.1 dX7_put_19 (by decide) (fun c8 => ?_) (fun c8 => ?_)
    · replace hf := zif_neg c8 hf
      refine lv_aload_n X.1 X.2.1 dX7_put_30 rfl (lv_at hl 0 rfl) ?_
      obtain ⟨I9, h10, hg⟩ := zh_bd hf
      replace hf := hg
      refine ze_aftV0 (ze_runV (As := []) (rest := []) X 7 189 (c_X7_flattens l D B n hK0 h10) vX7_flattens kml_X7_189 hW hK0 rfl rfl ⟨by decide, by decide⟩ rfl hl.1 rfl (Nat.le_of_ble_eq_true rfl) ⟨Nat.le_refl _, Nat.le_refl _⟩ dX7_put_31) hW (fun H locs hV => ?_)
      replace hW := hV
      refine lv_aload_n X.1 X.2.1 dX7_put_34 rfl (lv_at hl 0 rfl) ?_
      obtain ⟨v11, I12, h13, hg⟩ := zh_bd2 hf
      replace hf := hg
      refine ze_aftI0 (ze_runV (As := []) (rest := []) X 7 192 (c_X7_isSound l D B n hK0 h13) vX7_isSound kml_X7_192 hW hK0 rfl rfl ⟨by decide, by decide⟩ rfl hl.1 rfl (Nat.le_of_ble_eq_true rfl) ⟨Nat.le_refl _, Nat.le_refl _⟩ dX7_put_35) hW (fun H locs hV => ?_)
      replace hW := hV
      refine lv_if_ne (tgt := 54) X.1 X.2.1 dX7_put_38 (by decide) (fun c14 => ?_) (fun c14 => ?_)
      · replace hf := zif_neg c14 hf
        refine lv_aload_n X.1 X.2.1 dX7_put_54 rfl (lv_at hl 0 rfl) ?_
        obtain ⟨I15, h16, hg⟩ := zh_bd hf
        replace hf := hg
        refine ze_aftV0 (ze_runV (As := []) (rest := []) X 7 195 (c_X7_sortsAll l D B n hK0 h16) vX7_sortsAll kml_X7_195 hW hK0 rfl rfl ⟨by decide, by decide⟩ rfl hl.1 rfl (Nat.le_of_ble_eq_true rfl) ⟨Nat.le_refl _, Nat.le_refl _⟩ dX7_put_55) hW (fun H locs hV => ?_)
        replace hW := hV
        refine lv_aload_n X.1 X.2.1 dX7_put_58 rfl (lv_at hl 0 rfl) ?_
        obtain ⟨I17, h18, hg⟩ := zh_bd hf
        replace hf := hg
        refine ze_aftV0 (ze_runV (As := []) (rest := []) X 7 198 (c_X7_records l D B n hK0 h18) vX7_records kml_X7_198 hW hK0 rfl rfl ⟨by decide, by decide⟩ rfl hl.1 rfl (Nat.le_of_ble_eq_true rfl) ⟨Nat.le_refl _, Nat.le_refl _⟩ dX7_put_59) hW (fun H locs hV => ?_)
        replace hW := hV
        refine lv_aload_n X.1 X.2.1 dX7_put_62 rfl (lv_at hl 0 rfl) ?_
        refine lv_sipush (v := 5460) X.1 X.2.1 dX7_put_63 (by decide) ?_
        refine lv_iload_n X.1 X.2.1 dX7_put_66 rfl (lv_at hl 1 rfl) ?_
        obtain ⟨v19, I20, h21, hg⟩ := zh_bd2 hf
        replace hf := hg
        refine ze_aftI0 (ze_runV (As := [.int (5460 : Int32), .int x1]) (rest := []) X 7 201 (c_X7_puts l D B n hK0 h21) vX7_puts kml_X7_201 hW hK0 rfl rfl ⟨by decide, by decide⟩ rfl hl.1 rfl (Nat.le_of_ble_eq_true rfl) ⟨Nat.le_refl _, Nat.le_refl _⟩ dX7_put_67) hW (fun H locs hV => ?_)
        replace hW := hV
        obtain ⟨rfl, rfl⟩ := zi2 hf
        exact ze_retI X hr hlk hW (Nat.le_refl _) (Nat.le_refl _) dX7_put_70
      · replace hf := zif_pos c14 hf
        refine lv_aload_n X.1 X.2.1 dX7_put_41 rfl (lv_at hl 0 rfl) ?_
        refine lv_iconst (v := 5) X.1 X.2.1 dX7_put_42 (by decide) ?_
        refine ze_putI X 7 4 16 (RX7, TX7, 39) rfl hf hW hK0 rfl (by decide) kfl_X7_16 rfl (by decide +kernel) dX7_put_43 (fun I22 H locs hg hV => ?_)
        replace hf := hg
        replace hW := hV
        refine lv_bipush (v := -10) X.1 X.2.1 dX7_put_46 (by decide) ?_
        refine lv_aload_n X.1 X.2.1 dX7_put_48 rfl (lv_at hl 0 rfl) ?_
        refine ze_getI X 7 3 126 (RX7, TX7, 39) rfl hW hK0 rfl (by decide) kfl_X7_126 dX7_put_49 ?_
        refine lv_isub X.1 X.2.1 dX7_put_52 ?_
        obtain ⟨rfl, rfl⟩ := zi2 hf
        exact ze_retI X hr hlk hW (Nat.le_refl _) (Nat.le_refl _) dX7_put_53
    · replace hf := zif_pos c8 hf
      refine lv_bipush (v := -10) X.1 X.2.1 dX7_put_22 (by decide) ?_
      refine lv_aload_n X.1 X.2.1 dX7_put_24 rfl (lv_at hl 0 rfl) ?_
      refine ze_getI X 7 13 129 (RX7, TX7, 39) rfl hW hK0 rfl (by decide) kfl_X7_129 dX7_put_25 ?_
      refine lv_isub X.1 X.2.1 dX7_put_28 ?_
      obtain ⟨rfl, rfl⟩ := zi2 hf
      exact ze_retI X hr hlk hW (Nat.le_refl _) (Nat.le_refl _) dX7_put_29
  · replace hf := zif_pos c3 hf
    refine lv_iconst (v := -1) X.1 X.2.1 dX7_put_7 (by decide) ?_
    obtain ⟨rfl, rfl⟩ := zi2 hf
    exact ze_retI X hr hlk hW (Nat.le_refl _) (Nat.le_refl _) dX7_put_8
end

/-! LeastPatternsModel.fault()I -/
def f_X7_fault (F : Nat) (K : zK) (I : zI) (R : zR) (a0 : Nat)  : Option (Int32) :=
  some (I a0 4)
section
variable {p : Program} {l : Launch} {e : Env} {s : State} {m : MethodId} {args : Array Value} {below : List Frame} {meth : Method} {c : Code} {D : zD} {B n n0 n' fd ld : Nat} {K K0 K' : zK} {I I' : zI} {R R' : zR} {H : Heap} {locs : List Loc} {ls : Array Slot} {r : Int32}
set_option maxRecDepth 100000 in
set_option maxHeartbeats 4000000 in
theorem c_X7_fault (l : Launch) (D : zD) (B n : Nat) {F : Nat} {K : zK} {I : zI} {R : zR} {a0 : Nat}  {r : Int32} (hK0 : (K a0).1 = 17) (hf : f_X7_fault F K I R a0  = some r) : zM l yX7_fault cX7_fault 1 (some .int) ({ frames := 1, cells := 0, slots := 0, locals := 40 } : Room) D B n K I R [.ref (B + a0)] (zQi D (zOwn B K (B + n)) r B n K I R) := by
  refine ze_entry (lv0 := [(0, .ref (B + a0))]) (by decide) (by simp [lg_sl, zcat, zcat_i, zcat_r, zcat_l]) (by simp [lv_args, zcat, zcat_i, zcat_r, zcat_l]) (fun p e s m below meth c X hr hlk hin hW ls hl => ?_)
  unfold f_X7_fault at hf
  refine lv_aload_n X.1 X.2.1 dX7_fault_0 rfl (lv_at hl 0 rfl) ?_
  refine ze_getI X 7 4 16 (RX7, TX7, 39) rfl hW hK0 rfl (by decide) kfl_X7_16 dX7_fault_1 ?_
  obtain rfl := zi1 hf
  exact ze_retI X hr hlk hW (Nat.le_refl _) (Nat.le_refl _) dX7_fault_4
end

/-! LeastPatternsModel.empty(I)I -/
def f_X7_empty (F : Nat) (K : zK) (I : zI) (R : zR) (a0 : Nat) (x1 : Int32) : Option (Int32 × zI) :=
  zbd (f_X7_isRegister F K I R x1) fun v1 =>
  if v1 = (0 : Int32) then
    some ((-1 : Int32), I)
  else
    zbd (f_X7_isEmpty F K I R a0 x1) fun v4 =>
    if v4 = (0 : Int32) then
      zbd (f_X7_records F K I R a0) fun I7 =>
      zbd (some (R a0 0)) fun o9 =>
      zbd (zdr K o9 1) fun a10 =>
      zbd (zrd K I7 a10 ((97 : Int32) * x1)) fun v13 =>
      zbd (some (R a0 0)) fun o14 =>
      zbd (zdr K o14 1) fun a15 =>
      zbd (zwr K I7 a15 ((97 : Int32) * x1) (0 : Int32)) fun I18 =>
      some (v13, I18)
    else
      some ((-2 : Int32), I)
section
variable {p : Program} {l : Launch} {e : Env} {s : State} {m : MethodId} {args : Array Value} {below : List Frame} {meth : Method} {c : Code} {D : zD} {B n n0 n' fd ld : Nat} {K K0 K' : zK} {I I' : zI} {R R' : zR} {H : Heap} {locs : List Loc} {ls : Array Slot} {r : Int32}
set_option maxRecDepth 100000 in
set_option maxHeartbeats 4000000 in
theorem c_X7_empty (l : Launch) (D : zD) (B n : Nat) {F : Nat} {K : zK} {I : zI} {R : zR} {a0 : Nat} {x1 : Int32} {r : Int32} {I' : zI} (hK0 : (K a0).1 = 17) (hf : f_X7_empty F K I R a0 x1 = some (r, I')) : zM l yX7_empty cX7_empty 3 (some .int) ({ frames := 3, cells := 0, slots := 0, locals := 82 } : Room) D B n K I R [.ref (B + a0), .int x1] (zQi D (zOwn B K (B + n)) r B n K I' R) := by
  refine ze_entry (lv0 := [(0, .ref (B + a0)), (1, .int x1)]) (by decide) (by simp [lg_sl, zcat, zcat_i, zcat_r, zcat_l]) (by simp [lv_args, zcat, zcat_i, zcat_r, zcat_l]) (fun p e s m below meth c X hr hlk hin hW ls hl => ?_)
  unfold f_X7_empty at hf
  refine lv_iload_n X.1 X.2.1 dX7_empty_0 rfl (lv_at hl 1 rfl) ?_
  obtain ⟨v1, h2, hg⟩ := zh_bd hf
  replace hf := hg
  refine ze_aftI0 (ze_runS (As := [.int x1]) (rest := []) X 182 (c_X7_isRegister l D B n h2) vX7_isRegister kml_X7_182 hW ⟨by decide, by decide⟩ rfl hl.1 rfl (Nat.le_of_ble_eq_true rfl) ⟨Nat.le_refl _, Nat.le_refl _⟩ dX7_empty_1) hW (fun H locs hV => ?_)
  replace hW := hV
  refine lv_if_ne (tgt := 9) X.1 X.2.1 dX7_empty_4 (by decide) (fun c3 => ?_) (fun c3 => ?_)
  · replace hf := zif_neg c3 hf
    refine lv_aload_n X.1 X.2.1 dX7_empty_9 rfl (lv_at hl 0 rfl) ?_
    refine lv_iload_n X.1 X.2.1 dX7_empty_10 rfl (lv_at hl 1 rfl) ?_
    obtain ⟨v4, h5, hg⟩ := zh_bd hf
    replace hf := hg
    refine ze_aftI0 (ze_runV (As := [.int x1]) (rest := []) X 7 204 (c_X7_isEmpty l D B n hK0 h5) vX7_isEmpty kml_X7_204 hW hK0 rfl rfl ⟨by decide, by decide⟩ rfl hl.1 rfl (Nat.le_of_ble_eq_true rfl) ⟨Nat.le_refl _, Nat.le_refl _⟩ dX7_empty_11) hW (fun H locs hV => ?_)
    replace hW := hV
    refine lv_if_eq (tgt := 20) X.1 X.2.1 dX7_empty_14 (by decide) (fun c6 => ?_) (fun c6 => ?_)
    · replace hf := zif_pos c6 hf
      refine lv_aload_n X.1 X.2.1 dX7_empty_20 rfl (lv_at hl 0 rfl) ?_
      obtain ⟨I7, h8, hg⟩ := zh_bd hf
      replace hf := hg
      refine ze_aftV0 (ze_runV (As := []) (rest := []) X 7 198 (c_X7_records l D B n hK0 h8) vX7_records kml_X7_198 hW hK0 rfl rfl ⟨by decide, by decide⟩ rfl hl.1 rfl (Nat.le_of_ble_eq_true rfl) ⟨Nat.le_refl _, Nat.le_refl _⟩ dX7_empty_21) hW (fun H locs hV => ?_)
      replace hW := hV
      refine lv_aload_n X.1 X.2.1 dX7_empty_24 rfl (lv_at hl 0 rfl) ?_
      refine ze_gtR X 7 0 7 (RX7, TX7, 39) rfl hf hW hK0 rfl (by decide) kfl_X7_7 dX7_empty_25 (fun o9 hg => ?_)
      replace hf := hg
      refine lv_bipush (v := 97) X.1 X.2.1 dX7_empty_28 (by decide) ?_
      refine lv_iload_n X.1 X.2.1 dX7_empty_30 rfl (lv_at hl 1 rfl) ?_
      refine lv_imul X.1 X.2.1 dX7_empty_31 ?_
      obtain ⟨a10, rfl, k12, hg⟩ := zh_dr hf
      replace hf := hg
      refine ze_iald X hf hW k12 dX7_empty_32 (fun v13 hg => ?_)
      replace hf := hg
      refine lv_istore_n (i := 2) (lv' := [(2, .int v13), (0, .ref (B + a0)), (1, .int x1)]) X.1 X.2.1 dX7_empty_33 rfl hl (by decide) rfl (fun ls hk => ?_)
      replace hl := hk
      refine lv_aload_n X.1 X.2.1 dX7_empty_34 rfl (lv_at hl 1 rfl) ?_
      refine ze_gtR X 7 0 7 (RX7, TX7, 39) rfl hf hW hK0 rfl (by decide) kfl_X7_7 dX7_empty_35 (fun o14 hg => ?_)
      replace hf := hg
      refine lv_bipush (v := 97) X.1 X.2.1 dX7_empty_38 (by decide) ?_
      refine lv_iload_n X.1 X.2.1 dX7_empty_40 rfl (lv_at hl 2 rfl) ?_
      refine lv_imul X.1 X.2.1 dX7_empty_41 ?_
      refine lv_iconst (v := 0) X.1 X.2.1 dX7_empty_42 (by decide) ?_
      obtain ⟨a15, rfl, k17, hg⟩ := zh_dr hf
      replace hf := hg
      refine ze_iast X hf hW k17 dX7_empty_43 (fun I18 H locs hg hV => ?_)
      replace hf := hg
      replace hW := hV
      refine lv_iload_n X.1 X.2.1 dX7_empty_44 rfl (lv_at hl 0 rfl) ?_
      obtain ⟨rfl, rfl⟩ := zi2 hf
      exact ze_retI X hr hlk hW (Nat.le_refl _) (Nat.le_refl _) dX7_empty_45
    · replace hf := zif_neg c6 hf
      refine lv_bipush (v := -2) X.1 X.2.1 dX7_empty_17 (by decide) ?_
      obtain ⟨rfl, rfl⟩ := zi2 hf
      exact ze_retI X hr hlk hW (Nat.le_refl _) (Nat.le_refl _) dX7_empty_19
  · replace hf := zif_pos c3 hf
    refine lv_iconst (v := -1) X.1 X.2.1 dX7_empty_7 (by decide) ?_
    obtain ⟨rfl, rfl⟩ := zi2 hf
    exact ze_retI X hr hlk hW (Nat.le_refl _) (Nat.le_refl _) dX7_empty_8
end

/-! LeastPatternsModel.set(II)I -/
def f_X7_set_23 (F : Nat) (K : zK) (R : zR) (a0 : Nat)  (I : zI) (x1 : Int32) (x2 : Int32) (s0 : Int32) (s1 : Int32) (s2 : Int32) : Option (Int32 × zI) :=
  zbd (f_X7_in F K I R s0 s1 s2) fun v1 =>
  if v1 = (0 : Int32) then
    some ((-1 : Int32), I)
  else
    zbd (f_X7_records F K I R a0) fun I4 =>
    zbd (some (R a0 0)) fun o6 =>
    zbd (zdr K o6 1) fun a7 =>
    zbd (zrd K I4 a7 ((776 : Int32) + x1)) fun v10 =>
    zbd (some (R a0 0)) fun o11 =>
    zbd (zdr K o11 1) fun a12 =>
    zbd (zwr K I4 a12 ((776 : Int32) + x1) x2) fun I15 =>
    some (v10, I15)
def f_X7_set (F : Nat) (K : zK) (I : zI) (R : zR) (a0 : Nat) (x1 : Int32) (x2 : Int32) : Option (Int32 × zI) :=
  zbd (f_X7_in F K I R x1 (0 : Int32) (3 : Int32)) fun v16 =>
  if v16 = (0 : Int32) then
    some ((-1 : Int32), I)
  else
    if (2 : Int32) ≤ x1 then
      f_X7_set_23 F K R a0 I x1 x2 x2 (0 : Int32) (8191 : Int32)
    else
      f_X7_set_23 F K R a0 I x1 x2 x2 (0 : Int32) (1 : Int32)
section
variable {p : Program} {l : Launch} {e : Env} {s : State} {m : MethodId} {args : Array Value} {below : List Frame} {meth : Method} {c : Code} {D : zD} {B n n0 n' fd ld : Nat} {K K0 K' : zK} {I I' : zI} {R R' : zR} {H : Heap} {locs : List Loc} {ls : Array Slot} {r : Int32}
set_option maxRecDepth 100000 in
set_option maxHeartbeats 4000000 in
theorem w_X7_set_23 {F : Nat} {a0 : Nat}  (X : zX p s m c cX7_set 4 RX7 D) (hr : meth.sig.returnType = some .int) (hlk : meth.locks = false) (hK0 : (K a0).1 = 17)  {x1 : Int32} {x2 : Int32} {s0 : Int32} {s1 : Int32} {s2 : Int32} (hf : f_X7_set_23 F K R a0  I x1 x2 s0 s1 s2 = some (r, I')) (hW : zS (zOwn B K (B + n)) D B n K I R s.heap H locs) (hl : lv_has ls 4 [(0, .ref (B + a0)), (1, .int x1), (2, .int x2)]) : W p l e ({ frames := 2, cells := 0, slots := 0, locals := 62 } : Room) s m args below meth c H locs 0 0 (MQ below (zQi D (zOwn B K (B + n)) r B n K I' R) args s 0 0 (zOwn B K (B + n))) (F0 m 23 ls [.int s2, .int s1, .int s0]) := by
  unfold f_X7_set_23 at hf
  obtain ⟨v1, h2, hg⟩ := zh_bd hf
  replace hf := hg
  refine ze_aftI0 (ze_runS (As := [.int s0, .int s1, .int s2]) (rest := []) X 122 (c_X7_in l D B n h2) vX7_in kml_X7_122 hW ⟨by decide, by decide⟩ rfl hl.1 rfl (Nat.le_of_ble_eq_true rfl) ⟨Nat.le_refl _, Nat.le_refl _⟩ dX7_set_23) hW (fun H locs hV => ?_)
  replace hW := hV
  refine lv_if_ne (tgt := 31) X.1 X.2.1 dX7_set_26 (by decide) (fun c3 => ?_) (fun c3 => ?_)
  · replace hf := zif_neg c3 hf
    refine lv_aload_n X.1 X.2.1 dX7_set_31 rfl (lv_at hl 0 rfl) ?_
    obtain ⟨I4, h5, hg⟩ := zh_bd hf
    replace hf := hg
    refine ze_aftV0 (ze_runV (As := []) (rest := []) X 7 198 (c_X7_records l D B n hK0 h5) vX7_records kml_X7_198 hW hK0 rfl rfl ⟨by decide, by decide⟩ rfl hl.1 rfl (Nat.le_of_ble_eq_true rfl) ⟨Nat.le_refl _, Nat.le_refl _⟩ dX7_set_32) hW (fun H locs hV => ?_)
    replace hW := hV
    refine lv_aload_n X.1 X.2.1 dX7_set_35 rfl (lv_at hl 0 rfl) ?_
    refine ze_gtR X 7 0 7 (RX7, TX7, 39) rfl hf hW hK0 rfl (by decide) kfl_X7_7 dX7_set_36 (fun o6 hg => ?_)
    replace hf := hg
    refine lv_sipush (v := 776) X.1 X.2.1 dX7_set_39 (by decide) ?_
    refine lv_iload_n X.1 X.2.1 dX7_set_42 rfl (lv_at hl 1 rfl) ?_
    refine lv_iadd X.1 X.2.1 dX7_set_43 ?_
    obtain ⟨a7, rfl, k9, hg⟩ := zh_dr hf
    replace hf := hg
    refine ze_iald X hf hW k9 dX7_set_44 (fun v10 hg => ?_)
    replace hf := hg
    refine lv_istore_n (i := 3) (lv' := [(3, .int v10), (0, .ref (B + a0)), (1, .int x1), (2, .int x2)]) X.1 X.2.1 dX7_set_45 rfl hl (by decide) rfl (fun ls hk => ?_)
    replace hl := hk
    refine lv_aload_n X.1 X.2.1 dX7_set_46 rfl (lv_at hl 1 rfl) ?_
    refine ze_gtR X 7 0 7 (RX7, TX7, 39) rfl hf hW hK0 rfl (by decide) kfl_X7_7 dX7_set_47 (fun o11 hg => ?_)
    replace hf := hg
    refine lv_sipush (v := 776) X.1 X.2.1 dX7_set_50 (by decide) ?_
    refine lv_iload_n X.1 X.2.1 dX7_set_53 rfl (lv_at hl 2 rfl) ?_
    refine lv_iadd X.1 X.2.1 dX7_set_54 ?_
    refine lv_iload_n X.1 X.2.1 dX7_set_55 rfl (lv_at hl 3 rfl) ?_
    obtain ⟨a12, rfl, k14, hg⟩ := zh_dr hf
    replace hf := hg
    refine ze_iast X hf hW k14 dX7_set_56 (fun I15 H locs hg hV => ?_)
    replace hf := hg
    replace hW := hV
    refine lv_iload_n X.1 X.2.1 dX7_set_57 rfl (lv_at hl 0 rfl) ?_
    obtain ⟨rfl, rfl⟩ := zi2 hf
    exact ze_retI X hr hlk hW (Nat.le_refl _) (Nat.le_refl _) dX7_set_58
  · replace hf := zif_pos c3 hf
    refine lv_iconst (v := -1) X.1 X.2.1 dX7_set_29 (by decide) ?_
    obtain ⟨rfl, rfl⟩ := zi2 hf
    exact ze_retI X hr hlk hW (Nat.le_refl _) (Nat.le_refl _) dX7_set_30
set_option maxRecDepth 100000 in
set_option maxHeartbeats 4000000 in
theorem c_X7_set (l : Launch) (D : zD) (B n : Nat) {F : Nat} {K : zK} {I : zI} {R : zR} {a0 : Nat} {x1 : Int32} {x2 : Int32} {r : Int32} {I' : zI} (hK0 : (K a0).1 = 17) (hf : f_X7_set F K I R a0 x1 x2 = some (r, I')) : zM l yX7_set cX7_set 4 (some .int) ({ frames := 2, cells := 0, slots := 0, locals := 62 } : Room) D B n K I R [.ref (B + a0), .int x1, .int x2] (zQi D (zOwn B K (B + n)) r B n K I' R) := by
  refine ze_entry (lv0 := [(0, .ref (B + a0)), (1, .int x1), (2, .int x2)]) (by decide) (by simp [lg_sl, zcat, zcat_i, zcat_r, zcat_l]) (by simp [lv_args, zcat, zcat_i, zcat_r, zcat_l]) (fun p e s m below meth c X hr hlk hin hW ls hl => ?_)
  unfold f_X7_set at hf
  refine lv_iload_n X.1 X.2.1 dX7_set_0 rfl (lv_at hl 1 rfl) ?_
  refine lv_iconst (v := 0) X.1 X.2.1 dX7_set_1 (by decide) ?_
  refine lv_iconst (v := 3) X.1 X.2.1 dX7_set_2 (by decide) ?_
  obtain ⟨v16, h17, hg⟩ := zh_bd hf
  replace hf := hg
  refine ze_aftI0 (ze_runS (As := [.int x1, .int (0 : Int32), .int (3 : Int32)]) (rest := []) X 122 (c_X7_in l D B n h17) vX7_in kml_X7_122 hW ⟨by decide, by decide⟩ rfl hl.1 rfl (Nat.le_of_ble_eq_true rfl) ⟨Nat.le_refl _, Nat.le_refl _⟩ dX7_set_3) hW (fun H locs hV => ?_)
  replace hW := hV
  refine lv_if_eq (tgt := 29) X.1 X.2.1 dX7_set_6 (by decide) (fun c18 => ?_) (fun c18 => ?_)
  · replace hf := zif_pos c18 hf
    refine lv_iconst (v := -1) X.1 X.2.1 dX7_set_29 (by decide) ?_
    obtain ⟨rfl, rfl⟩ := zi2 hf
    exact ze_retI X hr hlk hW (Nat.le_refl _) (Nat.le_refl _) dX7_set_30
  · replace hf := zif_neg c18 hf
    refine lv_iload_n X.1 X.2.1 dX7_set_9 rfl (lv_at hl 2 rfl) ?_
    refine lv_iconst (v := 0) X.1 X.2.1 dX7_set_10 (by decide) ?_
    refine lv_iload_n X.1 X.2.1 dX7_set_11 rfl (lv_at hl 1 rfl) ?_
    refine lv_iconst (v := 2) X.1 X.2.1 dX7_set_12 (by decide) ?_
    refine lv_icmp_ge (tgt := 20) X.1 X.2.1 dX7_set_13 (by decide) (fun c19 => ?_) (fun c19 => ?_)
    · replace hf := zif_pos c19 hf
      refine lv_sipush (v := 8191) X.1 X.2.1 dX7_set_20 (by decide) ?_
      exact w_X7_set_23 X hr hlk hK0 hf hW hl
    · replace hf := zif_neg c19 hf
      refine lv_iconst (v := 1) X.1 X.2.1 dX7_set_16 (by decide) ?_
      refine lv_goto (tgt := 23) X.1 X.2.1 dX7_set_17 (by decide) ?_
      exact w_X7_set_23 X hr hlk hK0 hf hW hl
end

/-! LeastPatternsModel.nodeOf(III)I -/
def f_X7_nodeOf (F : Nat) (K : zK) (I : zI) (R : zR) (a0 : Nat) (x1 : Int32) (x2 : Int32) (x3 : Int32) : Option (Int32 × zI) :=
  zbd (f_X7_levels F K I R a0 ((97 : Int32) * x1)) fun I1 =>
  if x3 = 0 then
    zbd (f_X7_sort F K I1 R a0 ((97 : Int32) * x1) x2) fun v3 =>
    some (v3, I1)
  else
  if x3 = 1 then
    zbd (f_X7_number F K I1 R a0 ((97 : Int32) * x1) x2) fun v6 =>
    some (v6, I1)
  else
  if x3 = 2 then
    zbd (f_X7_arguments F K I1 R a0 ((97 : Int32) * x1) x2) fun v9 =>
    some (v9, I1)
  else
  if x3 = 3 then
    zbd (some (R a0 7)) fun o12 =>
    zbd (zdr K o12 1) fun a13 =>
    zbd (zrd K I1 a13 x2) fun v16 =>
    some (v16, I1)
  else
    zbd (some (R a0 5)) fun o18 =>
    zbd (zdr K o18 1) fun a19 =>
    zbd (zrd K I1 a19 x2) fun v22 =>
    some (v22, I1)
section
variable {p : Program} {l : Launch} {e : Env} {s : State} {m : MethodId} {args : Array Value} {below : List Frame} {meth : Method} {c : Code} {D : zD} {B n n0 n' fd ld : Nat} {K K0 K' : zK} {I I' : zI} {R R' : zR} {H : Heap} {locs : List Loc} {ls : Array Slot} {r : Int32}
set_option maxRecDepth 100000 in
set_option maxHeartbeats 4000000 in
theorem c_X7_nodeOf (l : Launch) (D : zD) (B n : Nat) {F : Nat} {K : zK} {I : zI} {R : zR} {a0 : Nat} {x1 : Int32} {x2 : Int32} {x3 : Int32} {r : Int32} {I' : zI} (hK0 : (K a0).1 = 17) (hf : f_X7_nodeOf F K I R a0 x1 x2 x3 = some (r, I')) : zM l yX7_nodeOf cX7_nodeOf 4 (some .int) ({ frames := 4, cells := 0, slots := 0, locals := 111 } : Room) D B n K I R [.ref (B + a0), .int x1, .int x2, .int x3] (zQi D (zOwn B K (B + n)) r B n K I' R) := by
  refine ze_entry (lv0 := [(0, .ref (B + a0)), (1, .int x1), (2, .int x2), (3, .int x3)]) (by decide) (by simp [lg_sl, zcat, zcat_i, zcat_r, zcat_l]) (by simp [lv_args, zcat, zcat_i, zcat_r, zcat_l]) (fun p e s m below meth c X hr hlk hin hW ls hl => ?_)
  unfold f_X7_nodeOf at hf
  refine lv_aload_n X.1 X.2.1 dX7_nodeOf_0 rfl (lv_at hl 0 rfl) ?_
  refine lv_bipush (v := 97) X.1 X.2.1 dX7_nodeOf_1 (by decide) ?_
  refine lv_iload_n X.1 X.2.1 dX7_nodeOf_3 rfl (lv_at hl 1 rfl) ?_
  refine lv_imul X.1 X.2.1 dX7_nodeOf_4 ?_
  obtain ⟨I1, h2, hg⟩ := zh_bd hf
  replace hf := hg
  refine ze_aftV0 (ze_runV (As := [.int ((97 : Int32) * x1)]) (rest := []) X 7 155 (c_X7_levels l D B n hK0 h2) vX7_levels kml_X7_155 hW hK0 rfl rfl ⟨by decide, by decide⟩ rfl hl.1 rfl (Nat.le_of_ble_eq_true rfl) ⟨Nat.le_refl _, Nat.le_refl _⟩ dX7_nodeOf_5) hW (fun H locs hV => ?_)
  replace hW := hV
  refine lv_iload_n X.1 X.2.1 dX7_nodeOf_8 rfl (lv_at hl 3 rfl) ?_
  by_cases c5 : x3 = 0
  · replace hf := zif_pos c5 hf
    refine lv_tableIn (tgt := 40) X.1 X.2.1 dX7_nodeOf_9 (by rw [c5]; decide) (by rw [c5]; decide) (by rw [c5]; rfl) (by decide) ?_
    refine lv_aload_n X.1 X.2.1 dX7_nodeOf_40 rfl (lv_at hl 0 rfl) ?_
    refine lv_bipush (v := 97) X.1 X.2.1 dX7_nodeOf_41 (by decide) ?_
    refine lv_iload_n X.1 X.2.1 dX7_nodeOf_43 rfl (lv_at hl 1 rfl) ?_
    refine lv_imul X.1 X.2.1 dX7_nodeOf_44 ?_
    refine lv_iload_n X.1 X.2.1 dX7_nodeOf_45 rfl (lv_at hl 2 rfl) ?_
    obtain ⟨v3, h4, hg⟩ := zh_bd hf
    replace hf := hg
    refine ze_aftI0 (ze_runV (As := [.int ((97 : Int32) * x1), .int x2]) (rest := []) X 7 119 (c_X7_sort l D B n hK0 h4) vX7_sort kml_X7_119 hW hK0 rfl rfl ⟨by decide, by decide⟩ rfl hl.1 rfl (Nat.le_of_ble_eq_true rfl) ⟨Nat.le_refl _, Nat.le_refl _⟩ dX7_nodeOf_46) hW (fun H locs hV => ?_)
    replace hW := hV
    obtain ⟨rfl, rfl⟩ := zi2 hf
    exact ze_retI X hr hlk hW (Nat.le_refl _) (Nat.le_refl _) dX7_nodeOf_49
  replace hf := zif_neg c5 hf
  by_cases c8 : x3 = 1
  · replace hf := zif_pos c8 hf
    refine lv_tableIn (tgt := 50) X.1 X.2.1 dX7_nodeOf_9 (by rw [c8]; decide) (by rw [c8]; decide) (by rw [c8]; rfl) (by decide) ?_
    refine lv_aload_n X.1 X.2.1 dX7_nodeOf_50 rfl (lv_at hl 0 rfl) ?_
    refine lv_bipush (v := 97) X.1 X.2.1 dX7_nodeOf_51 (by decide) ?_
    refine lv_iload_n X.1 X.2.1 dX7_nodeOf_53 rfl (lv_at hl 1 rfl) ?_
    refine lv_imul X.1 X.2.1 dX7_nodeOf_54 ?_
    refine lv_iload_n X.1 X.2.1 dX7_nodeOf_55 rfl (lv_at hl 2 rfl) ?_
    obtain ⟨v6, h7, hg⟩ := zh_bd hf
    replace hf := hg
    refine ze_aftI0 (ze_runV (As := [.int ((97 : Int32) * x1), .int x2]) (rest := []) X 7 159 (c_X7_number l D B n hK0 h7) vX7_number kml_X7_159 hW hK0 rfl rfl ⟨by decide, by decide⟩ rfl hl.1 rfl (Nat.le_of_ble_eq_true rfl) ⟨Nat.le_refl _, Nat.le_refl _⟩ dX7_nodeOf_56) hW (fun H locs hV => ?_)
    replace hW := hV
    obtain ⟨rfl, rfl⟩ := zi2 hf
    exact ze_retI X hr hlk hW (Nat.le_refl _) (Nat.le_refl _) dX7_nodeOf_59
  replace hf := zif_neg c8 hf
  by_cases c11 : x3 = 2
  · replace hf := zif_pos c11 hf
    refine lv_tableIn (tgt := 60) X.1 X.2.1 dX7_nodeOf_9 (by rw [c11]; decide) (by rw [c11]; decide) (by rw [c11]; rfl) (by decide) ?_
    refine lv_aload_n X.1 X.2.1 dX7_nodeOf_60 rfl (lv_at hl 0 rfl) ?_
    refine lv_bipush (v := 97) X.1 X.2.1 dX7_nodeOf_61 (by decide) ?_
    refine lv_iload_n X.1 X.2.1 dX7_nodeOf_63 rfl (lv_at hl 1 rfl) ?_
    refine lv_imul X.1 X.2.1 dX7_nodeOf_64 ?_
    refine lv_iload_n X.1 X.2.1 dX7_nodeOf_65 rfl (lv_at hl 2 rfl) ?_
    obtain ⟨v9, h10, hg⟩ := zh_bd hf
    replace hf := hg
    refine ze_aftI0 (ze_runV (As := [.int ((97 : Int32) * x1), .int x2]) (rest := []) X 7 111 (c_X7_arguments l D B n hK0 h10) vX7_arguments kml_X7_111 hW hK0 rfl rfl ⟨by decide, by decide⟩ rfl hl.1 rfl (Nat.le_of_ble_eq_true rfl) ⟨Nat.le_refl _, Nat.le_refl _⟩ dX7_nodeOf_66) hW (fun H locs hV => ?_)
    replace hW := hV
    obtain ⟨rfl, rfl⟩ := zi2 hf
    exact ze_retI X hr hlk hW (Nat.le_refl _) (Nat.le_refl _) dX7_nodeOf_69
  replace hf := zif_neg c11 hf
  by_cases c17 : x3 = 3
  · replace hf := zif_pos c17 hf
    refine lv_tableIn (tgt := 70) X.1 X.2.1 dX7_nodeOf_9 (by rw [c17]; decide) (by rw [c17]; decide) (by rw [c17]; rfl) (by decide) ?_
    refine lv_aload_n X.1 X.2.1 dX7_nodeOf_70 rfl (lv_at hl 0 rfl) ?_
    refine ze_gtR X 7 7 26 (RX7, TX7, 39) rfl hf hW hK0 rfl (by decide) kfl_X7_26 dX7_nodeOf_71 (fun o12 hg => ?_)
    replace hf := hg
    refine lv_iload_n X.1 X.2.1 dX7_nodeOf_74 rfl (lv_at hl 2 rfl) ?_
    obtain ⟨a13, rfl, k15, hg⟩ := zh_dr hf
    replace hf := hg
    refine ze_iald X hf hW k15 dX7_nodeOf_75 (fun v16 hg => ?_)
    replace hf := hg
    obtain ⟨rfl, rfl⟩ := zi2 hf
    exact ze_retI X hr hlk hW (Nat.le_refl _) (Nat.le_refl _) dX7_nodeOf_76
  replace hf := zif_neg c17 hf
  refine lv_tableOut (tgt := 77) X.1 X.2.1 dX7_nodeOf_9 ?_ (by decide) ?_
  · have hne : ∀ k : Int32, ¬ x3 = k → x3.toInt ≠ k.toInt := fun k h q => h (Int32.toInt_inj.mp q)
    have qc5 := hne 0 c5
    have qc8 := hne 1 c8
    have qc11 := hne 2 c11
    have qc17 := hne 3 c17
    simp at qc5 qc8 qc11 qc17
    omega
  · refine lv_aload_n X.1 X.2.1 dX7_nodeOf_77 rfl (lv_at hl 0 rfl) ?_
    refine ze_gtR X 7 5 20 (RX7, TX7, 39) rfl hf hW hK0 rfl (by decide) kfl_X7_20 dX7_nodeOf_78 (fun o18 hg => ?_)
    replace hf := hg
    refine lv_iload_n X.1 X.2.1 dX7_nodeOf_81 rfl (lv_at hl 2 rfl) ?_
    obtain ⟨a19, rfl, k21, hg⟩ := zh_dr hf
    replace hf := hg
    refine ze_iald X hf hW k21 dX7_nodeOf_82 (fun v22 hg => ?_)
    replace hf := hg
    obtain ⟨rfl, rfl⟩ := zi2 hf
    exact ze_retI X hr hlk hW (Nat.le_refl _) (Nat.le_refl _) dX7_nodeOf_83
end

/-! LeastPatternsModel.node(III)I -/
def f_X7_node (F : Nat) (K : zK) (I : zI) (R : zR) (a0 : Nat) (x1 : Int32) (x2 : Int32) (x3 : Int32) : Option (Int32 × zI) :=
  zbd (f_X7_isRegister F K I R x1) fun v1 =>
  if v1 = (0 : Int32) then
    some ((-1 : Int32), I)
  else
    if x2 < (0 : Int32) then
      some ((-1 : Int32), I)
    else
      zbd (f_X7_in F K I R x3 (0 : Int32) (4 : Int32)) fun v5 =>
      if v5 = (0 : Int32) then
        some ((-1 : Int32), I)
      else
        zbd (f_X7_isEmpty F K I R a0 x1) fun v8 =>
        if v8 = (0 : Int32) then
          zbd (some (R a0 0)) fun o11 =>
          zbd (zdr K o11 1) fun a12 =>
          zbd (zrd K I a12 ((97 : Int32) * x1)) fun v15 =>
          if v15 ≤ x2 then
            some ((-9 : Int32), I)
          else
            zbd2 (f_X7_nodeOf F K I R a0 x1 x2 x3) fun v17 I18 =>
            some (v17, I18)
        else
          some ((-2 : Int32), I)
section
variable {p : Program} {l : Launch} {e : Env} {s : State} {m : MethodId} {args : Array Value} {below : List Frame} {meth : Method} {c : Code} {D : zD} {B n n0 n' fd ld : Nat} {K K0 K' : zK} {I I' : zI} {R R' : zR} {H : Heap} {locs : List Loc} {ls : Array Slot} {r : Int32}
set_option maxRecDepth 100000 in
set_option maxHeartbeats 4000000 in
theorem c_X7_node (l : Launch) (D : zD) (B n : Nat) {F : Nat} {K : zK} {I : zI} {R : zR} {a0 : Nat} {x1 : Int32} {x2 : Int32} {x3 : Int32} {r : Int32} {I' : zI} (hK0 : (K a0).1 = 17) (hf : f_X7_node F K I R a0 x1 x2 x3 = some (r, I')) : zM l yX7_node cX7_node 4 (some .int) ({ frames := 5, cells := 0, slots := 0, locals := 134 } : Room) D B n K I R [.ref (B + a0), .int x1, .int x2, .int x3] (zQi D (zOwn B K (B + n)) r B n K I' R) := by
  refine ze_entry (lv0 := [(0, .ref (B + a0)), (1, .int x1), (2, .int x2), (3, .int x3)]) (by decide) (by simp [lg_sl, zcat, zcat_i, zcat_r, zcat_l]) (by simp [lv_args, zcat, zcat_i, zcat_r, zcat_l]) (fun p e s m below meth c X hr hlk hin hW ls hl => ?_)
  unfold f_X7_node at hf
  refine lv_iload_n X.1 X.2.1 dX7_node_0 rfl (lv_at hl 1 rfl) ?_
  obtain ⟨v1, h2, hg⟩ := zh_bd hf
  replace hf := hg
  refine ze_aftI0 (ze_runS (As := [.int x1]) (rest := []) X 182 (c_X7_isRegister l D B n h2) vX7_isRegister kml_X7_182 hW ⟨by decide, by decide⟩ rfl hl.1 rfl (Nat.le_of_ble_eq_true rfl) ⟨Nat.le_refl _, Nat.le_refl _⟩ dX7_node_1) hW (fun H locs hV => ?_)
  replace hW := hV
  refine lv_if_eq (tgt := 20) X.1 X.2.1 dX7_node_4 (by decide) (fun c3 => ?_) (fun c3 => ?_)
  · replace hf := zif_pos c3 hf
    refine lv_iconst (v := -1) X.1 X.2.1 dX7_node_20 (by decide) ?_
    obtain ⟨rfl, rfl⟩ := zi2 hf
    exact ze_retI X hr hlk hW (Nat.le_refl _) (Nat.le_refl _) dX7_node_21
  · replace hf := zif_neg c3 hf
    refine lv_iload_n X.1 X.2.1 dX7_node_7 rfl (lv_at hl 2 rfl) ?_
    refine lv_if_lt (tgt := 20) X.1 X.2.1 dX7_node_8 (by decide) (fun c4 => ?_) (fun c4 => ?_)
    · replace hf := zif_pos c4 hf
      refine lv_iconst (v := -1) X.1 X.2.1 dX7_node_20 (by decide) ?_
      obtain ⟨rfl, rfl⟩ := zi2 hf
      exact ze_retI X hr hlk hW (Nat.le_refl _) (Nat.le_refl _) dX7_node_21
    · replace hf := zif_neg c4 hf
      refine lv_iload_n X.1 X.2.1 dX7_node_11 rfl (lv_at hl 3 rfl) ?_
      refine lv_iconst (v := 0) X.1 X.2.1 dX7_node_12 (by decide) ?_
      refine lv_iconst (v := 4) X.1 X.2.1 dX7_node_13 (by decide) ?_
      obtain ⟨v5, h6, hg⟩ := zh_bd hf
      replace hf := hg
      refine ze_aftI0 (ze_runS (As := [.int x3, .int (0 : Int32), .int (4 : Int32)]) (rest := []) X 122 (c_X7_in l D B n h6) vX7_in kml_X7_122 hW ⟨by decide, by decide⟩ rfl hl.1 rfl (Nat.le_of_ble_eq_true rfl) ⟨Nat.le_refl _, Nat.le_refl _⟩ dX7_node_14) hW (fun H locs hV => ?_)
      replace hW := hV
      refine lv_if_ne (tgt := 22) X.1 X.2.1 dX7_node_17 (by decide) (fun c7 => ?_) (fun c7 => ?_)
      · replace hf := zif_neg c7 hf
        refine lv_aload_n X.1 X.2.1 dX7_node_22 rfl (lv_at hl 0 rfl) ?_
        refine lv_iload_n X.1 X.2.1 dX7_node_23 rfl (lv_at hl 1 rfl) ?_
        obtain ⟨v8, h9, hg⟩ := zh_bd hf
        replace hf := hg
        refine ze_aftI0 (ze_runV (As := [.int x1]) (rest := []) X 7 204 (c_X7_isEmpty l D B n hK0 h9) vX7_isEmpty kml_X7_204 hW hK0 rfl rfl ⟨by decide, by decide⟩ rfl hl.1 rfl (Nat.le_of_ble_eq_true rfl) ⟨Nat.le_refl _, Nat.le_refl _⟩ dX7_node_24) hW (fun H locs hV => ?_)
        replace hW := hV
        refine lv_if_eq (tgt := 35) X.1 X.2.1 dX7_node_27 (by decide) (fun c10 => ?_) (fun c10 => ?_)
        · replace hf := zif_pos c10 hf
          refine lv_iload_n X.1 X.2.1 dX7_node_35 rfl (lv_at hl 2 rfl) ?_
          refine lv_aload_n X.1 X.2.1 dX7_node_36 rfl (lv_at hl 0 rfl) ?_
          refine ze_gtR X 7 0 7 (RX7, TX7, 39) rfl hf hW hK0 rfl (by decide) kfl_X7_7 dX7_node_37 (fun o11 hg => ?_)
          replace hf := hg
          refine lv_bipush (v := 97) X.1 X.2.1 dX7_node_40 (by decide) ?_
          refine lv_iload_n X.1 X.2.1 dX7_node_42 rfl (lv_at hl 1 rfl) ?_
          refine lv_imul X.1 X.2.1 dX7_node_43 ?_
          obtain ⟨a12, rfl, k14, hg⟩ := zh_dr hf
          replace hf := hg
          refine ze_iald X hf hW k14 dX7_node_44 (fun v15 hg => ?_)
          replace hf := hg
          refine lv_icmp_ge (tgt := 58) X.1 X.2.1 dX7_node_45 (by decide) (fun c16 => ?_) (fun c16 => ?_)
          · replace hf := zif_pos c16 hf
            refine lv_bipush (v := -9) X.1 X.2.1 dX7_node_58 (by decide) ?_
            obtain ⟨rfl, rfl⟩ := zi2 hf
            exact ze_retI X hr hlk hW (Nat.le_refl _) (Nat.le_refl _) dX7_node_60
          · replace hf := zif_neg c16 hf
            refine lv_aload_n X.1 X.2.1 dX7_node_48 rfl (lv_at hl 0 rfl) ?_
            refine lv_iload_n X.1 X.2.1 dX7_node_49 rfl (lv_at hl 1 rfl) ?_
            refine lv_iload_n X.1 X.2.1 dX7_node_50 rfl (lv_at hl 2 rfl) ?_
            refine lv_iload_n X.1 X.2.1 dX7_node_51 rfl (lv_at hl 3 rfl) ?_
            obtain ⟨v17, I18, h19, hg⟩ := zh_bd2 hf
            replace hf := hg
            refine ze_aftI0 (ze_runV (As := [.int x1, .int x2, .int x3]) (rest := []) X 7 207 (c_X7_nodeOf l D B n hK0 h19) vX7_nodeOf kml_X7_207 hW hK0 rfl rfl ⟨by decide, by decide⟩ rfl hl.1 rfl (Nat.le_of_ble_eq_true rfl) ⟨Nat.le_refl _, Nat.le_refl _⟩ dX7_node_52) hW (fun H locs hV => ?_)
            replace hW := hV
            refine lv_goto (tgt := 60) X.1 X.2.1 dX7_node_55 (by decide) ?_
            obtain ⟨rfl, rfl⟩ := zi2 hf
            exact ze_retI X hr hlk hW (Nat.le_refl _) (Nat.le_refl _) dX7_node_60
        · replace hf := zif_neg c10 hf
          refine lv_bipush (v := -2) X.1 X.2.1 dX7_node_30 (by decide) ?_
          refine lv_goto (tgt := 60) X.1 X.2.1 dX7_node_32 (by decide) ?_
          obtain ⟨rfl, rfl⟩ := zi2 hf
          exact ze_retI X hr hlk hW (Nat.le_refl _) (Nat.le_refl _) dX7_node_60
      · replace hf := zif_pos c7 hf
        refine lv_iconst (v := -1) X.1 X.2.1 dX7_node_20 (by decide) ?_
        obtain ⟨rfl, rfl⟩ := zi2 hf
        exact ze_retI X hr hlk hW (Nat.le_refl _) (Nat.le_refl _) dX7_node_21
end

/-! LeastPatternsModel.holesOf(I)I -/
def f_X7_holesOf_36 (F : Nat) (K : zK) (I : zI) (R : zR) (a0 : Nat) (k4 : Int32 → Int32 → Int32 → Option (Int32)) (x1 : Int32) (x3 : Int32) (s0 : Int32) (s1 : Int32) : Option (Int32) :=
  zbd (some (s0 ||| s1)) fun v1 =>
  k4 x1 v1 (x3 + (1 : Int32))
def g_X7_holesOf_4 (F : Nat) (K : zK) (I : zI) (R : zR) (a0 : Nat)  (kself : Int32 → Int32 → Int32 → Option (Int32)) (x1 : Int32) (x2 : Int32) (x3 : Int32) : Option (Int32) :=
  zbd (some (R a0 0)) fun o2 =>
  zbd (zdr K o2 1) fun a3 =>
  zbd (zrd K I a3 x1) fun v6 =>
  if v6 ≤ x3 then
    some x2
  else
    zbd (f_X7_sort F K I R a0 x1 x3) fun v8 =>
    if v8 = (0 : Int32) then
      f_X7_holesOf_36 F K I R a0 kself x1 x3 x2 (0 : Int32)
    else
      zbd (f_X7_number F K I R a0 x1 x3) fun v11 =>
      f_X7_holesOf_36 F K I R a0 kself x1 x3 x2 ((1 : Int32) <<< (v11 &&& 31))
def f_X7_holesOf_4 (F : Nat) (K : zK) (I : zI) (R : zR) (a0 : Nat)  : Nat → Int32 → Int32 → Int32 → Option (Int32)
  | 0, _, _, _ => none
  | t + 1, x1, x2, x3 => g_X7_holesOf_4 F K I R a0  (f_X7_holesOf_4 F K I R a0  t) x1 x2 x3
def f_X7_holesOf (F : Nat) (K : zK) (I : zI) (R : zR) (a0 : Nat) (x1 : Int32) : Option (Int32) :=
  f_X7_holesOf_4 F K I R a0 F x1 (0 : Int32) (0 : Int32)
section
variable {p : Program} {l : Launch} {e : Env} {s : State} {m : MethodId} {args : Array Value} {below : List Frame} {meth : Method} {c : Code} {D : zD} {B n n0 n' fd ld : Nat} {K K0 K' : zK} {I I' : zI} {R R' : zR} {H : Heap} {locs : List Loc} {ls : Array Slot} {r : Int32}
set_option maxRecDepth 100000 in
set_option maxHeartbeats 4000000 in
theorem w_X7_holesOf_36 {F : Nat} {a0 : Nat} {k4 : Int32 → Int32 → Int32 → Option (Int32)} (X : zX p s m c cX7_holesOf 4 RX7 D) (hr : meth.sig.returnType = some .int) (hlk : meth.locks = false) (hK0 : (K a0).1 = 17) (hk4 : ∀ (x1 : Int32) (x2 : Int32) (x3 : Int32) (H : Heap) (locs : List Loc) (ls : Array Slot), k4 x1 x2 x3 = some r → zS (zOwn B K (B + n)) D B n K I R s.heap H locs → lv_has ls 4 [(0, .ref (B + a0)), (1, .int x1), (2, .int x2), (3, .int x3)] → W p l e ({ frames := 2, cells := 0, slots := 0, locals := 62 } : Room) s m args below meth c H locs 0 0 (MQ below (zQi D (zOwn B K (B + n)) r B n K I R) args s 0 0 (zOwn B K (B + n))) (F0 m 4 ls [])) {x1 : Int32} {x3 : Int32} {s0 : Int32} {s1 : Int32} (hf : f_X7_holesOf_36 F K I R a0 k4 x1 x3 s0 s1 = some r) (hW : zS (zOwn B K (B + n)) D B n K I R s.heap H locs) (hl : lv_has ls 4 [(0, .ref (B + a0)), (1, .int x1), (3, .int x3)]) : W p l e ({ frames := 2, cells := 0, slots := 0, locals := 62 } : Room) s m args below meth c H locs 0 0 (MQ below (zQi D (zOwn B K (B + n)) r B n K I R) args s 0 0 (zOwn B K (B + n))) (F0 m 36 ls [.int s1, .int s0]) := by
  unfold f_X7_holesOf_36 at hf
  refine lv_ior X.1 X.2.1 dX7_holesOf_36 ?_
  refine ze_nm hf (fun v1 hg => ?_)
  replace hf := hg
  refine lv_istore_n (i := 2) (lv' := [(2, .int v1), (0, .ref (B + a0)), (1, .int x1), (3, .int x3)]) X.1 X.2.1 dX7_holesOf_37 rfl hl (by decide) rfl (fun ls hk => ?_)
  replace hl := hk
  refine ze_iinc (lv' := [(3, .int (x3 + (1 : Int32))), (2, .int v1), (0, .ref (B + a0)), (1, .int x1)]) (d := 1) X.1 X.2.1 dX7_holesOf_38 hl (k := 3) rfl (by decide) (by decide) rfl (fun ls hk => ?_)
  replace hl := hk
  refine lv_goto (tgt := 4) X.1 X.2.1 dX7_holesOf_41 (by decide) ?_
  exact hk4 _ _ _ _ _ _ hf hW (lv_sub hl [2, 3, 1, 0] rfl)
set_option maxRecDepth 100000 in
set_option maxHeartbeats 4000000 in
theorem wg_X7_holesOf_4 {F : Nat} {a0 : Nat}  (X : zX p s m c cX7_holesOf 4 RX7 D) (hr : meth.sig.returnType = some .int) (hlk : meth.locks = false) (hK0 : (K a0).1 = 17)  {kself : Int32 → Int32 → Int32 → Option (Int32)} (hkself : ∀ (x1 : Int32) (x2 : Int32) (x3 : Int32) (H : Heap) (locs : List Loc) (ls : Array Slot), kself x1 x2 x3 = some r → zS (zOwn B K (B + n)) D B n K I R s.heap H locs → lv_has ls 4 [(0, .ref (B + a0)), (1, .int x1), (2, .int x2), (3, .int x3)] → W p l e ({ frames := 2, cells := 0, slots := 0, locals := 62 } : Room) s m args below meth c H locs 0 0 (MQ below (zQi D (zOwn B K (B + n)) r B n K I R) args s 0 0 (zOwn B K (B + n))) (F0 m 4 ls [])) {x1 : Int32} {x2 : Int32} {x3 : Int32} (hf : g_X7_holesOf_4 F K I R a0  kself x1 x2 x3 = some r) (hW : zS (zOwn B K (B + n)) D B n K I R s.heap H locs) (hl : lv_has ls 4 [(0, .ref (B + a0)), (1, .int x1), (2, .int x2), (3, .int x3)]) : W p l e ({ frames := 2, cells := 0, slots := 0, locals := 62 } : Room) s m args below meth c H locs 0 0 (MQ below (zQi D (zOwn B K (B + n)) r B n K I R) args s 0 0 (zOwn B K (B + n))) (F0 m 4 ls []) := by
  unfold g_X7_holesOf_4 at hf
  refine lv_iload_n X.1 X.2.1 dX7_holesOf_4 rfl (lv_at hl 3 rfl) ?_
  refine lv_aload_n X.1 X.2.1 dX7_holesOf_5 rfl (lv_at hl 0 rfl) ?_
  refine ze_gtR X 7 0 7 (RX7, TX7, 39) rfl hf hW hK0 rfl (by decide) kfl_X7_7 dX7_holesOf_6 (fun o2 hg => ?_)
  replace hf := hg
  refine lv_iload_n X.1 X.2.1 dX7_holesOf_9 rfl (lv_at hl 1 rfl) ?_
  obtain ⟨a3, rfl, k5, hg⟩ := zh_dr hf
  replace hf := hg
  refine ze_iald X hf hW k5 dX7_holesOf_10 (fun v6 hg => ?_)
  replace hf := hg
  refine lv_icmp_ge (tgt := 44) X.1 X.2.1 dX7_holesOf_11 (by decide) (fun c7 => ?_) (fun c7 => ?_)
  · replace hf := zif_pos c7 hf
    refine lv_iload_n X.1 X.2.1 dX7_holesOf_44 rfl (lv_at hl 2 rfl) ?_
    obtain rfl := zi1 hf
    exact ze_retI X hr hlk hW (Nat.le_refl _) (Nat.le_refl _) dX7_holesOf_45
  · replace hf := zif_neg c7 hf
    refine lv_iload_n X.1 X.2.1 dX7_holesOf_14 rfl (lv_at hl 2 rfl) ?_
    refine lv_aload_n X.1 X.2.1 dX7_holesOf_15 rfl (lv_at hl 0 rfl) ?_
    refine lv_iload_n X.1 X.2.1 dX7_holesOf_16 rfl (lv_at hl 1 rfl) ?_
    refine lv_iload_n X.1 X.2.1 dX7_holesOf_17 rfl (lv_at hl 3 rfl) ?_
    obtain ⟨v8, h9, hg⟩ := zh_bd hf
    replace hf := hg
    refine ze_aftI0 (ze_runV (As := [.int x1, .int x3]) (rest := [.int x2]) X 7 119 (c_X7_sort l D B n hK0 h9) vX7_sort kml_X7_119 hW hK0 rfl rfl ⟨by decide, by decide⟩ rfl hl.1 rfl (Nat.le_of_ble_eq_true rfl) ⟨Nat.le_refl _, Nat.le_refl _⟩ dX7_holesOf_18) hW (fun H locs hV => ?_)
    replace hW := hV
    refine lv_if_ne (tgt := 28) X.1 X.2.1 dX7_holesOf_21 (by decide) (fun c10 => ?_) (fun c10 => ?_)
    · replace hf := zif_neg c10 hf
      refine lv_iconst (v := 1) X.1 X.2.1 dX7_holesOf_28 (by decide) ?_
      refine lv_aload_n X.1 X.2.1 dX7_holesOf_29 rfl (lv_at hl 0 rfl) ?_
      refine lv_iload_n X.1 X.2.1 dX7_holesOf_30 rfl (lv_at hl 1 rfl) ?_
      refine lv_iload_n X.1 X.2.1 dX7_holesOf_31 rfl (lv_at hl 3 rfl) ?_
      obtain ⟨v11, h12, hg⟩ := zh_bd hf
      replace hf := hg
      refine ze_aftI0 (ze_runV (As := [.int x1, .int x3]) (rest := [.int (1 : Int32), .int x2]) X 7 159 (c_X7_number l D B n hK0 h12) vX7_number kml_X7_159 hW hK0 rfl rfl ⟨by decide, by decide⟩ rfl hl.1 rfl (Nat.le_of_ble_eq_true rfl) ⟨Nat.le_refl _, Nat.le_refl _⟩ dX7_holesOf_32) hW (fun H locs hV => ?_)
      replace hW := hV
      refine lv_ishl X.1 X.2.1 dX7_holesOf_35 ?_
      exact w_X7_holesOf_36 X hr hlk hK0 hkself hf hW (lv_sub hl [0, 1, 3] rfl)
    · replace hf := zif_pos c10 hf
      refine lv_iconst (v := 0) X.1 X.2.1 dX7_holesOf_24 (by decide) ?_
      refine lv_goto (tgt := 36) X.1 X.2.1 dX7_holesOf_25 (by decide) ?_
      exact w_X7_holesOf_36 X hr hlk hK0 hkself hf hW (lv_sub hl [0, 1, 3] rfl)
set_option maxRecDepth 100000 in
set_option maxHeartbeats 4000000 in
theorem w_X7_holesOf_4 {F : Nat} {a0 : Nat}  (X : zX p s m c cX7_holesOf 4 RX7 D) (hr : meth.sig.returnType = some .int) (hlk : meth.locks = false) (hK0 : (K a0).1 = 17)  {t : Nat} {x1 : Int32} {x2 : Int32} {x3 : Int32} (hf : f_X7_holesOf_4 F K I R a0  t x1 x2 x3 = some r) (hW : zS (zOwn B K (B + n)) D B n K I R s.heap H locs) (hl : lv_has ls 4 [(0, .ref (B + a0)), (1, .int x1), (2, .int x2), (3, .int x3)]) : W p l e ({ frames := 2, cells := 0, slots := 0, locals := 62 } : Room) s m args below meth c H locs 0 0 (MQ below (zQi D (zOwn B K (B + n)) r B n K I R) args s 0 0 (zOwn B K (B + n))) (F0 m 4 ls []) := by
  have key : ∀ t : Nat, ∀ (x1 : Int32) (x2 : Int32) (x3 : Int32) (H : Heap) (locs : List Loc) (ls : Array Slot), f_X7_holesOf_4 F K I R a0  t x1 x2 x3 = some r → zS (zOwn B K (B + n)) D B n K I R s.heap H locs → lv_has ls 4 [(0, .ref (B + a0)), (1, .int x1), (2, .int x2), (3, .int x3)] → W p l e ({ frames := 2, cells := 0, slots := 0, locals := 62 } : Room) s m args below meth c H locs 0 0 (MQ below (zQi D (zOwn B K (B + n)) r B n K I R) args s 0 0 (zOwn B K (B + n))) (F0 m 4 ls []) := by
    intro t
    induction t with
    | zero =>
      intro x1 x2 x3 H locs ls hf hW hl
      cases hf
    | succ t ih =>
      intro x1 x2 x3 H locs ls hf hW hl
      exact wg_X7_holesOf_4 X hr hlk hK0  ih hf hW hl
  exact key t _ _ _ _ _ _ hf hW hl
set_option maxRecDepth 100000 in
set_option maxHeartbeats 4000000 in
theorem c_X7_holesOf (l : Launch) (D : zD) (B n : Nat) {F : Nat} {K : zK} {I : zI} {R : zR} {a0 : Nat} {x1 : Int32} {r : Int32} (hK0 : (K a0).1 = 17) (hf : f_X7_holesOf F K I R a0 x1 = some r) : zM l yX7_holesOf cX7_holesOf 4 (some .int) ({ frames := 2, cells := 0, slots := 0, locals := 62 } : Room) D B n K I R [.ref (B + a0), .int x1] (zQi D (zOwn B K (B + n)) r B n K I R) := by
  refine ze_entry (lv0 := [(0, .ref (B + a0)), (1, .int x1)]) (by decide) (by simp [lg_sl, zcat, zcat_i, zcat_r, zcat_l]) (by simp [lv_args, zcat, zcat_i, zcat_r, zcat_l]) (fun p e s m below meth c X hr hlk hin hW ls hl => ?_)
  unfold f_X7_holesOf at hf
  refine lv_iconst (v := 0) X.1 X.2.1 dX7_holesOf_0 (by decide) ?_
  refine lv_istore_n (i := 2) (lv' := [(2, .int (0 : Int32)), (0, .ref (B + a0)), (1, .int x1)]) X.1 X.2.1 dX7_holesOf_1 rfl hl (by decide) rfl (fun ls hk => ?_)
  replace hl := hk
  refine lv_iconst (v := 0) X.1 X.2.1 dX7_holesOf_2 (by decide) ?_
  refine lv_istore_n (i := 3) (lv' := [(3, .int (0 : Int32)), (2, .int (0 : Int32)), (0, .ref (B + a0)), (1, .int x1)]) X.1 X.2.1 dX7_holesOf_3 rfl hl (by decide) rfl (fun ls hk => ?_)
  replace hl := hk
  exact w_X7_holesOf_4 X hr hlk hK0 hf hW (lv_sub hl [2, 3, 1, 0] rfl)
end

/-! LeastPatternsModel.sizeOf(II)I -/
def g_X7_sizeOf_98 (F : Nat) (K : zK) (R : zR) (a0 : Nat)  (kself : zI → Int32 → Int32 → Int32 → Int32 → Int32 → Int32 → Int32 → Int32 → Option (Int32 × zI)) (I : zI) (x2 : Int32) (x3 : Int32) (x4 : Int32) (x5 : Int32) (x6 : Int32) (x7 : Int32) (x8 : Int32) (x9 : Int32) : Option (Int32 × zI) :=
  if (10 : Int32) ≤ x9 then
    if x2 = (0 : Int32) then
      zbd (some (R a0 0)) fun o6 =>
      zbd (zdr K o6 1) fun a7 =>
      zbd (zrd K I a7 x3) fun v10 =>
      some (v10, I)
    else
      if x2 = (1 : Int32) then
        some (x5, I)
      else
        if x2 = (2 : Int32) then
          some (x7, I)
        else
          if x2 = (3 : Int32) then
            some (x6, I)
          else
            some (x8, I)
  else
    zbd (some (x7 + ((x4 >>> (x9 &&& 31)) &&& (1 : Int32)))) fun v11 =>
    zbd (some (x8 + (((x4 >>> (x9 &&& 31)) &&& (1 : Int32)) * x9))) fun v12 =>
    kself I x2 x3 x4 x5 x6 v11 v12 (x9 + (1 : Int32))
def f_X7_sizeOf_98 (F : Nat) (K : zK) (R : zR) (a0 : Nat)  : Nat → zI → Int32 → Int32 → Int32 → Int32 → Int32 → Int32 → Int32 → Int32 → Option (Int32 × zI)
  | 0, _, _, _, _, _, _, _, _, _ => none
  | t + 1, I, x2, x3, x4, x5, x6, x7, x8, x9 => g_X7_sizeOf_98 F K R a0  (f_X7_sizeOf_98 F K R a0  t) I x2 x3 x4 x5 x6 x7 x8 x9
def f_X7_sizeOf_81 (F : Nat) (K : zK) (R : zR) (a0 : Nat) (k26 : zI → Int32 → Int32 → Int32 → Int32 → Int32 → Int32 → Option (Int32 × zI)) (I : zI) (x2 : Int32) (x3 : Int32) (x4 : Int32) (x5 : Int32) (x7 : Int32) (s0 : Int32) : Option (Int32 × zI) :=
  k26 I x2 x3 x4 x5 s0 (x7 + (1 : Int32))
def f_X7_sizeOf_54 (F : Nat) (K : zK) (R : zR) (a0 : Nat) (k26 : zI → Int32 → Int32 → Int32 → Int32 → Int32 → Int32 → Option (Int32 × zI)) (I : zI) (x2 : Int32) (x3 : Int32) (x4 : Int32) (x6 : Int32) (x7 : Int32) (s0 : Int32) (s1 : Int32) : Option (Int32 × zI) :=
  zbd (some (s0 + s1)) fun v13 =>
  zbd (some (R a0 7)) fun o14 =>
  zbd (zdr K o14 1) fun a15 =>
  zbd (zrd K I a15 x7) fun v18 =>
  if v18 ≤ x6 then
    f_X7_sizeOf_81 F K R a0 k26 I x2 x3 x4 v13 x7 x6
  else
    zbd (some (R a0 7)) fun o20 =>
    zbd (zdr K o20 1) fun a21 =>
    zbd (zrd K I a21 x7) fun v24 =>
    f_X7_sizeOf_81 F K R a0 k26 I x2 x3 x4 v13 x7 v24
def g_X7_sizeOf_26 (F : Nat) (K : zK) (R : zR) (a0 : Nat)  (kself : zI → Int32 → Int32 → Int32 → Int32 → Int32 → Int32 → Option (Int32 × zI)) (I : zI) (x2 : Int32) (x3 : Int32) (x4 : Int32) (x5 : Int32) (x6 : Int32) (x7 : Int32) : Option (Int32 × zI) :=
  zbd (some (R a0 0)) fun o25 =>
  zbd (zdr K o25 1) fun a26 =>
  zbd (zrd K I a26 x3) fun v29 =>
  if v29 ≤ x7 then
    f_X7_sizeOf_98 F K R a0 F I x2 x3 x4 x5 x6 (0 : Int32) (0 : Int32) (0 : Int32)
  else
    zbd (f_X7_sort F K I R a0 x3 x7) fun v31 =>
    if v31 = (0 : Int32) then
      f_X7_sizeOf_54 F K R a0 kself I x2 x3 x4 x6 x7 x5 (1 : Int32)
    else
      f_X7_sizeOf_54 F K R a0 kself I x2 x3 x4 x6 x7 x5 (0 : Int32)
def f_X7_sizeOf_26 (F : Nat) (K : zK) (R : zR) (a0 : Nat)  : Nat → zI → Int32 → Int32 → Int32 → Int32 → Int32 → Int32 → Option (Int32 × zI)
  | 0, _, _, _, _, _, _, _ => none
  | t + 1, I, x2, x3, x4, x5, x6, x7 => g_X7_sizeOf_26 F K R a0  (f_X7_sizeOf_26 F K R a0  t) I x2 x3 x4 x5 x6 x7
def f_X7_sizeOf (F : Nat) (K : zK) (I : zI) (R : zR) (a0 : Nat) (x1 : Int32) (x2 : Int32) : Option (Int32 × zI) :=
  zbd (some ((97 : Int32) * x1)) fun v34 =>
  zbd (f_X7_holesOf F K I R a0 v34) fun v35 =>
  zbd (f_X7_levels F K I R a0 v34) fun I37 =>
  f_X7_sizeOf_26 F K R a0 F I37 x2 v34 v35 (0 : Int32) (0 : Int32) (0 : Int32)
section
variable {p : Program} {l : Launch} {e : Env} {s : State} {m : MethodId} {args : Array Value} {below : List Frame} {meth : Method} {c : Code} {D : zD} {B n n0 n' fd ld : Nat} {K K0 K' : zK} {I I' : zI} {R R' : zR} {H : Heap} {locs : List Loc} {ls : Array Slot} {r : Int32}
set_option maxRecDepth 100000 in
set_option maxHeartbeats 4000000 in
theorem wg_X7_sizeOf_98 {F : Nat} {a0 : Nat}  (X : zX p s m c cX7_sizeOf 10 RX7 D) (hr : meth.sig.returnType = some .int) (hlk : meth.locks = false) (hK0 : (K a0).1 = 17)  {kself : zI → Int32 → Int32 → Int32 → Int32 → Int32 → Int32 → Int32 → Int32 → Option (Int32 × zI)} (hkself : ∀ (I : zI) (x2 : Int32) (x3 : Int32) (x4 : Int32) (x5 : Int32) (x6 : Int32) (x7 : Int32) (x8 : Int32) (x9 : Int32) (H : Heap) (locs : List Loc) (ls : Array Slot), kself I x2 x3 x4 x5 x6 x7 x8 x9 = some (r, I') → zS (zOwn B K (B + n)) D B n K I R s.heap H locs → lv_has ls 10 [(0, .ref (B + a0)), (2, .int x2), (3, .int x3), (4, .int x4), (5, .int x5), (6, .int x6), (7, .int x7), (8, .int x8), (9, .int x9)] → W p l e ({ frames := 4, cells := 0, slots := 0, locals := 111 } : Room) s m args below meth c H locs 0 0 (MQ below (zQi D (zOwn B K (B + n)) r B n K I' R) args s 0 0 (zOwn B K (B + n))) (F0 m 98 ls [])) {x2 : Int32} {x3 : Int32} {x4 : Int32} {x5 : Int32} {x6 : Int32} {x7 : Int32} {x8 : Int32} {x9 : Int32} (hf : g_X7_sizeOf_98 F K R a0  kself I x2 x3 x4 x5 x6 x7 x8 x9 = some (r, I')) (hW : zS (zOwn B K (B + n)) D B n K I R s.heap H locs) (hl : lv_has ls 10 [(0, .ref (B + a0)), (2, .int x2), (3, .int x3), (4, .int x4), (5, .int x5), (6, .int x6), (7, .int x7), (8, .int x8), (9, .int x9)]) : W p l e ({ frames := 4, cells := 0, slots := 0, locals := 111 } : Room) s m args below meth c H locs 0 0 (MQ below (zQi D (zOwn B K (B + n)) r B n K I' R) args s 0 0 (zOwn B K (B + n))) (F0 m 98 ls []) := by
  unfold g_X7_sizeOf_98 at hf
  refine lv_iload X.1 X.2.1 dX7_sizeOf_98 (lv_at hl 8 rfl) ?_
  refine lv_bipush (v := 10) X.1 X.2.1 dX7_sizeOf_100 (by decide) ?_
  refine lv_icmp_ge (tgt := 138) X.1 X.2.1 dX7_sizeOf_102 (by decide) (fun c1 => ?_) (fun c1 => ?_)
  · replace hf := zif_pos c1 hf
    refine lv_iload_n X.1 X.2.1 dX7_sizeOf_138 rfl (lv_at hl 1 rfl) ?_
    refine lv_if_ne (tgt := 151) X.1 X.2.1 dX7_sizeOf_139 (by decide) (fun c2 => ?_) (fun c2 => ?_)
    · replace hf := zif_neg c2 hf
      refine lv_iload_n X.1 X.2.1 dX7_sizeOf_151 rfl (lv_at hl 1 rfl) ?_
      refine lv_iconst (v := 1) X.1 X.2.1 dX7_sizeOf_152 (by decide) ?_
      refine lv_icmp_ne (tgt := 161) X.1 X.2.1 dX7_sizeOf_153 (by decide) (fun c3 => ?_) (fun c3 => ?_)
      · replace hf := zif_neg c3 hf
        refine lv_iload_n X.1 X.2.1 dX7_sizeOf_161 rfl (lv_at hl 1 rfl) ?_
        refine lv_iconst (v := 2) X.1 X.2.1 dX7_sizeOf_162 (by decide) ?_
        refine lv_icmp_ne (tgt := 171) X.1 X.2.1 dX7_sizeOf_163 (by decide) (fun c4 => ?_) (fun c4 => ?_)
        · replace hf := zif_neg c4 hf
          refine lv_iload_n X.1 X.2.1 dX7_sizeOf_171 rfl (lv_at hl 1 rfl) ?_
          refine lv_iconst (v := 3) X.1 X.2.1 dX7_sizeOf_172 (by decide) ?_
          refine lv_icmp_ne (tgt := 181) X.1 X.2.1 dX7_sizeOf_173 (by decide) (fun c5 => ?_) (fun c5 => ?_)
          · replace hf := zif_neg c5 hf
            refine lv_iload X.1 X.2.1 dX7_sizeOf_181 (lv_at hl 7 rfl) ?_
            obtain ⟨rfl, rfl⟩ := zi2 hf
            exact ze_retI X hr hlk hW (Nat.le_refl _) (Nat.le_refl _) dX7_sizeOf_183
          · replace hf := zif_pos c5 hf
            refine lv_iload X.1 X.2.1 dX7_sizeOf_176 (lv_at hl 5 rfl) ?_
            refine lv_goto (tgt := 183) X.1 X.2.1 dX7_sizeOf_178 (by decide) ?_
            obtain ⟨rfl, rfl⟩ := zi2 hf
            exact ze_retI X hr hlk hW (Nat.le_refl _) (Nat.le_refl _) dX7_sizeOf_183
        · replace hf := zif_pos c4 hf
          refine lv_iload X.1 X.2.1 dX7_sizeOf_166 (lv_at hl 6 rfl) ?_
          refine lv_goto (tgt := 183) X.1 X.2.1 dX7_sizeOf_168 (by decide) ?_
          obtain ⟨rfl, rfl⟩ := zi2 hf
          exact ze_retI X hr hlk hW (Nat.le_refl _) (Nat.le_refl _) dX7_sizeOf_183
      · replace hf := zif_pos c3 hf
        refine lv_iload X.1 X.2.1 dX7_sizeOf_156 (lv_at hl 4 rfl) ?_
        refine lv_goto (tgt := 183) X.1 X.2.1 dX7_sizeOf_158 (by decide) ?_
        obtain ⟨rfl, rfl⟩ := zi2 hf
        exact ze_retI X hr hlk hW (Nat.le_refl _) (Nat.le_refl _) dX7_sizeOf_183
    · replace hf := zif_pos c2 hf
      refine lv_aload_n X.1 X.2.1 dX7_sizeOf_142 rfl (lv_at hl 0 rfl) ?_
      refine ze_gtR X 7 0 7 (RX7, TX7, 39) rfl hf hW hK0 rfl (by decide) kfl_X7_7 dX7_sizeOf_143 (fun o6 hg => ?_)
      replace hf := hg
      refine lv_iload_n X.1 X.2.1 dX7_sizeOf_146 rfl (lv_at hl 2 rfl) ?_
      obtain ⟨a7, rfl, k9, hg⟩ := zh_dr hf
      replace hf := hg
      refine ze_iald X hf hW k9 dX7_sizeOf_147 (fun v10 hg => ?_)
      replace hf := hg
      refine lv_goto (tgt := 183) X.1 X.2.1 dX7_sizeOf_148 (by decide) ?_
      obtain ⟨rfl, rfl⟩ := zi2 hf
      exact ze_retI X hr hlk hW (Nat.le_refl _) (Nat.le_refl _) dX7_sizeOf_183
  · replace hf := zif_neg c1 hf
    refine lv_iload X.1 X.2.1 dX7_sizeOf_105 (lv_at hl 6 rfl) ?_
    refine lv_iload X.1 X.2.1 dX7_sizeOf_107 (lv_at hl 3 rfl) ?_
    refine lv_iload X.1 X.2.1 dX7_sizeOf_109 (lv_at hl 8 rfl) ?_
    refine lv_ishr X.1 X.2.1 dX7_sizeOf_111 ?_
    refine lv_iconst (v := 1) X.1 X.2.1 dX7_sizeOf_112 (by decide) ?_
    refine lv_iand X.1 X.2.1 dX7_sizeOf_113 ?_
    refine lv_iadd X.1 X.2.1 dX7_sizeOf_114 ?_
    refine ze_nm hf (fun v11 hg => ?_)
    replace hf := hg
    refine lv_istore (lv' := [(7, .int v11), (0, .ref (B + a0)), (2, .int x2), (3, .int x3), (4, .int x4), (5, .int x5), (6, .int x6), (8, .int x8), (9, .int x9)]) X.1 X.2.1 dX7_sizeOf_115 hl (by decide) rfl (fun ls hk => ?_)
    replace hl := hk
    refine lv_iload X.1 X.2.1 dX7_sizeOf_117 (lv_at hl 7 rfl) ?_
    refine lv_iload X.1 X.2.1 dX7_sizeOf_119 (lv_at hl 4 rfl) ?_
    refine lv_iload X.1 X.2.1 dX7_sizeOf_121 (lv_at hl 8 rfl) ?_
    refine lv_ishr X.1 X.2.1 dX7_sizeOf_123 ?_
    refine lv_iconst (v := 1) X.1 X.2.1 dX7_sizeOf_124 (by decide) ?_
    refine lv_iand X.1 X.2.1 dX7_sizeOf_125 ?_
    refine lv_iload X.1 X.2.1 dX7_sizeOf_126 (lv_at hl 8 rfl) ?_
    refine lv_imul X.1 X.2.1 dX7_sizeOf_128 ?_
    refine lv_iadd X.1 X.2.1 dX7_sizeOf_129 ?_
    refine ze_nm hf (fun v12 hg => ?_)
    replace hf := hg
    refine lv_istore (lv' := [(8, .int v12), (7, .int v11), (0, .ref (B + a0)), (2, .int x2), (3, .int x3), (4, .int x4), (5, .int x5), (6, .int x6), (9, .int x9)]) X.1 X.2.1 dX7_sizeOf_130 hl (by decide) rfl (fun ls hk => ?_)
    replace hl := hk
    refine ze_iinc (lv' := [(9, .int (x9 + (1 : Int32))), (8, .int v12), (7, .int v11), (0, .ref (B + a0)), (2, .int x2), (3, .int x3), (4, .int x4), (5, .int x5), (6, .int x6)]) (d := 1) X.1 X.2.1 dX7_sizeOf_132 hl (k := 8) rfl (by decide) (by decide) rfl (fun ls hk => ?_)
    replace hl := hk
    refine lv_goto (tgt := 98) X.1 X.2.1 dX7_sizeOf_135 (by decide) ?_
    exact hkself _ _ _ _ _ _ _ _ _ _ _ _ hf hW (lv_sub hl [3, 4, 5, 6, 7, 8, 2, 1, 0] rfl)
set_option maxRecDepth 100000 in
set_option maxHeartbeats 4000000 in
theorem w_X7_sizeOf_98 {F : Nat} {a0 : Nat}  (X : zX p s m c cX7_sizeOf 10 RX7 D) (hr : meth.sig.returnType = some .int) (hlk : meth.locks = false) (hK0 : (K a0).1 = 17)  {t : Nat} {x2 : Int32} {x3 : Int32} {x4 : Int32} {x5 : Int32} {x6 : Int32} {x7 : Int32} {x8 : Int32} {x9 : Int32} (hf : f_X7_sizeOf_98 F K R a0  t I x2 x3 x4 x5 x6 x7 x8 x9 = some (r, I')) (hW : zS (zOwn B K (B + n)) D B n K I R s.heap H locs) (hl : lv_has ls 10 [(0, .ref (B + a0)), (2, .int x2), (3, .int x3), (4, .int x4), (5, .int x5), (6, .int x6), (7, .int x7), (8, .int x8), (9, .int x9)]) : W p l e ({ frames := 4, cells := 0, slots := 0, locals := 111 } : Room) s m args below meth c H locs 0 0 (MQ below (zQi D (zOwn B K (B + n)) r B n K I' R) args s 0 0 (zOwn B K (B + n))) (F0 m 98 ls []) := by
  have key : ∀ t : Nat, ∀ (I : zI) (x2 : Int32) (x3 : Int32) (x4 : Int32) (x5 : Int32) (x6 : Int32) (x7 : Int32) (x8 : Int32) (x9 : Int32) (H : Heap) (locs : List Loc) (ls : Array Slot), f_X7_sizeOf_98 F K R a0  t I x2 x3 x4 x5 x6 x7 x8 x9 = some (r, I') → zS (zOwn B K (B + n)) D B n K I R s.heap H locs → lv_has ls 10 [(0, .ref (B + a0)), (2, .int x2), (3, .int x3), (4, .int x4), (5, .int x5), (6, .int x6), (7, .int x7), (8, .int x8), (9, .int x9)] → W p l e ({ frames := 4, cells := 0, slots := 0, locals := 111 } : Room) s m args below meth c H locs 0 0 (MQ below (zQi D (zOwn B K (B + n)) r B n K I' R) args s 0 0 (zOwn B K (B + n))) (F0 m 98 ls []) := by
    intro t
    induction t with
    | zero =>
      intro I x2 x3 x4 x5 x6 x7 x8 x9 H locs ls hf hW hl
      cases hf
    | succ t ih =>
      intro I x2 x3 x4 x5 x6 x7 x8 x9 H locs ls hf hW hl
      exact wg_X7_sizeOf_98 X hr hlk hK0  ih hf hW hl
  exact key t _ _ _ _ _ _ _ _ _ _ _ _ hf hW hl
set_option maxRecDepth 100000 in
set_option maxHeartbeats 4000000 in
theorem w_X7_sizeOf_81 {F : Nat} {a0 : Nat} {k26 : zI → Int32 → Int32 → Int32 → Int32 → Int32 → Int32 → Option (Int32 × zI)} (X : zX p s m c cX7_sizeOf 10 RX7 D) (hr : meth.sig.returnType = some .int) (hlk : meth.locks = false) (hK0 : (K a0).1 = 17) (hk26 : ∀ (I : zI) (x2 : Int32) (x3 : Int32) (x4 : Int32) (x5 : Int32) (x6 : Int32) (x7 : Int32) (H : Heap) (locs : List Loc) (ls : Array Slot), k26 I x2 x3 x4 x5 x6 x7 = some (r, I') → zS (zOwn B K (B + n)) D B n K I R s.heap H locs → lv_has ls 10 [(0, .ref (B + a0)), (2, .int x2), (3, .int x3), (4, .int x4), (5, .int x5), (6, .int x6), (7, .int x7)] → W p l e ({ frames := 4, cells := 0, slots := 0, locals := 111 } : Room) s m args below meth c H locs 0 0 (MQ below (zQi D (zOwn B K (B + n)) r B n K I' R) args s 0 0 (zOwn B K (B + n))) (F0 m 26 ls [])) {x2 : Int32} {x3 : Int32} {x4 : Int32} {x5 : Int32} {x7 : Int32} {s0 : Int32} (hf : f_X7_sizeOf_81 F K R a0 k26 I x2 x3 x4 x5 x7 s0 = some (r, I')) (hW : zS (zOwn B K (B + n)) D B n K I R s.heap H locs) (hl : lv_has ls 10 [(0, .ref (B + a0)), (2, .int x2), (3, .int x3), (4, .int x4), (5, .int x5), (7, .int x7)]) : W p l e ({ frames := 4, cells := 0, slots := 0, locals := 111 } : Room) s m args below meth c H locs 0 0 (MQ below (zQi D (zOwn B K (B + n)) r B n K I' R) args s 0 0 (zOwn B K (B + n))) (F0 m 81 ls [.int s0]) := by
  unfold f_X7_sizeOf_81 at hf
  refine lv_istore (lv' := [(6, .int s0), (0, .ref (B + a0)), (2, .int x2), (3, .int x3), (4, .int x4), (5, .int x5), (7, .int x7)]) X.1 X.2.1 dX7_sizeOf_81 hl (by decide) rfl (fun ls hk => ?_)
  replace hl := hk
  refine ze_iinc (lv' := [(7, .int (x7 + (1 : Int32))), (6, .int s0), (0, .ref (B + a0)), (2, .int x2), (3, .int x3), (4, .int x4), (5, .int x5)]) (d := 1) X.1 X.2.1 dX7_sizeOf_83 hl (k := 6) rfl (by decide) (by decide) rfl (fun ls hk => ?_)
  replace hl := hk
  refine lv_goto (tgt := 26) X.1 X.2.1 dX7_sizeOf_86 (by decide) ?_
  exact hk26 _ _ _ _ _ _ _ _ _ _ hf hW (lv_sub hl [2, 3, 4, 5, 6, 1, 0] rfl)
set_option maxRecDepth 100000 in
set_option maxHeartbeats 4000000 in
theorem w_X7_sizeOf_54 {F : Nat} {a0 : Nat} {k26 : zI → Int32 → Int32 → Int32 → Int32 → Int32 → Int32 → Option (Int32 × zI)} (X : zX p s m c cX7_sizeOf 10 RX7 D) (hr : meth.sig.returnType = some .int) (hlk : meth.locks = false) (hK0 : (K a0).1 = 17) (hk26 : ∀ (I : zI) (x2 : Int32) (x3 : Int32) (x4 : Int32) (x5 : Int32) (x6 : Int32) (x7 : Int32) (H : Heap) (locs : List Loc) (ls : Array Slot), k26 I x2 x3 x4 x5 x6 x7 = some (r, I') → zS (zOwn B K (B + n)) D B n K I R s.heap H locs → lv_has ls 10 [(0, .ref (B + a0)), (2, .int x2), (3, .int x3), (4, .int x4), (5, .int x5), (6, .int x6), (7, .int x7)] → W p l e ({ frames := 4, cells := 0, slots := 0, locals := 111 } : Room) s m args below meth c H locs 0 0 (MQ below (zQi D (zOwn B K (B + n)) r B n K I' R) args s 0 0 (zOwn B K (B + n))) (F0 m 26 ls [])) {x2 : Int32} {x3 : Int32} {x4 : Int32} {x6 : Int32} {x7 : Int32} {s0 : Int32} {s1 : Int32} (hf : f_X7_sizeOf_54 F K R a0 k26 I x2 x3 x4 x6 x7 s0 s1 = some (r, I')) (hW : zS (zOwn B K (B + n)) D B n K I R s.heap H locs) (hl : lv_has ls 10 [(0, .ref (B + a0)), (2, .int x2), (3, .int x3), (4, .int x4), (6, .int x6), (7, .int x7)]) : W p l e ({ frames := 4, cells := 0, slots := 0, locals := 111 } : Room) s m args below meth c H locs 0 0 (MQ below (zQi D (zOwn B K (B + n)) r B n K I' R) args s 0 0 (zOwn B K (B + n))) (F0 m 54 ls [.int s1, .int s0]) := by
  unfold f_X7_sizeOf_54 at hf
  refine lv_iadd X.1 X.2.1 dX7_sizeOf_54 ?_
  refine ze_nm hf (fun v13 hg => ?_)
  replace hf := hg
  refine lv_istore (lv' := [(5, .int v13), (0, .ref (B + a0)), (2, .int x2), (3, .int x3), (4, .int x4), (6, .int x6), (7, .int x7)]) X.1 X.2.1 dX7_sizeOf_55 hl (by decide) rfl (fun ls hk => ?_)
  replace hl := hk
  refine lv_aload_n X.1 X.2.1 dX7_sizeOf_57 rfl (lv_at hl 1 rfl) ?_
  refine ze_gtR X 7 7 26 (RX7, TX7, 39) rfl hf hW hK0 rfl (by decide) kfl_X7_26 dX7_sizeOf_58 (fun o14 hg => ?_)
  replace hf := hg
  refine lv_iload X.1 X.2.1 dX7_sizeOf_61 (lv_at hl 6 rfl) ?_
  obtain ⟨a15, rfl, k17, hg⟩ := zh_dr hf
  replace hf := hg
  refine ze_iald X hf hW k17 dX7_sizeOf_63 (fun v18 hg => ?_)
  replace hf := hg
  refine lv_iload X.1 X.2.1 dX7_sizeOf_64 (lv_at hl 5 rfl) ?_
  refine lv_icmp_le (tgt := 79) X.1 X.2.1 dX7_sizeOf_66 (by decide) (fun c19 => ?_) (fun c19 => ?_)
  · replace hf := zif_pos c19 hf
    refine lv_iload X.1 X.2.1 dX7_sizeOf_79 (lv_at hl 5 rfl) ?_
    exact w_X7_sizeOf_81 X hr hlk hK0 hk26 hf hW (lv_sub hl [1, 2, 3, 4, 0, 6] rfl)
  · replace hf := zif_neg c19 hf
    refine lv_aload_n X.1 X.2.1 dX7_sizeOf_69 rfl (lv_at hl 1 rfl) ?_
    refine ze_gtR X 7 7 26 (RX7, TX7, 39) rfl hf hW hK0 rfl (by decide) kfl_X7_26 dX7_sizeOf_70 (fun o20 hg => ?_)
    replace hf := hg
    refine lv_iload X.1 X.2.1 dX7_sizeOf_73 (lv_at hl 6 rfl) ?_
    obtain ⟨a21, rfl, k23, hg⟩ := zh_dr hf
    replace hf := hg
    refine ze_iald X hf hW k23 dX7_sizeOf_75 (fun v24 hg => ?_)
    replace hf := hg
    refine lv_goto (tgt := 81) X.1 X.2.1 dX7_sizeOf_76 (by decide) ?_
    exact w_X7_sizeOf_81 X hr hlk hK0 hk26 hf hW (lv_sub hl [1, 2, 3, 4, 0, 6] rfl)
set_option maxRecDepth 100000 in
set_option maxHeartbeats 4000000 in
theorem wg_X7_sizeOf_26 {F : Nat} {a0 : Nat}  (X : zX p s m c cX7_sizeOf 10 RX7 D) (hr : meth.sig.returnType = some .int) (hlk : meth.locks = false) (hK0 : (K a0).1 = 17)  {kself : zI → Int32 → Int32 → Int32 → Int32 → Int32 → Int32 → Option (Int32 × zI)} (hkself : ∀ (I : zI) (x2 : Int32) (x3 : Int32) (x4 : Int32) (x5 : Int32) (x6 : Int32) (x7 : Int32) (H : Heap) (locs : List Loc) (ls : Array Slot), kself I x2 x3 x4 x5 x6 x7 = some (r, I') → zS (zOwn B K (B + n)) D B n K I R s.heap H locs → lv_has ls 10 [(0, .ref (B + a0)), (2, .int x2), (3, .int x3), (4, .int x4), (5, .int x5), (6, .int x6), (7, .int x7)] → W p l e ({ frames := 4, cells := 0, slots := 0, locals := 111 } : Room) s m args below meth c H locs 0 0 (MQ below (zQi D (zOwn B K (B + n)) r B n K I' R) args s 0 0 (zOwn B K (B + n))) (F0 m 26 ls [])) {x2 : Int32} {x3 : Int32} {x4 : Int32} {x5 : Int32} {x6 : Int32} {x7 : Int32} (hf : g_X7_sizeOf_26 F K R a0  kself I x2 x3 x4 x5 x6 x7 = some (r, I')) (hW : zS (zOwn B K (B + n)) D B n K I R s.heap H locs) (hl : lv_has ls 10 [(0, .ref (B + a0)), (2, .int x2), (3, .int x3), (4, .int x4), (5, .int x5), (6, .int x6), (7, .int x7)]) : W p l e ({ frames := 4, cells := 0, slots := 0, locals := 111 } : Room) s m args below meth c H locs 0 0 (MQ below (zQi D (zOwn B K (B + n)) r B n K I' R) args s 0 0 (zOwn B K (B + n))) (F0 m 26 ls []) := by
  unfold g_X7_sizeOf_26 at hf
  refine lv_iload X.1 X.2.1 dX7_sizeOf_26 (lv_at hl 6 rfl) ?_
  refine lv_aload_n X.1 X.2.1 dX7_sizeOf_28 rfl (lv_at hl 0 rfl) ?_
  refine ze_gtR X 7 0 7 (RX7, TX7, 39) rfl hf hW hK0 rfl (by decide) kfl_X7_7 dX7_sizeOf_29 (fun o25 hg => ?_)
  replace hf := hg
  refine lv_iload_n X.1 X.2.1 dX7_sizeOf_32 rfl (lv_at hl 2 rfl) ?_
  obtain ⟨a26, rfl, k28, hg⟩ := zh_dr hf
  replace hf := hg
  refine ze_iald X hf hW k28 dX7_sizeOf_33 (fun v29 hg => ?_)
  replace hf := hg
  refine lv_icmp_ge (tgt := 89) X.1 X.2.1 dX7_sizeOf_34 (by decide) (fun c30 => ?_) (fun c30 => ?_)
  · replace hf := zif_pos c30 hf
    refine lv_iconst (v := 0) X.1 X.2.1 dX7_sizeOf_89 (by decide) ?_
    refine lv_istore (lv' := [(7, .int (0 : Int32)), (0, .ref (B + a0)), (2, .int x2), (3, .int x3), (4, .int x4), (5, .int x5), (6, .int x6)]) X.1 X.2.1 dX7_sizeOf_90 hl (by decide) rfl (fun ls hk => ?_)
    replace hl := hk
    refine lv_iconst (v := 0) X.1 X.2.1 dX7_sizeOf_92 (by decide) ?_
    refine lv_istore (lv' := [(8, .int (0 : Int32)), (7, .int (0 : Int32)), (0, .ref (B + a0)), (2, .int x2), (3, .int x3), (4, .int x4), (5, .int x5), (6, .int x6)]) X.1 X.2.1 dX7_sizeOf_93 hl (by decide) rfl (fun ls hk => ?_)
    replace hl := hk
    refine lv_iconst (v := 0) X.1 X.2.1 dX7_sizeOf_95 (by decide) ?_
    refine lv_istore (lv' := [(9, .int (0 : Int32)), (8, .int (0 : Int32)), (7, .int (0 : Int32)), (0, .ref (B + a0)), (2, .int x2), (3, .int x3), (4, .int x4), (5, .int x5), (6, .int x6)]) X.1 X.2.1 dX7_sizeOf_96 hl (by decide) rfl (fun ls hk => ?_)
    replace hl := hk
    exact w_X7_sizeOf_98 X hr hlk hK0 hf hW (lv_sub hl [3, 4, 5, 6, 7, 8, 2, 1, 0] rfl)
  · replace hf := zif_neg c30 hf
    refine lv_iload X.1 X.2.1 dX7_sizeOf_37 (lv_at hl 4 rfl) ?_
    refine lv_aload_n X.1 X.2.1 dX7_sizeOf_39 rfl (lv_at hl 0 rfl) ?_
    refine lv_iload_n X.1 X.2.1 dX7_sizeOf_40 rfl (lv_at hl 2 rfl) ?_
    refine lv_iload X.1 X.2.1 dX7_sizeOf_41 (lv_at hl 6 rfl) ?_
    obtain ⟨v31, h32, hg⟩ := zh_bd hf
    replace hf := hg
    refine ze_aftI0 (ze_runV (As := [.int x3, .int x7]) (rest := [.int x5]) X 7 119 (c_X7_sort l D B n hK0 h32) vX7_sort kml_X7_119 hW hK0 rfl rfl ⟨by decide, by decide⟩ rfl hl.1 rfl (Nat.le_of_ble_eq_true rfl) ⟨Nat.le_refl _, Nat.le_refl _⟩ dX7_sizeOf_43) hW (fun H locs hV => ?_)
    replace hW := hV
    refine lv_if_ne (tgt := 53) X.1 X.2.1 dX7_sizeOf_46 (by decide) (fun c33 => ?_) (fun c33 => ?_)
    · replace hf := zif_neg c33 hf
      refine lv_iconst (v := 0) X.1 X.2.1 dX7_sizeOf_53 (by decide) ?_
      exact w_X7_sizeOf_54 X hr hlk hK0 hkself hf hW (lv_sub hl [0, 1, 2, 3, 5, 6] rfl)
    · replace hf := zif_pos c33 hf
      refine lv_iconst (v := 1) X.1 X.2.1 dX7_sizeOf_49 (by decide) ?_
      refine lv_goto (tgt := 54) X.1 X.2.1 dX7_sizeOf_50 (by decide) ?_
      exact w_X7_sizeOf_54 X hr hlk hK0 hkself hf hW (lv_sub hl [0, 1, 2, 3, 5, 6] rfl)
set_option maxRecDepth 100000 in
set_option maxHeartbeats 4000000 in
theorem w_X7_sizeOf_26 {F : Nat} {a0 : Nat}  (X : zX p s m c cX7_sizeOf 10 RX7 D) (hr : meth.sig.returnType = some .int) (hlk : meth.locks = false) (hK0 : (K a0).1 = 17)  {t : Nat} {x2 : Int32} {x3 : Int32} {x4 : Int32} {x5 : Int32} {x6 : Int32} {x7 : Int32} (hf : f_X7_sizeOf_26 F K R a0  t I x2 x3 x4 x5 x6 x7 = some (r, I')) (hW : zS (zOwn B K (B + n)) D B n K I R s.heap H locs) (hl : lv_has ls 10 [(0, .ref (B + a0)), (2, .int x2), (3, .int x3), (4, .int x4), (5, .int x5), (6, .int x6), (7, .int x7)]) : W p l e ({ frames := 4, cells := 0, slots := 0, locals := 111 } : Room) s m args below meth c H locs 0 0 (MQ below (zQi D (zOwn B K (B + n)) r B n K I' R) args s 0 0 (zOwn B K (B + n))) (F0 m 26 ls []) := by
  have key : ∀ t : Nat, ∀ (I : zI) (x2 : Int32) (x3 : Int32) (x4 : Int32) (x5 : Int32) (x6 : Int32) (x7 : Int32) (H : Heap) (locs : List Loc) (ls : Array Slot), f_X7_sizeOf_26 F K R a0  t I x2 x3 x4 x5 x6 x7 = some (r, I') → zS (zOwn B K (B + n)) D B n K I R s.heap H locs → lv_has ls 10 [(0, .ref (B + a0)), (2, .int x2), (3, .int x3), (4, .int x4), (5, .int x5), (6, .int x6), (7, .int x7)] → W p l e ({ frames := 4, cells := 0, slots := 0, locals := 111 } : Room) s m args below meth c H locs 0 0 (MQ below (zQi D (zOwn B K (B + n)) r B n K I' R) args s 0 0 (zOwn B K (B + n))) (F0 m 26 ls []) := by
    intro t
    induction t with
    | zero =>
      intro I x2 x3 x4 x5 x6 x7 H locs ls hf hW hl
      cases hf
    | succ t ih =>
      intro I x2 x3 x4 x5 x6 x7 H locs ls hf hW hl
      exact wg_X7_sizeOf_26 X hr hlk hK0  ih hf hW hl
  exact key t _ _ _ _ _ _ _ _ _ _ hf hW hl
set_option maxRecDepth 100000 in
set_option maxHeartbeats 4000000 in
theorem c_X7_sizeOf (l : Launch) (D : zD) (B n : Nat) {F : Nat} {K : zK} {I : zI} {R : zR} {a0 : Nat} {x1 : Int32} {x2 : Int32} {r : Int32} {I' : zI} (hK0 : (K a0).1 = 17) (hf : f_X7_sizeOf F K I R a0 x1 x2 = some (r, I')) : zM l yX7_sizeOf cX7_sizeOf 10 (some .int) ({ frames := 4, cells := 0, slots := 0, locals := 111 } : Room) D B n K I R [.ref (B + a0), .int x1, .int x2] (zQi D (zOwn B K (B + n)) r B n K I' R) := by
  refine ze_entry (lv0 := [(0, .ref (B + a0)), (1, .int x1), (2, .int x2)]) (by decide) (by simp [lg_sl, zcat, zcat_i, zcat_r, zcat_l]) (by simp [lv_args, zcat, zcat_i, zcat_r, zcat_l]) (fun p e s m below meth c X hr hlk hin hW ls hl => ?_)
  unfold f_X7_sizeOf at hf
  refine lv_bipush (v := 97) X.1 X.2.1 dX7_sizeOf_0 (by decide) ?_
  refine lv_iload_n X.1 X.2.1 dX7_sizeOf_2 rfl (lv_at hl 1 rfl) ?_
  refine lv_imul X.1 X.2.1 dX7_sizeOf_3 ?_
  refine ze_nm hf (fun v34 hg => ?_)
  replace hf := hg
  refine lv_istore_n (i := 3) (lv' := [(3, .int v34), (0, .ref (B + a0)), (1, .int x1), (2, .int x2)]) X.1 X.2.1 dX7_sizeOf_4 rfl hl (by decide) rfl (fun ls hk => ?_)
  replace hl := hk
  refine lv_aload_n X.1 X.2.1 dX7_sizeOf_5 rfl (lv_at hl 1 rfl) ?_
  refine lv_iload_n X.1 X.2.1 dX7_sizeOf_6 rfl (lv_at hl 0 rfl) ?_
  obtain ⟨v35, h36, hg⟩ := zh_bd hf
  replace hf := hg
  refine ze_aftI0 (ze_runV (As := [.int v34]) (rest := []) X 7 211 (c_X7_holesOf l D B n hK0 h36) vX7_holesOf kml_X7_211 hW hK0 rfl rfl ⟨by decide, by decide⟩ rfl hl.1 rfl (Nat.le_of_ble_eq_true rfl) ⟨Nat.le_refl _, Nat.le_refl _⟩ dX7_sizeOf_7) hW (fun H locs hV => ?_)
  replace hW := hV
  refine lv_istore (lv' := [(4, .int v35), (3, .int v34), (0, .ref (B + a0)), (1, .int x1), (2, .int x2)]) X.1 X.2.1 dX7_sizeOf_10 hl (by decide) rfl (fun ls hk => ?_)
  replace hl := hk
  refine lv_iconst (v := 0) X.1 X.2.1 dX7_sizeOf_12 (by decide) ?_
  refine lv_istore (lv' := [(5, .int (0 : Int32)), (4, .int v35), (3, .int v34), (0, .ref (B + a0)), (1, .int x1), (2, .int x2)]) X.1 X.2.1 dX7_sizeOf_13 hl (by decide) rfl (fun ls hk => ?_)
  replace hl := hk
  refine lv_iconst (v := 0) X.1 X.2.1 dX7_sizeOf_15 (by decide) ?_
  refine lv_istore (lv' := [(6, .int (0 : Int32)), (5, .int (0 : Int32)), (4, .int v35), (3, .int v34), (0, .ref (B + a0)), (1, .int x1), (2, .int x2)]) X.1 X.2.1 dX7_sizeOf_16 hl (by decide) rfl (fun ls hk => ?_)
  replace hl := hk
  refine lv_aload_n X.1 X.2.1 dX7_sizeOf_18 rfl (lv_at hl 4 rfl) ?_
  refine lv_iload_n X.1 X.2.1 dX7_sizeOf_19 rfl (lv_at hl 3 rfl) ?_
  obtain ⟨I37, h38, hg⟩ := zh_bd hf
  replace hf := hg
  refine ze_aftV0 (ze_runV (As := [.int v34]) (rest := []) X 7 155 (c_X7_levels l D B n hK0 h38) vX7_levels kml_X7_155 hW hK0 rfl rfl ⟨by decide, by decide⟩ rfl hl.1 rfl (Nat.le_of_ble_eq_true rfl) ⟨Nat.le_refl _, Nat.le_refl _⟩ dX7_sizeOf_20) hW (fun H locs hV => ?_)
  replace hW := hV
  refine lv_iconst (v := 0) X.1 X.2.1 dX7_sizeOf_23 (by decide) ?_
  refine lv_istore (lv' := [(7, .int (0 : Int32)), (6, .int (0 : Int32)), (5, .int (0 : Int32)), (4, .int v35), (3, .int v34), (0, .ref (B + a0)), (1, .int x1), (2, .int x2)]) X.1 X.2.1 dX7_sizeOf_24 hl (by decide) rfl (fun ls hk => ?_)
  replace hl := hk
  exact w_X7_sizeOf_26 X hr hlk hK0 hf hW (lv_sub hl [5, 7, 4, 3, 2, 1, 0] rfl)
end

/-! LeastPatternsModel.size(II)I -/
def f_X7_size (F : Nat) (K : zK) (I : zI) (R : zR) (a0 : Nat) (x1 : Int32) (x2 : Int32) : Option (Int32 × zI) :=
  zbd (f_X7_isRegister F K I R x1) fun v1 =>
  if v1 = (0 : Int32) then
    some ((-1 : Int32), I)
  else
    zbd (f_X7_in F K I R x2 (0 : Int32) (4 : Int32)) fun v4 =>
    if v4 = (0 : Int32) then
      some ((-1 : Int32), I)
    else
      zbd (f_X7_isEmpty F K I R a0 x1) fun v7 =>
      if v7 = (0 : Int32) then
        zbd2 (f_X7_sizeOf F K I R a0 x1 x2) fun v10 I11 =>
        some (v10, I11)
      else
        some ((-2 : Int32), I)
section
variable {p : Program} {l : Launch} {e : Env} {s : State} {m : MethodId} {args : Array Value} {below : List Frame} {meth : Method} {c : Code} {D : zD} {B n n0 n' fd ld : Nat} {K K0 K' : zK} {I I' : zI} {R R' : zR} {H : Heap} {locs : List Loc} {ls : Array Slot} {r : Int32}
set_option maxRecDepth 100000 in
set_option maxHeartbeats 4000000 in
theorem c_X7_size (l : Launch) (D : zD) (B n : Nat) {F : Nat} {K : zK} {I : zI} {R : zR} {a0 : Nat} {x1 : Int32} {x2 : Int32} {r : Int32} {I' : zI} (hK0 : (K a0).1 = 17) (hf : f_X7_size F K I R a0 x1 x2 = some (r, I')) : zM l yX7_size cX7_size 3 (some .int) ({ frames := 5, cells := 0, slots := 0, locals := 140 } : Room) D B n K I R [.ref (B + a0), .int x1, .int x2] (zQi D (zOwn B K (B + n)) r B n K I' R) := by
  refine ze_entry (lv0 := [(0, .ref (B + a0)), (1, .int x1), (2, .int x2)]) (by decide) (by simp [lg_sl, zcat, zcat_i, zcat_r, zcat_l]) (by simp [lv_args, zcat, zcat_i, zcat_r, zcat_l]) (fun p e s m below meth c X hr hlk hin hW ls hl => ?_)
  unfold f_X7_size at hf
  refine lv_iload_n X.1 X.2.1 dX7_size_0 rfl (lv_at hl 1 rfl) ?_
  obtain ⟨v1, h2, hg⟩ := zh_bd hf
  replace hf := hg
  refine ze_aftI0 (ze_runS (As := [.int x1]) (rest := []) X 182 (c_X7_isRegister l D B n h2) vX7_isRegister kml_X7_182 hW ⟨by decide, by decide⟩ rfl hl.1 rfl (Nat.le_of_ble_eq_true rfl) ⟨Nat.le_refl _, Nat.le_refl _⟩ dX7_size_1) hW (fun H locs hV => ?_)
  replace hW := hV
  refine lv_if_eq (tgt := 16) X.1 X.2.1 dX7_size_4 (by decide) (fun c3 => ?_) (fun c3 => ?_)
  · replace hf := zif_pos c3 hf
    refine lv_iconst (v := -1) X.1 X.2.1 dX7_size_16 (by decide) ?_
    obtain ⟨rfl, rfl⟩ := zi2 hf
    exact ze_retI X hr hlk hW (Nat.le_refl _) (Nat.le_refl _) dX7_size_17
  · replace hf := zif_neg c3 hf
    refine lv_iload_n X.1 X.2.1 dX7_size_7 rfl (lv_at hl 2 rfl) ?_
    refine lv_iconst (v := 0) X.1 X.2.1 dX7_size_8 (by decide) ?_
    refine lv_iconst (v := 4) X.1 X.2.1 dX7_size_9 (by decide) ?_
    obtain ⟨v4, h5, hg⟩ := zh_bd hf
    replace hf := hg
    refine ze_aftI0 (ze_runS (As := [.int x2, .int (0 : Int32), .int (4 : Int32)]) (rest := []) X 122 (c_X7_in l D B n h5) vX7_in kml_X7_122 hW ⟨by decide, by decide⟩ rfl hl.1 rfl (Nat.le_of_ble_eq_true rfl) ⟨Nat.le_refl _, Nat.le_refl _⟩ dX7_size_10) hW (fun H locs hV => ?_)
    replace hW := hV
    refine lv_if_ne (tgt := 18) X.1 X.2.1 dX7_size_13 (by decide) (fun c6 => ?_) (fun c6 => ?_)
    · replace hf := zif_neg c6 hf
      refine lv_aload_n X.1 X.2.1 dX7_size_18 rfl (lv_at hl 0 rfl) ?_
      refine lv_iload_n X.1 X.2.1 dX7_size_19 rfl (lv_at hl 1 rfl) ?_
      obtain ⟨v7, h8, hg⟩ := zh_bd hf
      replace hf := hg
      refine ze_aftI0 (ze_runV (As := [.int x1]) (rest := []) X 7 204 (c_X7_isEmpty l D B n hK0 h8) vX7_isEmpty kml_X7_204 hW hK0 rfl rfl ⟨by decide, by decide⟩ rfl hl.1 rfl (Nat.le_of_ble_eq_true rfl) ⟨Nat.le_refl _, Nat.le_refl _⟩ dX7_size_20) hW (fun H locs hV => ?_)
      replace hW := hV
      refine lv_if_eq (tgt := 31) X.1 X.2.1 dX7_size_23 (by decide) (fun c9 => ?_) (fun c9 => ?_)
      · replace hf := zif_pos c9 hf
        refine lv_aload_n X.1 X.2.1 dX7_size_31 rfl (lv_at hl 0 rfl) ?_
        refine lv_iload_n X.1 X.2.1 dX7_size_32 rfl (lv_at hl 1 rfl) ?_
        refine lv_iload_n X.1 X.2.1 dX7_size_33 rfl (lv_at hl 2 rfl) ?_
        obtain ⟨v10, I11, h12, hg⟩ := zh_bd2 hf
        replace hf := hg
        refine ze_aftI0 (ze_runV (As := [.int x1, .int x2]) (rest := []) X 7 214 (c_X7_sizeOf l D B n hK0 h12) vX7_sizeOf kml_X7_214 hW hK0 rfl rfl ⟨by decide, by decide⟩ rfl hl.1 rfl (Nat.le_of_ble_eq_true rfl) ⟨Nat.le_refl _, Nat.le_refl _⟩ dX7_size_34) hW (fun H locs hV => ?_)
        replace hW := hV
        obtain ⟨rfl, rfl⟩ := zi2 hf
        exact ze_retI X hr hlk hW (Nat.le_refl _) (Nat.le_refl _) dX7_size_37
      · replace hf := zif_neg c9 hf
        refine lv_bipush (v := -2) X.1 X.2.1 dX7_size_26 (by decide) ?_
        refine lv_goto (tgt := 37) X.1 X.2.1 dX7_size_28 (by decide) ?_
        obtain ⟨rfl, rfl⟩ := zi2 hf
        exact ze_retI X hr hlk hW (Nat.le_refl _) (Nat.le_refl _) dX7_size_37
    · replace hf := zif_pos c6 hf
      refine lv_iconst (v := -1) X.1 X.2.1 dX7_size_16 (by decide) ?_
      obtain ⟨rfl, rfl⟩ := zi2 hf
      exact ze_retI X hr hlk hW (Nat.le_refl _) (Nat.le_refl _) dX7_size_17
end

/-! LeastPatternsModel.isPair(IIIIIIII)Z -/
def f_X7_isPair (F : Nat) (K : zK) (I : zI) (R : zR) (a0 : Nat) (x1 : Int32) (x2 : Int32) (x3 : Int32) (x4 : Int32) (x5 : Int32) (x6 : Int32) (x7 : Int32) (x8 : Int32) : Option (Int32) :=
  zbd (some (R a0 17)) fun o1 =>
  zbd (zdr K o1 1) fun a2 =>
  zbd (zrd K I a2 x1) fun v5 =>
  if v5 = x2 then
    zbd (some (R a0 20)) fun o7 =>
    zbd (zdr K o7 1) fun a8 =>
    zbd (zrd K I a8 x1) fun v11 =>
    if v11 = x5 then
      zbd (some (R a0 23)) fun o13 =>
      zbd (zdr K o13 1) fun a14 =>
      zbd (zrd K I a14 x1) fun v17 =>
      if v17 = x8 then
        if x2 = (2 : Int32) then
          zbd (some (R a0 18)) fun o46 =>
          zbd (zdr K o46 1) fun a47 =>
          zbd (zrd K I a47 x1) fun v50 =>
          zbd (some (R a0 19)) fun o51 =>
          zbd (zdr K o51 1) fun a52 =>
          zbd (zrd K I a52 x1) fun v55 =>
          zbd (f_X7_number F K I R a0 v50 v55) fun v56 =>
          zbd (f_X7_number F K I R a0 x3 x4) fun v58 =>
          if v56 = v58 then
            zbd (some (R a0 21)) fun o61 =>
            zbd (zdr K o61 1) fun a62 =>
            zbd (zrd K I a62 x1) fun v65 =>
            zbd (some (R a0 22)) fun o66 =>
            zbd (zdr K o66 1) fun a67 =>
            zbd (zrd K I a67 x1) fun v70 =>
            zbd (f_X7_number F K I R a0 v65 v70) fun v71 =>
            zbd (f_X7_number F K I R a0 x6 x7) fun v73 =>
            if v71 = v73 then
              some (1 : Int32)
            else
              some (0 : Int32)
          else
            some (0 : Int32)
        else
          zbd (some (R a0 18)) fun o20 =>
          zbd (zdr K o20 1) fun a21 =>
          zbd (zrd K I a21 x1) fun v24 =>
          zbd (some (R a0 19)) fun o25 =>
          zbd (zdr K o25 1) fun a26 =>
          zbd (zrd K I a26 x1) fun v29 =>
          zbd (f_X7_isSame F K I R a0 v24 v29 x3 x4 x5) fun v30 =>
          if v30 = (0 : Int32) then
            some (0 : Int32)
          else
            zbd (some (R a0 21)) fun o33 =>
            zbd (zdr K o33 1) fun a34 =>
            zbd (zrd K I a34 x1) fun v37 =>
            zbd (some (R a0 22)) fun o38 =>
            zbd (zdr K o38 1) fun a39 =>
            zbd (zrd K I a39 x1) fun v42 =>
            zbd (f_X7_isSame F K I R a0 v37 v42 x6 x7 x8) fun v43 =>
            if v43 = (0 : Int32) then
              some (0 : Int32)
            else
              some (1 : Int32)
      else
        some (0 : Int32)
    else
      some (0 : Int32)
  else
    some (0 : Int32)
section
variable {p : Program} {l : Launch} {e : Env} {s : State} {m : MethodId} {args : Array Value} {below : List Frame} {meth : Method} {c : Code} {D : zD} {B n n0 n' fd ld : Nat} {K K0 K' : zK} {I I' : zI} {R R' : zR} {H : Heap} {locs : List Loc} {ls : Array Slot} {r : Int32}
set_option maxRecDepth 100000 in
set_option maxHeartbeats 4000000 in
theorem c_X7_isPair (l : Launch) (D : zD) (B n : Nat) {F : Nat} {K : zK} {I : zI} {R : zR} {a0 : Nat} {x1 : Int32} {x2 : Int32} {x3 : Int32} {x4 : Int32} {x5 : Int32} {x6 : Int32} {x7 : Int32} {x8 : Int32} {r : Int32} (hK0 : (K a0).1 = 17) (hf : f_X7_isPair F K I R a0 x1 x2 x3 x4 x5 x6 x7 x8 = some r) : zM l yX7_isPair cX7_isPair 9 (some .boolean) ({ frames := 2, cells := 0, slots := 0, locals := 67 } : Room) D B n K I R [.ref (B + a0), .int x1, .int x2, .int x3, .int x4, .int x5, .int x6, .int x7, .int x8] (zQi D (zOwn B K (B + n)) r B n K I R) := by
  refine ze_entry (lv0 := [(0, .ref (B + a0)), (1, .int x1), (2, .int x2), (3, .int x3), (4, .int x4), (5, .int x5), (6, .int x6), (7, .int x7), (8, .int x8)]) (by decide) (by simp [lg_sl, zcat, zcat_i, zcat_r, zcat_l]) (by simp [lv_args, zcat, zcat_i, zcat_r, zcat_l]) (fun p e s m below meth c X hr hlk hin hW ls hl => ?_)
  unfold f_X7_isPair at hf
  refine lv_aload_n X.1 X.2.1 dX7_isPair_0 rfl (lv_at hl 0 rfl) ?_
  refine ze_gtR X 7 17 45 (RX7, TX7, 39) rfl hf hW hK0 rfl (by decide) kfl_X7_45 dX7_isPair_1 (fun o1 hg => ?_)
  replace hf := hg
  refine lv_iload_n X.1 X.2.1 dX7_isPair_4 rfl (lv_at hl 1 rfl) ?_
  obtain ⟨a2, rfl, k4, hg⟩ := zh_dr hf
  replace hf := hg
  refine ze_iald X hf hW k4 dX7_isPair_5 (fun v5 hg => ?_)
  replace hf := hg
  refine lv_iload_n X.1 X.2.1 dX7_isPair_6 rfl (lv_at hl 2 rfl) ?_
  refine lv_icmp_ne (tgt := 32) X.1 X.2.1 dX7_isPair_7 (by decide) (fun c6 => ?_) (fun c6 => ?_)
  · replace hf := zif_neg c6 hf
    refine lv_iconst (v := 0) X.1 X.2.1 dX7_isPair_32 (by decide) ?_
    obtain rfl := zi1 hf
    exact ze_retZ X hr hlk (by decide) hW (Nat.le_refl _) (Nat.le_refl _) dX7_isPair_33
  · replace hf := zif_pos c6 hf
    refine lv_aload_n X.1 X.2.1 dX7_isPair_10 rfl (lv_at hl 0 rfl) ?_
    refine ze_gtR X 7 20 54 (RX7, TX7, 39) rfl hf hW hK0 rfl (by decide) kfl_X7_54 dX7_isPair_11 (fun o7 hg => ?_)
    replace hf := hg
    refine lv_iload_n X.1 X.2.1 dX7_isPair_14 rfl (lv_at hl 1 rfl) ?_
    obtain ⟨a8, rfl, k10, hg⟩ := zh_dr hf
    replace hf := hg
    refine ze_iald X hf hW k10 dX7_isPair_15 (fun v11 hg => ?_)
    replace hf := hg
    refine lv_iload X.1 X.2.1 dX7_isPair_16 (lv_at hl 5 rfl) ?_
    refine lv_icmp_ne (tgt := 32) X.1 X.2.1 dX7_isPair_18 (by decide) (fun c12 => ?_) (fun c12 => ?_)
    · replace hf := zif_neg c12 hf
      refine lv_iconst (v := 0) X.1 X.2.1 dX7_isPair_32 (by decide) ?_
      obtain rfl := zi1 hf
      exact ze_retZ X hr hlk (by decide) hW (Nat.le_refl _) (Nat.le_refl _) dX7_isPair_33
    · replace hf := zif_pos c12 hf
      refine lv_aload_n X.1 X.2.1 dX7_isPair_21 rfl (lv_at hl 0 rfl) ?_
      refine ze_gtR X 7 23 63 (RX7, TX7, 39) rfl hf hW hK0 rfl (by decide) kfl_X7_63 dX7_isPair_22 (fun o13 hg => ?_)
      replace hf := hg
      refine lv_iload_n X.1 X.2.1 dX7_isPair_25 rfl (lv_at hl 1 rfl) ?_
      obtain ⟨a14, rfl, k16, hg⟩ := zh_dr hf
      replace hf := hg
      refine ze_iald X hf hW k16 dX7_isPair_26 (fun v17 hg => ?_)
      replace hf := hg
      refine lv_iload X.1 X.2.1 dX7_isPair_27 (lv_at hl 8 rfl) ?_
      refine lv_icmp_eq (tgt := 34) X.1 X.2.1 dX7_isPair_29 (by decide) (fun c18 => ?_) (fun c18 => ?_)
      · replace hf := zif_pos c18 hf
        refine lv_iload_n X.1 X.2.1 dX7_isPair_34 rfl (lv_at hl 2 rfl) ?_
        refine lv_iconst (v := 2) X.1 X.2.1 dX7_isPair_35 (by decide) ?_
        refine lv_icmp_ne (tgt := 98) X.1 X.2.1 dX7_isPair_36 (by decide) (fun c19 => ?_) (fun c19 => ?_)
        · replace hf := zif_neg c19 hf
          refine lv_aload_n X.1 X.2.1 dX7_isPair_98 rfl (lv_at hl 0 rfl) ?_
          refine lv_aload_n X.1 X.2.1 dX7_isPair_99 rfl (lv_at hl 0 rfl) ?_
          refine ze_gtR X 7 18 48 (RX7, TX7, 39) rfl hf hW hK0 rfl (by decide) kfl_X7_48 dX7_isPair_100 (fun o20 hg => ?_)
          replace hf := hg
          refine lv_iload_n X.1 X.2.1 dX7_isPair_103 rfl (lv_at hl 1 rfl) ?_
          obtain ⟨a21, rfl, k23, hg⟩ := zh_dr hf
          replace hf := hg
          refine ze_iald X hf hW k23 dX7_isPair_104 (fun v24 hg => ?_)
          replace hf := hg
          refine lv_aload_n X.1 X.2.1 dX7_isPair_105 rfl (lv_at hl 0 rfl) ?_
          refine ze_gtR X 7 19 51 (RX7, TX7, 39) rfl hf hW hK0 rfl (by decide) kfl_X7_51 dX7_isPair_106 (fun o25 hg => ?_)
          replace hf := hg
          refine lv_iload_n X.1 X.2.1 dX7_isPair_109 rfl (lv_at hl 1 rfl) ?_
          obtain ⟨a26, rfl, k28, hg⟩ := zh_dr hf
          replace hf := hg
          refine ze_iald X hf hW k28 dX7_isPair_110 (fun v29 hg => ?_)
          replace hf := hg
          refine lv_iload_n X.1 X.2.1 dX7_isPair_111 rfl (lv_at hl 3 rfl) ?_
          refine lv_iload X.1 X.2.1 dX7_isPair_112 (lv_at hl 4 rfl) ?_
          refine lv_iload X.1 X.2.1 dX7_isPair_114 (lv_at hl 5 rfl) ?_
          obtain ⟨v30, h31, hg⟩ := zh_bd hf
          replace hf := hg
          refine ze_aftI0 (ze_runV (As := [.int v24, .int v29, .int x3, .int x4, .int x5]) (rest := []) X 7 217 (c_X7_isSame l D B n hK0 h31) vX7_isSame kml_X7_217 hW hK0 rfl rfl ⟨by decide, by decide⟩ rfl hl.1 rfl (Nat.le_of_ble_eq_true rfl) ⟨Nat.le_refl _, Nat.le_refl _⟩ dX7_isPair_116) hW (fun H locs hV => ?_)
          replace hW := hV
          refine lv_if_eq (tgt := 151) X.1 X.2.1 dX7_isPair_119 (by decide) (fun c32 => ?_) (fun c32 => ?_)
          · replace hf := zif_pos c32 hf
            refine lv_iconst (v := 0) X.1 X.2.1 dX7_isPair_151 (by decide) ?_
            obtain rfl := zi1 hf
            exact ze_retZ X hr hlk (by decide) hW (Nat.le_refl _) (Nat.le_refl _) dX7_isPair_152
          · replace hf := zif_neg c32 hf
            refine lv_aload_n X.1 X.2.1 dX7_isPair_122 rfl (lv_at hl 0 rfl) ?_
            refine lv_aload_n X.1 X.2.1 dX7_isPair_123 rfl (lv_at hl 0 rfl) ?_
            refine ze_gtR X 7 21 57 (RX7, TX7, 39) rfl hf hW hK0 rfl (by decide) kfl_X7_57 dX7_isPair_124 (fun o33 hg => ?_)
            replace hf := hg
            refine lv_iload_n X.1 X.2.1 dX7_isPair_127 rfl (lv_at hl 1 rfl) ?_
            obtain ⟨a34, rfl, k36, hg⟩ := zh_dr hf
            replace hf := hg
            refine ze_iald X hf hW k36 dX7_isPair_128 (fun v37 hg => ?_)
            replace hf := hg
            refine lv_aload_n X.1 X.2.1 dX7_isPair_129 rfl (lv_at hl 0 rfl) ?_
            refine ze_gtR X 7 22 60 (RX7, TX7, 39) rfl hf hW hK0 rfl (by decide) kfl_X7_60 dX7_isPair_130 (fun o38 hg => ?_)
            replace hf := hg
            refine lv_iload_n X.1 X.2.1 dX7_isPair_133 rfl (lv_at hl 1 rfl) ?_
            obtain ⟨a39, rfl, k41, hg⟩ := zh_dr hf
            replace hf := hg
            refine ze_iald X hf hW k41 dX7_isPair_134 (fun v42 hg => ?_)
            replace hf := hg
            refine lv_iload X.1 X.2.1 dX7_isPair_135 (lv_at hl 6 rfl) ?_
            refine lv_iload X.1 X.2.1 dX7_isPair_137 (lv_at hl 7 rfl) ?_
            refine lv_iload X.1 X.2.1 dX7_isPair_139 (lv_at hl 8 rfl) ?_
            obtain ⟨v43, h44, hg⟩ := zh_bd hf
            replace hf := hg
            refine ze_aftI0 (ze_runV (As := [.int v37, .int v42, .int x6, .int x7, .int x8]) (rest := []) X 7 217 (c_X7_isSame l D B n hK0 h44) vX7_isSame kml_X7_217 hW hK0 rfl rfl ⟨by decide, by decide⟩ rfl hl.1 rfl (Nat.le_of_ble_eq_true rfl) ⟨Nat.le_refl _, Nat.le_refl _⟩ dX7_isPair_141) hW (fun H locs hV => ?_)
            replace hW := hV
            refine lv_if_eq (tgt := 151) X.1 X.2.1 dX7_isPair_144 (by decide) (fun c45 => ?_) (fun c45 => ?_)
            · replace hf := zif_pos c45 hf
              refine lv_iconst (v := 0) X.1 X.2.1 dX7_isPair_151 (by decide) ?_
              obtain rfl := zi1 hf
              exact ze_retZ X hr hlk (by decide) hW (Nat.le_refl _) (Nat.le_refl _) dX7_isPair_152
            · replace hf := zif_neg c45 hf
              refine lv_iconst (v := 1) X.1 X.2.1 dX7_isPair_147 (by decide) ?_
              refine lv_goto (tgt := 152) X.1 X.2.1 dX7_isPair_148 (by decide) ?_
              obtain rfl := zi1 hf
              exact ze_retZ X hr hlk (by decide) hW (Nat.le_refl _) (Nat.le_refl _) dX7_isPair_152
        · replace hf := zif_pos c19 hf
          refine lv_aload_n X.1 X.2.1 dX7_isPair_39 rfl (lv_at hl 0 rfl) ?_
          refine lv_aload_n X.1 X.2.1 dX7_isPair_40 rfl (lv_at hl 0 rfl) ?_
          refine ze_gtR X 7 18 48 (RX7, TX7, 39) rfl hf hW hK0 rfl (by decide) kfl_X7_48 dX7_isPair_41 (fun o46 hg => ?_)
          replace hf := hg
          refine lv_iload_n X.1 X.2.1 dX7_isPair_44 rfl (lv_at hl 1 rfl) ?_
          obtain ⟨a47, rfl, k49, hg⟩ := zh_dr hf
          replace hf := hg
          refine ze_iald X hf hW k49 dX7_isPair_45 (fun v50 hg => ?_)
          replace hf := hg
          refine lv_aload_n X.1 X.2.1 dX7_isPair_46 rfl (lv_at hl 0 rfl) ?_
          refine ze_gtR X 7 19 51 (RX7, TX7, 39) rfl hf hW hK0 rfl (by decide) kfl_X7_51 dX7_isPair_47 (fun o51 hg => ?_)
          replace hf := hg
          refine lv_iload_n X.1 X.2.1 dX7_isPair_50 rfl (lv_at hl 1 rfl) ?_
          obtain ⟨a52, rfl, k54, hg⟩ := zh_dr hf
          replace hf := hg
          refine ze_iald X hf hW k54 dX7_isPair_51 (fun v55 hg => ?_)
          replace hf := hg
          obtain ⟨v56, h57, hg⟩ := zh_bd hf
          replace hf := hg
          refine ze_aftI0 (ze_runV (As := [.int v50, .int v55]) (rest := []) X 7 159 (c_X7_number l D B n hK0 h57) vX7_number kml_X7_159 hW hK0 rfl rfl ⟨by decide, by decide⟩ rfl hl.1 rfl (Nat.le_of_ble_eq_true rfl) ⟨Nat.le_refl _, Nat.le_refl _⟩ dX7_isPair_52) hW (fun H locs hV => ?_)
          replace hW := hV
          refine lv_aload_n X.1 X.2.1 dX7_isPair_55 rfl (lv_at hl 0 rfl) ?_
          refine lv_iload_n X.1 X.2.1 dX7_isPair_56 rfl (lv_at hl 3 rfl) ?_
          refine lv_iload X.1 X.2.1 dX7_isPair_57 (lv_at hl 4 rfl) ?_
          obtain ⟨v58, h59, hg⟩ := zh_bd hf
          replace hf := hg
          refine ze_aftI0 (ze_runV (As := [.int x3, .int x4]) (rest := [.int v56]) X 7 159 (c_X7_number l D B n hK0 h59) vX7_number kml_X7_159 hW hK0 rfl rfl ⟨by decide, by decide⟩ rfl hl.1 rfl (Nat.le_of_ble_eq_true rfl) ⟨Nat.le_refl _, Nat.le_refl _⟩ dX7_isPair_59) hW (fun H locs hV => ?_)
          replace hW := hV
          refine lv_icmp_ne (tgt := 96) X.1 X.2.1 dX7_isPair_62 (by decide) (fun c60 => ?_) (fun c60 => ?_)
          · replace hf := zif_neg c60 hf
            refine lv_iconst (v := 0) X.1 X.2.1 dX7_isPair_96 (by decide) ?_
            obtain rfl := zi1 hf
            exact ze_retZ X hr hlk (by decide) hW (Nat.le_refl _) (Nat.le_refl _) dX7_isPair_97
          · replace hf := zif_pos c60 hf
            refine lv_aload_n X.1 X.2.1 dX7_isPair_65 rfl (lv_at hl 0 rfl) ?_
            refine lv_aload_n X.1 X.2.1 dX7_isPair_66 rfl (lv_at hl 0 rfl) ?_
            refine ze_gtR X 7 21 57 (RX7, TX7, 39) rfl hf hW hK0 rfl (by decide) kfl_X7_57 dX7_isPair_67 (fun o61 hg => ?_)
            replace hf := hg
            refine lv_iload_n X.1 X.2.1 dX7_isPair_70 rfl (lv_at hl 1 rfl) ?_
            obtain ⟨a62, rfl, k64, hg⟩ := zh_dr hf
            replace hf := hg
            refine ze_iald X hf hW k64 dX7_isPair_71 (fun v65 hg => ?_)
            replace hf := hg
            refine lv_aload_n X.1 X.2.1 dX7_isPair_72 rfl (lv_at hl 0 rfl) ?_
            refine ze_gtR X 7 22 60 (RX7, TX7, 39) rfl hf hW hK0 rfl (by decide) kfl_X7_60 dX7_isPair_73 (fun o66 hg => ?_)
            replace hf := hg
            refine lv_iload_n X.1 X.2.1 dX7_isPair_76 rfl (lv_at hl 1 rfl) ?_
            obtain ⟨a67, rfl, k69, hg⟩ := zh_dr hf
            replace hf := hg
            refine ze_iald X hf hW k69 dX7_isPair_77 (fun v70 hg => ?_)
            replace hf := hg
            obtain ⟨v71, h72, hg⟩ := zh_bd hf
            replace hf := hg
            refine ze_aftI0 (ze_runV (As := [.int v65, .int v70]) (rest := []) X 7 159 (c_X7_number l D B n hK0 h72) vX7_number kml_X7_159 hW hK0 rfl rfl ⟨by decide, by decide⟩ rfl hl.1 rfl (Nat.le_of_ble_eq_true rfl) ⟨Nat.le_refl _, Nat.le_refl _⟩ dX7_isPair_78) hW (fun H locs hV => ?_)
            replace hW := hV
            refine lv_aload_n X.1 X.2.1 dX7_isPair_81 rfl (lv_at hl 0 rfl) ?_
            refine lv_iload X.1 X.2.1 dX7_isPair_82 (lv_at hl 6 rfl) ?_
            refine lv_iload X.1 X.2.1 dX7_isPair_84 (lv_at hl 7 rfl) ?_
            obtain ⟨v73, h74, hg⟩ := zh_bd hf
            replace hf := hg
            refine ze_aftI0 (ze_runV (As := [.int x6, .int x7]) (rest := [.int v71]) X 7 159 (c_X7_number l D B n hK0 h74) vX7_number kml_X7_159 hW hK0 rfl rfl ⟨by decide, by decide⟩ rfl hl.1 rfl (Nat.le_of_ble_eq_true rfl) ⟨Nat.le_refl _, Nat.le_refl _⟩ dX7_isPair_86) hW (fun H locs hV => ?_)
            replace hW := hV
            refine lv_icmp_ne (tgt := 96) X.1 X.2.1 dX7_isPair_89 (by decide) (fun c75 => ?_) (fun c75 => ?_)
            · replace hf := zif_neg c75 hf
              refine lv_iconst (v := 0) X.1 X.2.1 dX7_isPair_96 (by decide) ?_
              obtain rfl := zi1 hf
              exact ze_retZ X hr hlk (by decide) hW (Nat.le_refl _) (Nat.le_refl _) dX7_isPair_97
            · replace hf := zif_pos c75 hf
              refine lv_iconst (v := 1) X.1 X.2.1 dX7_isPair_92 (by decide) ?_
              refine lv_goto (tgt := 97) X.1 X.2.1 dX7_isPair_93 (by decide) ?_
              obtain rfl := zi1 hf
              exact ze_retZ X hr hlk (by decide) hW (Nat.le_refl _) (Nat.le_refl _) dX7_isPair_97
      · replace hf := zif_neg c18 hf
        refine lv_iconst (v := 0) X.1 X.2.1 dX7_isPair_32 (by decide) ?_
        obtain rfl := zi1 hf
        exact ze_retZ X hr hlk (by decide) hW (Nat.le_refl _) (Nat.le_refl _) dX7_isPair_33
end

/-! LeastPatternsModel.holeFor(IIIIIII)I -/
def g_X7_holeFor_3 (F : Nat) (K : zK) (R : zR) (a0 : Nat)  (kself : zI → Int32 → Int32 → Int32 → Int32 → Int32 → Int32 → Int32 → Int32 → Option (Int32 × zI)) (I : zI) (x1 : Int32) (x2 : Int32) (x3 : Int32) (x4 : Int32) (x5 : Int32) (x6 : Int32) (x7 : Int32) (x8 : Int32) : Option (Int32 × zI) :=
  if (I a0 16) ≤ x8 then
    if (I a0 16) = (10 : Int32) then
      some ((-9 : Int32), I)
    else
      zbd (some (R a0 17)) fun o3 =>
      zbd (zdr K o3 1) fun a4 =>
      zbd (zwr K I a4 (I a0 16) x1) fun I7 =>
      zbd (some (R a0 18)) fun o8 =>
      zbd (zdr K o8 1) fun a9 =>
      zbd (zwr K I7 a9 (I7 a0 16) x2) fun I12 =>
      zbd (some (R a0 19)) fun o13 =>
      zbd (zdr K o13 1) fun a14 =>
      zbd (zwr K I12 a14 (I12 a0 16) x3) fun I17 =>
      zbd (some (R a0 20)) fun o18 =>
      zbd (zdr K o18 1) fun a19 =>
      zbd (zwr K I17 a19 (I17 a0 16) x4) fun I22 =>
      zbd (some (R a0 21)) fun o23 =>
      zbd (zdr K o23 1) fun a24 =>
      zbd (zwr K I22 a24 (I22 a0 16) x5) fun I27 =>
      zbd (some (R a0 22)) fun o28 =>
      zbd (zdr K o28 1) fun a29 =>
      zbd (zwr K I27 a29 (I27 a0 16) x6) fun I32 =>
      zbd (some (R a0 23)) fun o33 =>
      zbd (zdr K o33 1) fun a34 =>
      zbd (zwr K I32 a34 (I32 a0 16) x7) fun I37 =>
      zbd (some (zup I37 a0 16 ((I37 a0 16) + (1 : Int32)))) fun I38 =>
      some ((I38 a0 16) - (1 : Int32), I38)
  else
    zbd (f_X7_isPair F K I R a0 x8 x1 x2 x3 x4 x5 x6 x7) fun v39 =>
    if v39 = (0 : Int32) then
      kself I x1 x2 x3 x4 x5 x6 x7 (x8 + (1 : Int32))
    else
      some (x8, I)
def f_X7_holeFor_3 (F : Nat) (K : zK) (R : zR) (a0 : Nat)  : Nat → zI → Int32 → Int32 → Int32 → Int32 → Int32 → Int32 → Int32 → Int32 → Option (Int32 × zI)
  | 0, _, _, _, _, _, _, _, _, _ => none
  | t + 1, I, x1, x2, x3, x4, x5, x6, x7, x8 => g_X7_holeFor_3 F K R a0  (f_X7_holeFor_3 F K R a0  t) I x1 x2 x3 x4 x5 x6 x7 x8
def f_X7_holeFor (F : Nat) (K : zK) (I : zI) (R : zR) (a0 : Nat) (x1 : Int32) (x2 : Int32) (x3 : Int32) (x4 : Int32) (x5 : Int32) (x6 : Int32) (x7 : Int32) : Option (Int32 × zI) :=
  f_X7_holeFor_3 F K R a0 F I x1 x2 x3 x4 x5 x6 x7 (0 : Int32)
section
variable {p : Program} {l : Launch} {e : Env} {s : State} {m : MethodId} {args : Array Value} {below : List Frame} {meth : Method} {c : Code} {D : zD} {B n n0 n' fd ld : Nat} {K K0 K' : zK} {I I' : zI} {R R' : zR} {H : Heap} {locs : List Loc} {ls : Array Slot} {r : Int32}
set_option maxRecDepth 100000 in
set_option maxHeartbeats 4000000 in
theorem wg_X7_holeFor_3 {F : Nat} {a0 : Nat}  (X : zX p s m c cX7_holeFor 9 RX7 D) (hr : meth.sig.returnType = some .int) (hlk : meth.locks = false) (hK0 : (K a0).1 = 17)  {kself : zI → Int32 → Int32 → Int32 → Int32 → Int32 → Int32 → Int32 → Int32 → Option (Int32 × zI)} (hkself : ∀ (I : zI) (x1 : Int32) (x2 : Int32) (x3 : Int32) (x4 : Int32) (x5 : Int32) (x6 : Int32) (x7 : Int32) (x8 : Int32) (H : Heap) (locs : List Loc) (ls : Array Slot), kself I x1 x2 x3 x4 x5 x6 x7 x8 = some (r, I') → zS (zOwn B K (B + n)) D B n K I R s.heap H locs → lv_has ls 9 [(0, .ref (B + a0)), (1, .int x1), (2, .int x2), (3, .int x3), (4, .int x4), (5, .int x5), (6, .int x6), (7, .int x7), (8, .int x8)] → W p l e ({ frames := 3, cells := 0, slots := 0, locals := 95 } : Room) s m args below meth c H locs 0 0 (MQ below (zQi D (zOwn B K (B + n)) r B n K I' R) args s 0 0 (zOwn B K (B + n))) (F0 m 3 ls [])) {x1 : Int32} {x2 : Int32} {x3 : Int32} {x4 : Int32} {x5 : Int32} {x6 : Int32} {x7 : Int32} {x8 : Int32} (hf : g_X7_holeFor_3 F K R a0  kself I x1 x2 x3 x4 x5 x6 x7 x8 = some (r, I')) (hW : zS (zOwn B K (B + n)) D B n K I R s.heap H locs) (hl : lv_has ls 9 [(0, .ref (B + a0)), (1, .int x1), (2, .int x2), (3, .int x3), (4, .int x4), (5, .int x5), (6, .int x6), (7, .int x7), (8, .int x8)]) : W p l e ({ frames := 3, cells := 0, slots := 0, locals := 95 } : Room) s m args below meth c H locs 0 0 (MQ below (zQi D (zOwn B K (B + n)) r B n K I' R) args s 0 0 (zOwn B K (B + n))) (F0 m 3 ls []) := by
  unfold g_X7_holeFor_3 at hf
  refine lv_iload X.1 X.2.1 dX7_holeFor_3 (lv_at hl 8 rfl) ?_
  refine lv_aload_n X.1 X.2.1 dX7_holeFor_5 rfl (lv_at hl 0 rfl) ?_
  refine ze_getI X 7 16 221 (RX7, TX7, 39) rfl hW hK0 rfl (by decide) kfl_X7_221 dX7_holeFor_6 ?_
  refine lv_icmp_ge (tgt := 41) X.1 X.2.1 dX7_holeFor_9 (by decide) (fun c1 => ?_) (fun c1 => ?_)
  · replace hf := zif_pos c1 hf
    refine lv_aload_n X.1 X.2.1 dX7_holeFor_41 rfl (lv_at hl 0 rfl) ?_
    refine ze_getI X 7 16 221 (RX7, TX7, 39) rfl hW hK0 rfl (by decide) kfl_X7_221 dX7_holeFor_42 ?_
    refine lv_bipush (v := 10) X.1 X.2.1 dX7_holeFor_45 (by decide) ?_
    refine lv_icmp_ne (tgt := 53) X.1 X.2.1 dX7_holeFor_47 (by decide) (fun c2 => ?_) (fun c2 => ?_)
    · replace hf := zif_neg c2 hf
      refine lv_aload_n X.1 X.2.1 dX7_holeFor_53 rfl (lv_at hl 0 rfl) ?_
      refine ze_gtR X 7 17 45 (RX7, TX7, 39) rfl hf hW hK0 rfl (by decide) kfl_X7_45 dX7_holeFor_54 (fun o3 hg => ?_)
      replace hf := hg
      refine lv_aload_n X.1 X.2.1 dX7_holeFor_57 rfl (lv_at hl 0 rfl) ?_
      refine ze_getI X 7 16 221 (RX7, TX7, 39) rfl hW hK0 rfl (by decide) kfl_X7_221 dX7_holeFor_58 ?_
      refine lv_iload_n X.1 X.2.1 dX7_holeFor_61 rfl (lv_at hl 1 rfl) ?_
      obtain ⟨a4, rfl, k6, hg⟩ := zh_dr hf
      replace hf := hg
      refine ze_iast X hf hW k6 dX7_holeFor_62 (fun I7 H locs hg hV => ?_)
      replace hf := hg
      replace hW := hV
      refine lv_aload_n X.1 X.2.1 dX7_holeFor_63 rfl (lv_at hl 0 rfl) ?_
      refine ze_gtR X 7 18 48 (RX7, TX7, 39) rfl hf hW hK0 rfl (by decide) kfl_X7_48 dX7_holeFor_64 (fun o8 hg => ?_)
      replace hf := hg
      refine lv_aload_n X.1 X.2.1 dX7_holeFor_67 rfl (lv_at hl 0 rfl) ?_
      refine ze_getI X 7 16 221 (RX7, TX7, 39) rfl hW hK0 rfl (by decide) kfl_X7_221 dX7_holeFor_68 ?_
      refine lv_iload_n X.1 X.2.1 dX7_holeFor_71 rfl (lv_at hl 2 rfl) ?_
      obtain ⟨a9, rfl, k11, hg⟩ := zh_dr hf
      replace hf := hg
      refine ze_iast X hf hW k11 dX7_holeFor_72 (fun I12 H locs hg hV => ?_)
      replace hf := hg
      replace hW := hV
      refine lv_aload_n X.1 X.2.1 dX7_holeFor_73 rfl (lv_at hl 0 rfl) ?_
      refine ze_gtR X 7 19 51 (RX7, TX7, 39) rfl hf hW hK0 rfl (by decide) kfl_X7_51 dX7_holeFor_74 (fun o13 hg => ?_)
      replace hf := hg
      refine lv_aload_n X.1 X.2.1 dX7_holeFor_77 rfl (lv_at hl 0 rfl) ?_
      refine ze_getI X 7 16 221 (RX7, TX7, 39) rfl hW hK0 rfl (by decide) kfl_X7_221 dX7_holeFor_78 ?_
      refine lv_iload_n X.1 X.2.1 dX7_holeFor_81 rfl (lv_at hl 3 rfl) ?_
      obtain ⟨a14, rfl, k16, hg⟩ := zh_dr hf
      replace hf := hg
      refine ze_iast X hf hW k16 dX7_holeFor_82 (fun I17 H locs hg hV => ?_)
      replace hf := hg
      replace hW := hV
      refine lv_aload_n X.1 X.2.1 dX7_holeFor_83 rfl (lv_at hl 0 rfl) ?_
      refine ze_gtR X 7 20 54 (RX7, TX7, 39) rfl hf hW hK0 rfl (by decide) kfl_X7_54 dX7_holeFor_84 (fun o18 hg => ?_)
      replace hf := hg
      refine lv_aload_n X.1 X.2.1 dX7_holeFor_87 rfl (lv_at hl 0 rfl) ?_
      refine ze_getI X 7 16 221 (RX7, TX7, 39) rfl hW hK0 rfl (by decide) kfl_X7_221 dX7_holeFor_88 ?_
      refine lv_iload X.1 X.2.1 dX7_holeFor_91 (lv_at hl 4 rfl) ?_
      obtain ⟨a19, rfl, k21, hg⟩ := zh_dr hf
      replace hf := hg
      refine ze_iast X hf hW k21 dX7_holeFor_93 (fun I22 H locs hg hV => ?_)
      replace hf := hg
      replace hW := hV
      refine lv_aload_n X.1 X.2.1 dX7_holeFor_94 rfl (lv_at hl 0 rfl) ?_
      refine ze_gtR X 7 21 57 (RX7, TX7, 39) rfl hf hW hK0 rfl (by decide) kfl_X7_57 dX7_holeFor_95 (fun o23 hg => ?_)
      replace hf := hg
      refine lv_aload_n X.1 X.2.1 dX7_holeFor_98 rfl (lv_at hl 0 rfl) ?_
      refine ze_getI X 7 16 221 (RX7, TX7, 39) rfl hW hK0 rfl (by decide) kfl_X7_221 dX7_holeFor_99 ?_
      refine lv_iload X.1 X.2.1 dX7_holeFor_102 (lv_at hl 5 rfl) ?_
      obtain ⟨a24, rfl, k26, hg⟩ := zh_dr hf
      replace hf := hg
      refine ze_iast X hf hW k26 dX7_holeFor_104 (fun I27 H locs hg hV => ?_)
      replace hf := hg
      replace hW := hV
      refine lv_aload_n X.1 X.2.1 dX7_holeFor_105 rfl (lv_at hl 0 rfl) ?_
      refine ze_gtR X 7 22 60 (RX7, TX7, 39) rfl hf hW hK0 rfl (by decide) kfl_X7_60 dX7_holeFor_106 (fun o28 hg => ?_)
      replace hf := hg
      refine lv_aload_n X.1 X.2.1 dX7_holeFor_109 rfl (lv_at hl 0 rfl) ?_
      refine ze_getI X 7 16 221 (RX7, TX7, 39) rfl hW hK0 rfl (by decide) kfl_X7_221 dX7_holeFor_110 ?_
      refine lv_iload X.1 X.2.1 dX7_holeFor_113 (lv_at hl 6 rfl) ?_
      obtain ⟨a29, rfl, k31, hg⟩ := zh_dr hf
      replace hf := hg
      refine ze_iast X hf hW k31 dX7_holeFor_115 (fun I32 H locs hg hV => ?_)
      replace hf := hg
      replace hW := hV
      refine lv_aload_n X.1 X.2.1 dX7_holeFor_116 rfl (lv_at hl 0 rfl) ?_
      refine ze_gtR X 7 23 63 (RX7, TX7, 39) rfl hf hW hK0 rfl (by decide) kfl_X7_63 dX7_holeFor_117 (fun o33 hg => ?_)
      replace hf := hg
      refine lv_aload_n X.1 X.2.1 dX7_holeFor_120 rfl (lv_at hl 0 rfl) ?_
      refine ze_getI X 7 16 221 (RX7, TX7, 39) rfl hW hK0 rfl (by decide) kfl_X7_221 dX7_holeFor_121 ?_
      refine lv_iload X.1 X.2.1 dX7_holeFor_124 (lv_at hl 7 rfl) ?_
      obtain ⟨a34, rfl, k36, hg⟩ := zh_dr hf
      replace hf := hg
      refine ze_iast X hf hW k36 dX7_holeFor_126 (fun I37 H locs hg hV => ?_)
      replace hf := hg
      replace hW := hV
      refine lv_aload_n X.1 X.2.1 dX7_holeFor_127 rfl (lv_at hl 0 rfl) ?_
      refine lv_dup X.1 X.2.1 dX7_holeFor_128 rfl ?_
      refine ze_getI X 7 16 221 (RX7, TX7, 39) rfl hW hK0 rfl (by decide) kfl_X7_221 dX7_holeFor_129 ?_
      refine lv_iconst (v := 1) X.1 X.2.1 dX7_holeFor_132 (by decide) ?_
      refine lv_iadd X.1 X.2.1 dX7_holeFor_133 ?_
      refine ze_putI X 7 16 221 (RX7, TX7, 39) rfl hf hW hK0 rfl (by decide) kfl_X7_221 rfl (by decide +kernel) dX7_holeFor_134 (fun I38 H locs hg hV => ?_)
      replace hf := hg
      replace hW := hV
      refine lv_aload_n X.1 X.2.1 dX7_holeFor_137 rfl (lv_at hl 0 rfl) ?_
      refine ze_getI X 7 16 221 (RX7, TX7, 39) rfl hW hK0 rfl (by decide) kfl_X7_221 dX7_holeFor_138 ?_
      refine lv_iconst (v := 1) X.1 X.2.1 dX7_holeFor_141 (by decide) ?_
      refine lv_isub X.1 X.2.1 dX7_holeFor_142 ?_
      obtain ⟨rfl, rfl⟩ := zi2 hf
      exact ze_retI X hr hlk hW (Nat.le_refl _) (Nat.le_refl _) dX7_holeFor_143
    · replace hf := zif_pos c2 hf
      refine lv_bipush (v := -9) X.1 X.2.1 dX7_holeFor_50 (by decide) ?_
      obtain ⟨rfl, rfl⟩ := zi2 hf
      exact ze_retI X hr hlk hW (Nat.le_refl _) (Nat.le_refl _) dX7_holeFor_52
  · replace hf := zif_neg c1 hf
    refine lv_aload_n X.1 X.2.1 dX7_holeFor_12 rfl (lv_at hl 0 rfl) ?_
    refine lv_iload X.1 X.2.1 dX7_holeFor_13 (lv_at hl 8 rfl) ?_
    refine lv_iload_n X.1 X.2.1 dX7_holeFor_15 rfl (lv_at hl 1 rfl) ?_
    refine lv_iload_n X.1 X.2.1 dX7_holeFor_16 rfl (lv_at hl 2 rfl) ?_
    refine lv_iload_n X.1 X.2.1 dX7_holeFor_17 rfl (lv_at hl 3 rfl) ?_
    refine lv_iload X.1 X.2.1 dX7_holeFor_18 (lv_at hl 4 rfl) ?_
    refine lv_iload X.1 X.2.1 dX7_holeFor_20 (lv_at hl 5 rfl) ?_
    refine lv_iload X.1 X.2.1 dX7_holeFor_22 (lv_at hl 6 rfl) ?_
    refine lv_iload X.1 X.2.1 dX7_holeFor_24 (lv_at hl 7 rfl) ?_
    obtain ⟨v39, h40, hg⟩ := zh_bd hf
    replace hf := hg
    refine ze_aftI0 (ze_runV (As := [.int x8, .int x1, .int x2, .int x3, .int x4, .int x5, .int x6, .int x7]) (rest := []) X 7 224 (c_X7_isPair l D B n hK0 h40) vX7_isPair kml_X7_224 hW hK0 rfl rfl ⟨by decide, by decide⟩ rfl hl.1 rfl (Nat.le_of_ble_eq_true rfl) ⟨Nat.le_refl _, Nat.le_refl _⟩ dX7_holeFor_26) hW (fun H locs hV => ?_)
    replace hW := hV
    refine lv_if_eq (tgt := 35) X.1 X.2.1 dX7_holeFor_29 (by decide) (fun c41 => ?_) (fun c41 => ?_)
    · replace hf := zif_pos c41 hf
      refine ze_iinc (lv' := [(8, .int (x8 + (1 : Int32))), (0, .ref (B + a0)), (1, .int x1), (2, .int x2), (3, .int x3), (4, .int x4), (5, .int x5), (6, .int x6), (7, .int x7)]) (d := 1) X.1 X.2.1 dX7_holeFor_35 hl (k := 8) rfl (by decide) (by decide) rfl (fun ls hk => ?_)
      replace hl := hk
      refine lv_goto (tgt := 3) X.1 X.2.1 dX7_holeFor_38 (by decide) ?_
      exact hkself _ _ _ _ _ _ _ _ _ _ _ _ hf hW (lv_sub hl [1, 2, 3, 4, 5, 6, 7, 8, 0] rfl)
    · replace hf := zif_neg c41 hf
      refine lv_iload X.1 X.2.1 dX7_holeFor_32 (lv_at hl 8 rfl) ?_
      obtain ⟨rfl, rfl⟩ := zi2 hf
      exact ze_retI X hr hlk hW (Nat.le_refl _) (Nat.le_refl _) dX7_holeFor_34
set_option maxRecDepth 100000 in
set_option maxHeartbeats 4000000 in
theorem w_X7_holeFor_3 {F : Nat} {a0 : Nat}  (X : zX p s m c cX7_holeFor 9 RX7 D) (hr : meth.sig.returnType = some .int) (hlk : meth.locks = false) (hK0 : (K a0).1 = 17)  {t : Nat} {x1 : Int32} {x2 : Int32} {x3 : Int32} {x4 : Int32} {x5 : Int32} {x6 : Int32} {x7 : Int32} {x8 : Int32} (hf : f_X7_holeFor_3 F K R a0  t I x1 x2 x3 x4 x5 x6 x7 x8 = some (r, I')) (hW : zS (zOwn B K (B + n)) D B n K I R s.heap H locs) (hl : lv_has ls 9 [(0, .ref (B + a0)), (1, .int x1), (2, .int x2), (3, .int x3), (4, .int x4), (5, .int x5), (6, .int x6), (7, .int x7), (8, .int x8)]) : W p l e ({ frames := 3, cells := 0, slots := 0, locals := 95 } : Room) s m args below meth c H locs 0 0 (MQ below (zQi D (zOwn B K (B + n)) r B n K I' R) args s 0 0 (zOwn B K (B + n))) (F0 m 3 ls []) := by
  have key : ∀ t : Nat, ∀ (I : zI) (x1 : Int32) (x2 : Int32) (x3 : Int32) (x4 : Int32) (x5 : Int32) (x6 : Int32) (x7 : Int32) (x8 : Int32) (H : Heap) (locs : List Loc) (ls : Array Slot), f_X7_holeFor_3 F K R a0  t I x1 x2 x3 x4 x5 x6 x7 x8 = some (r, I') → zS (zOwn B K (B + n)) D B n K I R s.heap H locs → lv_has ls 9 [(0, .ref (B + a0)), (1, .int x1), (2, .int x2), (3, .int x3), (4, .int x4), (5, .int x5), (6, .int x6), (7, .int x7), (8, .int x8)] → W p l e ({ frames := 3, cells := 0, slots := 0, locals := 95 } : Room) s m args below meth c H locs 0 0 (MQ below (zQi D (zOwn B K (B + n)) r B n K I' R) args s 0 0 (zOwn B K (B + n))) (F0 m 3 ls []) := by
    intro t
    induction t with
    | zero =>
      intro I x1 x2 x3 x4 x5 x6 x7 x8 H locs ls hf hW hl
      cases hf
    | succ t ih =>
      intro I x1 x2 x3 x4 x5 x6 x7 x8 H locs ls hf hW hl
      exact wg_X7_holeFor_3 X hr hlk hK0  ih hf hW hl
  exact key t _ _ _ _ _ _ _ _ _ _ _ _ hf hW hl
set_option maxRecDepth 100000 in
set_option maxHeartbeats 4000000 in
theorem c_X7_holeFor (l : Launch) (D : zD) (B n : Nat) {F : Nat} {K : zK} {I : zI} {R : zR} {a0 : Nat} {x1 : Int32} {x2 : Int32} {x3 : Int32} {x4 : Int32} {x5 : Int32} {x6 : Int32} {x7 : Int32} {r : Int32} {I' : zI} (hK0 : (K a0).1 = 17) (hf : f_X7_holeFor F K I R a0 x1 x2 x3 x4 x5 x6 x7 = some (r, I')) : zM l yX7_holeFor cX7_holeFor 9 (some .int) ({ frames := 3, cells := 0, slots := 0, locals := 95 } : Room) D B n K I R [.ref (B + a0), .int x1, .int x2, .int x3, .int x4, .int x5, .int x6, .int x7] (zQi D (zOwn B K (B + n)) r B n K I' R) := by
  refine ze_entry (lv0 := [(0, .ref (B + a0)), (1, .int x1), (2, .int x2), (3, .int x3), (4, .int x4), (5, .int x5), (6, .int x6), (7, .int x7)]) (by decide) (by simp [lg_sl, zcat, zcat_i, zcat_r, zcat_l]) (by simp [lv_args, zcat, zcat_i, zcat_r, zcat_l]) (fun p e s m below meth c X hr hlk hin hW ls hl => ?_)
  unfold f_X7_holeFor at hf
  refine lv_iconst (v := 0) X.1 X.2.1 dX7_holeFor_0 (by decide) ?_
  refine lv_istore (lv' := [(8, .int (0 : Int32)), (0, .ref (B + a0)), (1, .int x1), (2, .int x2), (3, .int x3), (4, .int x4), (5, .int x5), (6, .int x6), (7, .int x7)]) X.1 X.2.1 dX7_holeFor_1 hl (by decide) rfl (fun ls hk => ?_)
  replace hl := hk
  exact w_X7_holeFor_3 X hr hlk hK0 hf hW (lv_sub hl [1, 2, 3, 4, 5, 6, 7, 8, 0] rfl)
end

/-! LeastPatternsModel.pushes(ZIIII)V -/
def f_X7_pushes (F : Nat) (K : zK) (I : zI) (R : zR) (a0 : Nat) (x1 : Int32) (x2 : Int32) (x3 : Int32) (x4 : Int32) (x5 : Int32) : Option (zI) :=
  zbd (some (R a0 24)) fun o1 =>
  zbd (zdr K o1 2) fun a2 =>
  zbd (zwrZ K I a2 (I a0 29) x1) fun I5 =>
  zbd (some (R a0 25)) fun o6 =>
  zbd (zdr K o6 1) fun a7 =>
  zbd (zwr K I5 a7 (I5 a0 29) x2) fun I10 =>
  zbd (some (R a0 27)) fun o11 =>
  zbd (zdr K o11 1) fun a12 =>
  zbd (zwr K I10 a12 (I10 a0 29) x3) fun I15 =>
  zbd (some (R a0 26)) fun o16 =>
  zbd (zdr K o16 1) fun a17 =>
  zbd (zwr K I15 a17 (I15 a0 29) x4) fun I20 =>
  zbd (some (R a0 28)) fun o21 =>
  zbd (zdr K o21 1) fun a22 =>
  zbd (zwr K I20 a22 (I20 a0 29) x5) fun I25 =>
  zbd (some (zup I25 a0 29 ((I25 a0 29) + (1 : Int32)))) fun I26 =>
  some I26
section
variable {p : Program} {l : Launch} {e : Env} {s : State} {m : MethodId} {args : Array Value} {below : List Frame} {meth : Method} {c : Code} {D : zD} {B n n0 n' fd ld : Nat} {K K0 K' : zK} {I I' : zI} {R R' : zR} {H : Heap} {locs : List Loc} {ls : Array Slot} {r : Int32}
set_option maxRecDepth 100000 in
set_option maxHeartbeats 4000000 in
theorem c_X7_pushes (l : Launch) (D : zD) (B n : Nat) {F : Nat} {K : zK} {I : zI} {R : zR} {a0 : Nat} {x1 : Int32} {x2 : Int32} {x3 : Int32} {x4 : Int32} {x5 : Int32} {I' : zI} (hK0 : (K a0).1 = 17) (hf : f_X7_pushes F K I R a0 x1 x2 x3 x4 x5 = some I') : zM l yX7_pushes cX7_pushes 6 (none) ({ frames := 1, cells := 0, slots := 0, locals := 40 } : Room) D B n K I R [.ref (B + a0), .int x1, .int x2, .int x3, .int x4, .int x5] (zQv D (zOwn B K (B + n)) B n K I' R) := by
  refine ze_entry (lv0 := [(0, .ref (B + a0)), (1, .int x1), (2, .int x2), (3, .int x3), (4, .int x4), (5, .int x5)]) (by decide) (by simp [lg_sl, zcat, zcat_i, zcat_r, zcat_l]) (by simp [lv_args, zcat, zcat_i, zcat_r, zcat_l]) (fun p e s m below meth c X hr hlk hin hW ls hl => ?_)
  unfold f_X7_pushes at hf
  refine lv_aload_n X.1 X.2.1 dX7_pushes_0 rfl (lv_at hl 0 rfl) ?_
  refine ze_gtR X 7 24 66 (RX7, TX7, 39) rfl hf hW hK0 rfl (by decide) kfl_X7_66 dX7_pushes_1 (fun o1 hg => ?_)
  replace hf := hg
  refine lv_aload_n X.1 X.2.1 dX7_pushes_4 rfl (lv_at hl 0 rfl) ?_
  refine ze_getI X 7 29 228 (RX7, TX7, 39) rfl hW hK0 rfl (by decide) kfl_X7_228 dX7_pushes_5 ?_
  refine lv_iload_n X.1 X.2.1 dX7_pushes_8 rfl (lv_at hl 1 rfl) ?_
  obtain ⟨a2, rfl, k4, hg⟩ := zh_dr hf
  replace hf := hg
  refine ze_zast X hf hW k4 dX7_pushes_9 (fun I5 H locs hg hV => ?_)
  replace hf := hg
  replace hW := hV
  refine lv_aload_n X.1 X.2.1 dX7_pushes_10 rfl (lv_at hl 0 rfl) ?_
  refine ze_gtR X 7 25 69 (RX7, TX7, 39) rfl hf hW hK0 rfl (by decide) kfl_X7_69 dX7_pushes_11 (fun o6 hg => ?_)
  replace hf := hg
  refine lv_aload_n X.1 X.2.1 dX7_pushes_14 rfl (lv_at hl 0 rfl) ?_
  refine ze_getI X 7 29 228 (RX7, TX7, 39) rfl hW hK0 rfl (by decide) kfl_X7_228 dX7_pushes_15 ?_
  refine lv_iload_n X.1 X.2.1 dX7_pushes_18 rfl (lv_at hl 2 rfl) ?_
  obtain ⟨a7, rfl, k9, hg⟩ := zh_dr hf
  replace hf := hg
  refine ze_iast X hf hW k9 dX7_pushes_19 (fun I10 H locs hg hV => ?_)
  replace hf := hg
  replace hW := hV
  refine lv_aload_n X.1 X.2.1 dX7_pushes_20 rfl (lv_at hl 0 rfl) ?_
  refine ze_gtR X 7 27 75 (RX7, TX7, 39) rfl hf hW hK0 rfl (by decide) kfl_X7_75 dX7_pushes_21 (fun o11 hg => ?_)
  replace hf := hg
  refine lv_aload_n X.1 X.2.1 dX7_pushes_24 rfl (lv_at hl 0 rfl) ?_
  refine ze_getI X 7 29 228 (RX7, TX7, 39) rfl hW hK0 rfl (by decide) kfl_X7_228 dX7_pushes_25 ?_
  refine lv_iload_n X.1 X.2.1 dX7_pushes_28 rfl (lv_at hl 3 rfl) ?_
  obtain ⟨a12, rfl, k14, hg⟩ := zh_dr hf
  replace hf := hg
  refine ze_iast X hf hW k14 dX7_pushes_29 (fun I15 H locs hg hV => ?_)
  replace hf := hg
  replace hW := hV
  refine lv_aload_n X.1 X.2.1 dX7_pushes_30 rfl (lv_at hl 0 rfl) ?_
  refine ze_gtR X 7 26 72 (RX7, TX7, 39) rfl hf hW hK0 rfl (by decide) kfl_X7_72 dX7_pushes_31 (fun o16 hg => ?_)
  replace hf := hg
  refine lv_aload_n X.1 X.2.1 dX7_pushes_34 rfl (lv_at hl 0 rfl) ?_
  refine ze_getI X 7 29 228 (RX7, TX7, 39) rfl hW hK0 rfl (by decide) kfl_X7_228 dX7_pushes_35 ?_
  refine lv_iload X.1 X.2.1 dX7_pushes_38 (lv_at hl 4 rfl) ?_
  obtain ⟨a17, rfl, k19, hg⟩ := zh_dr hf
  replace hf := hg
  refine ze_iast X hf hW k19 dX7_pushes_40 (fun I20 H locs hg hV => ?_)
  replace hf := hg
  replace hW := hV
  refine lv_aload_n X.1 X.2.1 dX7_pushes_41 rfl (lv_at hl 0 rfl) ?_
  refine ze_gtR X 7 28 78 (RX7, TX7, 39) rfl hf hW hK0 rfl (by decide) kfl_X7_78 dX7_pushes_42 (fun o21 hg => ?_)
  replace hf := hg
  refine lv_aload_n X.1 X.2.1 dX7_pushes_45 rfl (lv_at hl 0 rfl) ?_
  refine ze_getI X 7 29 228 (RX7, TX7, 39) rfl hW hK0 rfl (by decide) kfl_X7_228 dX7_pushes_46 ?_
  refine lv_iload X.1 X.2.1 dX7_pushes_49 (lv_at hl 5 rfl) ?_
  obtain ⟨a22, rfl, k24, hg⟩ := zh_dr hf
  replace hf := hg
  refine ze_iast X hf hW k24 dX7_pushes_51 (fun I25 H locs hg hV => ?_)
  replace hf := hg
  replace hW := hV
  refine lv_aload_n X.1 X.2.1 dX7_pushes_52 rfl (lv_at hl 0 rfl) ?_
  refine lv_dup X.1 X.2.1 dX7_pushes_53 rfl ?_
  refine ze_getI X 7 29 228 (RX7, TX7, 39) rfl hW hK0 rfl (by decide) kfl_X7_228 dX7_pushes_54 ?_
  refine lv_iconst (v := 1) X.1 X.2.1 dX7_pushes_57 (by decide) ?_
  refine lv_iadd X.1 X.2.1 dX7_pushes_58 ?_
  refine ze_putI X 7 29 228 (RX7, TX7, 39) rfl hf hW hK0 rfl (by decide) kfl_X7_228 rfl (by decide +kernel) dX7_pushes_59 (fun I26 H locs hg hV => ?_)
  replace hf := hg
  replace hW := hV
  obtain rfl := zi1 hf
  exact ze_retV X hr hlk hW (Nat.le_refl _) (Nat.le_refl _) dX7_pushes_62
end

/-! LeastPatternsModel.isAlike(IIII)Z -/
def f_X7_isAlike (F : Nat) (K : zK) (I : zI) (R : zR) (a0 : Nat) (x1 : Int32) (x2 : Int32) (x3 : Int32) (x4 : Int32) : Option (Int32) :=
  zbd (f_X7_sort F K I R a0 x1 x2) fun v1 =>
  if v1 = (0 : Int32) then
    zbd (f_X7_sort F K I R a0 x3 x4) fun v4 =>
    if v4 = (0 : Int32) then
      zbd (f_X7_number F K I R a0 x1 x2) fun v7 =>
      zbd (f_X7_number F K I R a0 x3 x4) fun v9 =>
      if v7 = v9 then
        some (1 : Int32)
      else
        some (0 : Int32)
    else
      some (0 : Int32)
  else
    some (0 : Int32)
section
variable {p : Program} {l : Launch} {e : Env} {s : State} {m : MethodId} {args : Array Value} {below : List Frame} {meth : Method} {c : Code} {D : zD} {B n n0 n' fd ld : Nat} {K K0 K' : zK} {I I' : zI} {R R' : zR} {H : Heap} {locs : List Loc} {ls : Array Slot} {r : Int32}
set_option maxRecDepth 100000 in
set_option maxHeartbeats 4000000 in
theorem c_X7_isAlike (l : Launch) (D : zD) (B n : Nat) {F : Nat} {K : zK} {I : zI} {R : zR} {a0 : Nat} {x1 : Int32} {x2 : Int32} {x3 : Int32} {x4 : Int32} {r : Int32} (hK0 : (K a0).1 = 17) (hf : f_X7_isAlike F K I R a0 x1 x2 x3 x4 = some r) : zM l yX7_isAlike cX7_isAlike 5 (some .boolean) ({ frames := 2, cells := 0, slots := 0, locals := 62 } : Room) D B n K I R [.ref (B + a0), .int x1, .int x2, .int x3, .int x4] (zQi D (zOwn B K (B + n)) r B n K I R) := by
  refine ze_entry (lv0 := [(0, .ref (B + a0)), (1, .int x1), (2, .int x2), (3, .int x3), (4, .int x4)]) (by decide) (by simp [lg_sl, zcat, zcat_i, zcat_r, zcat_l]) (by simp [lv_args, zcat, zcat_i, zcat_r, zcat_l]) (fun p e s m below meth c X hr hlk hin hW ls hl => ?_)
  unfold f_X7_isAlike at hf
  refine lv_aload_n X.1 X.2.1 dX7_isAlike_0 rfl (lv_at hl 0 rfl) ?_
  refine lv_iload_n X.1 X.2.1 dX7_isAlike_1 rfl (lv_at hl 1 rfl) ?_
  refine lv_iload_n X.1 X.2.1 dX7_isAlike_2 rfl (lv_at hl 2 rfl) ?_
  obtain ⟨v1, h2, hg⟩ := zh_bd hf
  replace hf := hg
  refine ze_aftI0 (ze_runV (As := [.int x1, .int x2]) (rest := []) X 7 119 (c_X7_sort l D B n hK0 h2) vX7_sort kml_X7_119 hW hK0 rfl rfl ⟨by decide, by decide⟩ rfl hl.1 rfl (Nat.le_of_ble_eq_true rfl) ⟨Nat.le_refl _, Nat.le_refl _⟩ dX7_isAlike_3) hW (fun H locs hV => ?_)
  replace hW := hV
  refine lv_if_ne (tgt := 39) X.1 X.2.1 dX7_isAlike_6 (by decide) (fun c3 => ?_) (fun c3 => ?_)
  · replace hf := zif_neg c3 hf
    refine lv_iconst (v := 0) X.1 X.2.1 dX7_isAlike_39 (by decide) ?_
    obtain rfl := zi1 hf
    exact ze_retZ X hr hlk (by decide) hW (Nat.le_refl _) (Nat.le_refl _) dX7_isAlike_40
  · replace hf := zif_pos c3 hf
    refine lv_aload_n X.1 X.2.1 dX7_isAlike_9 rfl (lv_at hl 0 rfl) ?_
    refine lv_iload_n X.1 X.2.1 dX7_isAlike_10 rfl (lv_at hl 3 rfl) ?_
    refine lv_iload X.1 X.2.1 dX7_isAlike_11 (lv_at hl 4 rfl) ?_
    obtain ⟨v4, h5, hg⟩ := zh_bd hf
    replace hf := hg
    refine ze_aftI0 (ze_runV (As := [.int x3, .int x4]) (rest := []) X 7 119 (c_X7_sort l D B n hK0 h5) vX7_sort kml_X7_119 hW hK0 rfl rfl ⟨by decide, by decide⟩ rfl hl.1 rfl (Nat.le_of_ble_eq_true rfl) ⟨Nat.le_refl _, Nat.le_refl _⟩ dX7_isAlike_13) hW (fun H locs hV => ?_)
    replace hW := hV
    refine lv_if_ne (tgt := 39) X.1 X.2.1 dX7_isAlike_16 (by decide) (fun c6 => ?_) (fun c6 => ?_)
    · replace hf := zif_neg c6 hf
      refine lv_iconst (v := 0) X.1 X.2.1 dX7_isAlike_39 (by decide) ?_
      obtain rfl := zi1 hf
      exact ze_retZ X hr hlk (by decide) hW (Nat.le_refl _) (Nat.le_refl _) dX7_isAlike_40
    · replace hf := zif_pos c6 hf
      refine lv_aload_n X.1 X.2.1 dX7_isAlike_19 rfl (lv_at hl 0 rfl) ?_
      refine lv_iload_n X.1 X.2.1 dX7_isAlike_20 rfl (lv_at hl 1 rfl) ?_
      refine lv_iload_n X.1 X.2.1 dX7_isAlike_21 rfl (lv_at hl 2 rfl) ?_
      obtain ⟨v7, h8, hg⟩ := zh_bd hf
      replace hf := hg
      refine ze_aftI0 (ze_runV (As := [.int x1, .int x2]) (rest := []) X 7 159 (c_X7_number l D B n hK0 h8) vX7_number kml_X7_159 hW hK0 rfl rfl ⟨by decide, by decide⟩ rfl hl.1 rfl (Nat.le_of_ble_eq_true rfl) ⟨Nat.le_refl _, Nat.le_refl _⟩ dX7_isAlike_22) hW (fun H locs hV => ?_)
      replace hW := hV
      refine lv_aload_n X.1 X.2.1 dX7_isAlike_25 rfl (lv_at hl 0 rfl) ?_
      refine lv_iload_n X.1 X.2.1 dX7_isAlike_26 rfl (lv_at hl 3 rfl) ?_
      refine lv_iload X.1 X.2.1 dX7_isAlike_27 (lv_at hl 4 rfl) ?_
      obtain ⟨v9, h10, hg⟩ := zh_bd hf
      replace hf := hg
      refine ze_aftI0 (ze_runV (As := [.int x3, .int x4]) (rest := [.int v7]) X 7 159 (c_X7_number l D B n hK0 h10) vX7_number kml_X7_159 hW hK0 rfl rfl ⟨by decide, by decide⟩ rfl hl.1 rfl (Nat.le_of_ble_eq_true rfl) ⟨Nat.le_refl _, Nat.le_refl _⟩ dX7_isAlike_29) hW (fun H locs hV => ?_)
      replace hW := hV
      refine lv_icmp_ne (tgt := 39) X.1 X.2.1 dX7_isAlike_32 (by decide) (fun c11 => ?_) (fun c11 => ?_)
      · replace hf := zif_neg c11 hf
        refine lv_iconst (v := 0) X.1 X.2.1 dX7_isAlike_39 (by decide) ?_
        obtain rfl := zi1 hf
        exact ze_retZ X hr hlk (by decide) hW (Nat.le_refl _) (Nat.le_refl _) dX7_isAlike_40
      · replace hf := zif_pos c11 hf
        refine lv_iconst (v := 1) X.1 X.2.1 dX7_isAlike_35 (by decide) ?_
        refine lv_goto (tgt := 40) X.1 X.2.1 dX7_isAlike_36 (by decide) ?_
        obtain rfl := zi1 hf
        exact ze_retZ X hr hlk (by decide) hW (Nat.le_refl _) (Nat.le_refl _) dX7_isAlike_40
end

/-! LeastPatternsModel.pushesEven(III)V -/
def g_X7_pushesEven_5 (F : Nat) (K : zK) (R : zR) (a0 : Nat)  (kself : zI → Int32 → Int32 → Int32 → Option (zI)) (I : zI) (x1 : Int32) (x2 : Int32) (x4 : Int32) : Option (zI) :=
  if x4 < (0 : Int32) then
    some I
  else
    zbd (some (R a0 5)) fun o2 =>
    zbd (f_X7_child F K I R a0 x1 x4 o2) fun v3 =>
    zbd (some (R a0 6)) fun o5 =>
    zbd (f_X7_child F K I R a0 x2 x4 o5) fun v6 =>
    zbd (f_X7_pushes F K I R a0 (0 : Int32) v3 (0 : Int32) v6 (0 : Int32)) fun I8 =>
    kself I8 x1 x2 (x4 + (-1 : Int32))
def f_X7_pushesEven_5 (F : Nat) (K : zK) (R : zR) (a0 : Nat)  : Nat → zI → Int32 → Int32 → Int32 → Option (zI)
  | 0, _, _, _, _ => none
  | t + 1, I, x1, x2, x4 => g_X7_pushesEven_5 F K R a0  (f_X7_pushesEven_5 F K R a0  t) I x1 x2 x4
def f_X7_pushesEven (F : Nat) (K : zK) (I : zI) (R : zR) (a0 : Nat) (x1 : Int32) (x2 : Int32) (x3 : Int32) : Option (zI) :=
  zbd (some (x3 - (1 : Int32))) fun v10 =>
  f_X7_pushesEven_5 F K R a0 F I x1 x2 v10
section
variable {p : Program} {l : Launch} {e : Env} {s : State} {m : MethodId} {args : Array Value} {below : List Frame} {meth : Method} {c : Code} {D : zD} {B n n0 n' fd ld : Nat} {K K0 K' : zK} {I I' : zI} {R R' : zR} {H : Heap} {locs : List Loc} {ls : Array Slot} {r : Int32}
set_option maxRecDepth 100000 in
set_option maxHeartbeats 4000000 in
theorem wg_X7_pushesEven_5 {F : Nat} {a0 : Nat}  (X : zX p s m c cX7_pushesEven 5 RX7 D) (hr : meth.sig.returnType = none) (hlk : meth.locks = false) (hK0 : (K a0).1 = 17)  {kself : zI → Int32 → Int32 → Int32 → Option (zI)} (hkself : ∀ (I : zI) (x1 : Int32) (x2 : Int32) (x4 : Int32) (H : Heap) (locs : List Loc) (ls : Array Slot), kself I x1 x2 x4 = some I' → zS (zOwn B K (B + n)) D B n K I R s.heap H locs → lv_has ls 5 [(0, .ref (B + a0)), (1, .int x1), (2, .int x2), (4, .int x4)] → W p l e ({ frames := 2, cells := 0, slots := 0, locals := 65 } : Room) s m args below meth c H locs 0 0 (MQ below (zQv D (zOwn B K (B + n)) B n K I' R) args s 0 0 (zOwn B K (B + n))) (F0 m 5 ls [])) {x1 : Int32} {x2 : Int32} {x4 : Int32} (hf : g_X7_pushesEven_5 F K R a0  kself I x1 x2 x4 = some I') (hW : zS (zOwn B K (B + n)) D B n K I R s.heap H locs) (hl : lv_has ls 5 [(0, .ref (B + a0)), (1, .int x1), (2, .int x2), (4, .int x4)]) : W p l e ({ frames := 2, cells := 0, slots := 0, locals := 65 } : Room) s m args below meth c H locs 0 0 (MQ below (zQv D (zOwn B K (B + n)) B n K I' R) args s 0 0 (zOwn B K (B + n))) (F0 m 5 ls []) := by
  unfold g_X7_pushesEven_5 at hf
  refine lv_iload X.1 X.2.1 dX7_pushesEven_5 (lv_at hl 3 rfl) ?_
  refine lv_if_lt (tgt := 45) X.1 X.2.1 dX7_pushesEven_7 (by decide) (fun c1 => ?_) (fun c1 => ?_)
  · replace hf := zif_pos c1 hf
    obtain rfl := zi1 hf
    exact ze_retV X hr hlk hW (Nat.le_refl _) (Nat.le_refl _) dX7_pushesEven_45
  · replace hf := zif_neg c1 hf
    refine lv_aload_n X.1 X.2.1 dX7_pushesEven_10 rfl (lv_at hl 0 rfl) ?_
    refine lv_iconst (v := 0) X.1 X.2.1 dX7_pushesEven_11 (by decide) ?_
    refine lv_aload_n X.1 X.2.1 dX7_pushesEven_12 rfl (lv_at hl 0 rfl) ?_
    refine lv_iload_n X.1 X.2.1 dX7_pushesEven_13 rfl (lv_at hl 1 rfl) ?_
    refine lv_iload X.1 X.2.1 dX7_pushesEven_14 (lv_at hl 3 rfl) ?_
    refine lv_aload_n X.1 X.2.1 dX7_pushesEven_16 rfl (lv_at hl 0 rfl) ?_
    refine ze_gtR X 7 5 20 (RX7, TX7, 39) rfl hf hW hK0 rfl (by decide) kfl_X7_20 dX7_pushesEven_17 (fun o2 hg => ?_)
    replace hf := hg
    obtain ⟨v3, h4, hg⟩ := zh_bd hf
    replace hf := hg
    refine ze_aftI0 (ze_runV (As := [.int x1, .int x4, zrf B o2]) (rest := [.int (0 : Int32), .ref (B + a0)]) X 7 165 (c_X7_child l D B n hK0 h4) vX7_child kml_X7_165 hW hK0 rfl rfl ⟨by decide, by decide⟩ rfl hl.1 rfl (Nat.le_of_ble_eq_true rfl) ⟨Nat.le_refl _, Nat.le_refl _⟩ dX7_pushesEven_20) hW (fun H locs hV => ?_)
    replace hW := hV
    refine lv_iconst (v := 0) X.1 X.2.1 dX7_pushesEven_23 (by decide) ?_
    refine lv_aload_n X.1 X.2.1 dX7_pushesEven_24 rfl (lv_at hl 0 rfl) ?_
    refine lv_iload_n X.1 X.2.1 dX7_pushesEven_25 rfl (lv_at hl 2 rfl) ?_
    refine lv_iload X.1 X.2.1 dX7_pushesEven_26 (lv_at hl 3 rfl) ?_
    refine lv_aload_n X.1 X.2.1 dX7_pushesEven_28 rfl (lv_at hl 0 rfl) ?_
    refine ze_gtR X 7 6 23 (RX7, TX7, 39) rfl hf hW hK0 rfl (by decide) kfl_X7_23 dX7_pushesEven_29 (fun o5 hg => ?_)
    replace hf := hg
    obtain ⟨v6, h7, hg⟩ := zh_bd hf
    replace hf := hg
    refine ze_aftI0 (ze_runV (As := [.int x2, .int x4, zrf B o5]) (rest := [.int (0 : Int32), .int v3, .int (0 : Int32), .ref (B + a0)]) X 7 165 (c_X7_child l D B n hK0 h7) vX7_child kml_X7_165 hW hK0 rfl rfl ⟨by decide, by decide⟩ rfl hl.1 rfl (Nat.le_of_ble_eq_true rfl) ⟨Nat.le_refl _, Nat.le_refl _⟩ dX7_pushesEven_32) hW (fun H locs hV => ?_)
    replace hW := hV
    refine lv_iconst (v := 0) X.1 X.2.1 dX7_pushesEven_35 (by decide) ?_
    obtain ⟨I8, h9, hg⟩ := zh_bd hf
    replace hf := hg
    refine ze_aftV0 (ze_runV (As := [.int (0 : Int32), .int v3, .int (0 : Int32), .int v6, .int (0 : Int32)]) (rest := []) X 7 231 (c_X7_pushes l D B n hK0 h9) vX7_pushes kml_X7_231 hW hK0 rfl rfl ⟨by decide, by decide⟩ rfl hl.1 rfl (Nat.le_of_ble_eq_true rfl) ⟨Nat.le_refl _, Nat.le_refl _⟩ dX7_pushesEven_36) hW (fun H locs hV => ?_)
    replace hW := hV
    refine ze_iinc (lv' := [(4, .int (x4 + (-1 : Int32))), (0, .ref (B + a0)), (1, .int x1), (2, .int x2)]) (d := -1) X.1 X.2.1 dX7_pushesEven_39 hl (k := 3) rfl (by decide) (by decide) rfl (fun ls hk => ?_)
    replace hl := hk
    refine lv_goto (tgt := 5) X.1 X.2.1 dX7_pushesEven_42 (by decide) ?_
    exact hkself _ _ _ _ _ _ _ hf hW (lv_sub hl [1, 2, 3, 0] rfl)
set_option maxRecDepth 100000 in
set_option maxHeartbeats 4000000 in
theorem w_X7_pushesEven_5 {F : Nat} {a0 : Nat}  (X : zX p s m c cX7_pushesEven 5 RX7 D) (hr : meth.sig.returnType = none) (hlk : meth.locks = false) (hK0 : (K a0).1 = 17)  {t : Nat} {x1 : Int32} {x2 : Int32} {x4 : Int32} (hf : f_X7_pushesEven_5 F K R a0  t I x1 x2 x4 = some I') (hW : zS (zOwn B K (B + n)) D B n K I R s.heap H locs) (hl : lv_has ls 5 [(0, .ref (B + a0)), (1, .int x1), (2, .int x2), (4, .int x4)]) : W p l e ({ frames := 2, cells := 0, slots := 0, locals := 65 } : Room) s m args below meth c H locs 0 0 (MQ below (zQv D (zOwn B K (B + n)) B n K I' R) args s 0 0 (zOwn B K (B + n))) (F0 m 5 ls []) := by
  have key : ∀ t : Nat, ∀ (I : zI) (x1 : Int32) (x2 : Int32) (x4 : Int32) (H : Heap) (locs : List Loc) (ls : Array Slot), f_X7_pushesEven_5 F K R a0  t I x1 x2 x4 = some I' → zS (zOwn B K (B + n)) D B n K I R s.heap H locs → lv_has ls 5 [(0, .ref (B + a0)), (1, .int x1), (2, .int x2), (4, .int x4)] → W p l e ({ frames := 2, cells := 0, slots := 0, locals := 65 } : Room) s m args below meth c H locs 0 0 (MQ below (zQv D (zOwn B K (B + n)) B n K I' R) args s 0 0 (zOwn B K (B + n))) (F0 m 5 ls []) := by
    intro t
    induction t with
    | zero =>
      intro I x1 x2 x4 H locs ls hf hW hl
      cases hf
    | succ t ih =>
      intro I x1 x2 x4 H locs ls hf hW hl
      exact wg_X7_pushesEven_5 X hr hlk hK0  ih hf hW hl
  exact key t _ _ _ _ _ _ _ hf hW hl
set_option maxRecDepth 100000 in
set_option maxHeartbeats 4000000 in
theorem c_X7_pushesEven (l : Launch) (D : zD) (B n : Nat) {F : Nat} {K : zK} {I : zI} {R : zR} {a0 : Nat} {x1 : Int32} {x2 : Int32} {x3 : Int32} {I' : zI} (hK0 : (K a0).1 = 17) (hf : f_X7_pushesEven F K I R a0 x1 x2 x3 = some I') : zM l yX7_pushesEven cX7_pushesEven 5 (none) ({ frames := 2, cells := 0, slots := 0, locals := 65 } : Room) D B n K I R [.ref (B + a0), .int x1, .int x2, .int x3] (zQv D (zOwn B K (B + n)) B n K I' R) := by
  refine ze_entry (lv0 := [(0, .ref (B + a0)), (1, .int x1), (2, .int x2), (3, .int x3)]) (by decide) (by simp [lg_sl, zcat, zcat_i, zcat_r, zcat_l]) (by simp [lv_args, zcat, zcat_i, zcat_r, zcat_l]) (fun p e s m below meth c X hr hlk hin hW ls hl => ?_)
  unfold f_X7_pushesEven at hf
  refine lv_iload_n X.1 X.2.1 dX7_pushesEven_0 rfl (lv_at hl 3 rfl) ?_
  refine lv_iconst (v := 1) X.1 X.2.1 dX7_pushesEven_1 (by decide) ?_
  refine lv_isub X.1 X.2.1 dX7_pushesEven_2 ?_
  refine ze_nm hf (fun v10 hg => ?_)
  replace hf := hg
  refine lv_istore (lv' := [(4, .int v10), (0, .ref (B + a0)), (1, .int x1), (2, .int x2), (3, .int x3)]) X.1 X.2.1 dX7_pushesEven_3 hl (by decide) rfl (fun ls hk => ?_)
  replace hl := hk
  exact w_X7_pushesEven_5 X hr hlk hK0 hf hW (lv_sub hl [1, 2, 3, 0] rfl)
end

/-! LeastPatternsModel.pushesAligned(IIII)I -/
def g_X7_pushesAligned_276 (F : Nat) (K : zK) (R : zR) (a0 : Nat)  (kself : zI → Int32 → Int32 → Int32 → Int32 → Int32 → Option (Int32 × zI)) (I : zI) (x2 : Int32) (x4 : Int32) (x7 : Int32) (x8 : Int32) (x11 : Int32) : Option (Int32 × zI) :=
  if x11 < (0 : Int32) then
    some ((x7 + (1 : Int32)) + x8, I)
  else
    zbd (some (R a0 5)) fun o2 =>
    zbd (f_X7_child F K I R a0 x2 x11 o2) fun v3 =>
    zbd (some (R a0 6)) fun o5 =>
    zbd (f_X7_child F K I R a0 x4 x11 o5) fun v6 =>
    zbd (f_X7_pushes F K I R a0 (0 : Int32) v3 (0 : Int32) v6 (0 : Int32)) fun I8 =>
    kself I8 x2 x4 x7 x8 (x11 + (-1 : Int32))
def f_X7_pushesAligned_276 (F : Nat) (K : zK) (R : zR) (a0 : Nat)  : Nat → zI → Int32 → Int32 → Int32 → Int32 → Int32 → Option (Int32 × zI)
  | 0, _, _, _, _, _, _ => none
  | t + 1, I, x2, x4, x7, x8, x11 => g_X7_pushesAligned_276 F K R a0  (f_X7_pushesAligned_276 F K R a0  t) I x2 x4 x7 x8 x11
def g_X7_pushesAligned_146 (F : Nat) (K : zK) (R : zR) (a0 : Nat)  (kself : zI → Int32 → Int32 → Int32 → Int32 → Int32 → Int32 → Int32 → Option (Int32 × zI)) (I : zI) (x2 : Int32) (x4 : Int32) (x5 : Int32) (x6 : Int32) (x7 : Int32) (x8 : Int32) (x9 : Int32) : Option (Int32 × zI) :=
  if x8 ≤ x9 then
    zbd (some (R a0 5)) fun o11 =>
    zbd (f_X7_child F K I R a0 x2 x7 o11) fun v12 =>
    zbd (some (R a0 6)) fun o14 =>
    zbd (f_X7_child F K I R a0 x4 x7 o14) fun v15 =>
    zbd (some (R a0 5)) fun o17 =>
    zbd (f_X7_child F K I R a0 x2 (x5 - x8) o17) fun v18 =>
    zbd (some (R a0 6)) fun o20 =>
    zbd (f_X7_child F K I R a0 x4 (x6 - x8) o20) fun v21 =>
    zbd (f_X7_pushes F K I R a0 (1 : Int32) v12 (v18 - v12) v15 (v21 - v15)) fun I23 =>
    zbd (some (x7 - (1 : Int32))) fun v25 =>
    f_X7_pushesAligned_276 F K R a0 F I23 x2 x4 x7 x8 v25
  else
    zbd (some (R a0 5)) fun o26 =>
    zbd (f_X7_child F K I R a0 x2 ((x5 - (1 : Int32)) - x9) o26) fun v27 =>
    zbd (some (R a0 6)) fun o29 =>
    zbd (f_X7_child F K I R a0 x4 ((x6 - (1 : Int32)) - x9) o29) fun v30 =>
    zbd (f_X7_pushes F K I R a0 (0 : Int32) v27 (0 : Int32) v30 (0 : Int32)) fun I32 =>
    kself I32 x2 x4 x5 x6 x7 x8 (x9 + (1 : Int32))
def f_X7_pushesAligned_146 (F : Nat) (K : zK) (R : zR) (a0 : Nat)  : Nat → zI → Int32 → Int32 → Int32 → Int32 → Int32 → Int32 → Int32 → Option (Int32 × zI)
  | 0, _, _, _, _, _, _, _, _ => none
  | t + 1, I, x2, x4, x5, x6, x7, x8, x9 => g_X7_pushesAligned_146 F K R a0  (f_X7_pushesAligned_146 F K R a0  t) I x2 x4 x5 x6 x7 x8 x9
def f_X7_pushesAligned_143 (F : Nat) (K : zK) (R : zR) (a0 : Nat)  (I : zI) (x2 : Int32) (x4 : Int32) (x5 : Int32) (x6 : Int32) (x7 : Int32) (x8 : Int32) : Option (Int32 × zI) :=
  f_X7_pushesAligned_146 F K R a0 F I x2 x4 x5 x6 x7 x8 (0 : Int32)
def g_X7_pushesAligned_75 (F : Nat) (K : zK) (R : zR) (a0 : Nat)  (kself : zI → Int32 → Int32 → Int32 → Int32 → Int32 → Int32 → Int32 → Int32 → Option (Int32 × zI)) (I : zI) (x1 : Int32) (x2 : Int32) (x3 : Int32) (x4 : Int32) (x5 : Int32) (x6 : Int32) (x7 : Int32) (x8 : Int32) : Option (Int32 × zI) :=
  if x5 ≤ (x7 + x8) then
    f_X7_pushesAligned_143 F K R a0 I x2 x4 x5 x6 x7 x8
  else
    if x6 ≤ (x7 + x8) then
      f_X7_pushesAligned_143 F K R a0 I x2 x4 x5 x6 x7 x8
    else
      zbd (some (R a0 5)) fun o36 =>
      zbd (f_X7_child F K I R a0 x2 ((x5 - (1 : Int32)) - x8) o36) fun v37 =>
      zbd (some (R a0 6)) fun o39 =>
      zbd (f_X7_child F K I R a0 x4 ((x6 - (1 : Int32)) - x8) o39) fun v40 =>
      zbd (f_X7_isAlike F K I R a0 x1 v37 x3 v40) fun v42 =>
      if v42 = (0 : Int32) then
        f_X7_pushesAligned_143 F K R a0 I x2 x4 x5 x6 x7 x8
      else
        kself I x1 x2 x3 x4 x5 x6 x7 (x8 + (1 : Int32))
def f_X7_pushesAligned_75 (F : Nat) (K : zK) (R : zR) (a0 : Nat)  : Nat → zI → Int32 → Int32 → Int32 → Int32 → Int32 → Int32 → Int32 → Int32 → Option (Int32 × zI)
  | 0, _, _, _, _, _, _, _, _, _ => none
  | t + 1, I, x1, x2, x3, x4, x5, x6, x7, x8 => g_X7_pushesAligned_75 F K R a0  (f_X7_pushesAligned_75 F K R a0  t) I x1 x2 x3 x4 x5 x6 x7 x8
def f_X7_pushesAligned_72 (F : Nat) (K : zK) (R : zR) (a0 : Nat)  (I : zI) (x1 : Int32) (x2 : Int32) (x3 : Int32) (x4 : Int32) (x5 : Int32) (x6 : Int32) (x7 : Int32) : Option (Int32 × zI) :=
  f_X7_pushesAligned_75 F K R a0 F I x1 x2 x3 x4 x5 x6 x7 (0 : Int32)
def g_X7_pushesAligned_20 (F : Nat) (K : zK) (R : zR) (a0 : Nat)  (kself : zI → Int32 → Int32 → Int32 → Int32 → Int32 → Int32 → Int32 → Option (Int32 × zI)) (I : zI) (x1 : Int32) (x2 : Int32) (x3 : Int32) (x4 : Int32) (x5 : Int32) (x6 : Int32) (x7 : Int32) : Option (Int32 × zI) :=
  if x5 ≤ x7 then
    f_X7_pushesAligned_72 F K R a0 I x1 x2 x3 x4 x5 x6 x7
  else
    if x6 ≤ x7 then
      f_X7_pushesAligned_72 F K R a0 I x1 x2 x3 x4 x5 x6 x7
    else
      zbd (some (R a0 5)) fun o47 =>
      zbd (f_X7_child F K I R a0 x2 x7 o47) fun v48 =>
      zbd (some (R a0 6)) fun o50 =>
      zbd (f_X7_child F K I R a0 x4 x7 o50) fun v51 =>
      zbd (f_X7_isAlike F K I R a0 x1 v48 x3 v51) fun v53 =>
      if v53 = (0 : Int32) then
        f_X7_pushesAligned_72 F K R a0 I x1 x2 x3 x4 x5 x6 x7
      else
        kself I x1 x2 x3 x4 x5 x6 (x7 + (1 : Int32))
def f_X7_pushesAligned_20 (F : Nat) (K : zK) (R : zR) (a0 : Nat)  : Nat → zI → Int32 → Int32 → Int32 → Int32 → Int32 → Int32 → Int32 → Option (Int32 × zI)
  | 0, _, _, _, _, _, _, _, _ => none
  | t + 1, I, x1, x2, x3, x4, x5, x6, x7 => g_X7_pushesAligned_20 F K R a0  (f_X7_pushesAligned_20 F K R a0  t) I x1 x2 x3 x4 x5 x6 x7
def f_X7_pushesAligned (F : Nat) (K : zK) (I : zI) (R : zR) (a0 : Nat) (x1 : Int32) (x2 : Int32) (x3 : Int32) (x4 : Int32) : Option (Int32 × zI) :=
  zbd (f_X7_arguments F K I R a0 x1 x2) fun v56 =>
  zbd (f_X7_arguments F K I R a0 x3 x4) fun v58 =>
  f_X7_pushesAligned_20 F K R a0 F I x1 x2 x3 x4 v56 v58 (0 : Int32)
section
variable {p : Program} {l : Launch} {e : Env} {s : State} {m : MethodId} {args : Array Value} {below : List Frame} {meth : Method} {c : Code} {D : zD} {B n n0 n' fd ld : Nat} {K K0 K' : zK} {I I' : zI} {R R' : zR} {H : Heap} {locs : List Loc} {ls : Array Slot} {r : Int32}
set_option maxRecDepth 100000 in
set_option maxHeartbeats 4000000 in
theorem wg_X7_pushesAligned_276 {F : Nat} {a0 : Nat}  (X : zX p s m c cX7_pushesAligned 12 RX7 D) (hr : meth.sig.returnType = some .int) (hlk : meth.locks = false) (hK0 : (K a0).1 = 17)  {kself : zI → Int32 → Int32 → Int32 → Int32 → Int32 → Option (Int32 × zI)} (hkself : ∀ (I : zI) (x2 : Int32) (x4 : Int32) (x7 : Int32) (x8 : Int32) (x11 : Int32) (H : Heap) (locs : List Loc) (ls : Array Slot), kself I x2 x4 x7 x8 x11 = some (r, I') → zS (zOwn B K (B + n)) D B n K I R s.heap H locs → lv_has ls 12 [(0, .ref (B + a0)), (2, .int x2), (4, .int x4), (7, .int x7), (8, .int x8), (11, .int x11)] → W p l e ({ frames := 3, cells := 0, slots := 0, locals := 86 } : Room) s m args below meth c H locs 0 0 (MQ below (zQi D (zOwn B K (B + n)) r B n K I' R) args s 0 0 (zOwn B K (B + n))) (F0 m 276 ls [])) {x2 : Int32} {x4 : Int32} {x7 : Int32} {x8 : Int32} {x11 : Int32} (hf : g_X7_pushesAligned_276 F K R a0  kself I x2 x4 x7 x8 x11 = some (r, I')) (hW : zS (zOwn B K (B + n)) D B n K I R s.heap H locs) (hl : lv_has ls 12 [(0, .ref (B + a0)), (2, .int x2), (4, .int x4), (7, .int x7), (8, .int x8), (11, .int x11)]) : W p l e ({ frames := 3, cells := 0, slots := 0, locals := 86 } : Room) s m args below meth c H locs 0 0 (MQ below (zQi D (zOwn B K (B + n)) r B n K I' R) args s 0 0 (zOwn B K (B + n))) (F0 m 276 ls []) := by
  unfold g_X7_pushesAligned_276 at hf
  refine lv_iload X.1 X.2.1 dX7_pushesAligned_276 (lv_at hl 5 rfl) ?_
  refine lv_if_lt (tgt := 317) X.1 X.2.1 dX7_pushesAligned_278 (by decide) (fun c1 => ?_) (fun c1 => ?_)
  · replace hf := zif_pos c1 hf
    refine lv_iload X.1 X.2.1 dX7_pushesAligned_317 (lv_at hl 3 rfl) ?_
    refine lv_iconst (v := 1) X.1 X.2.1 dX7_pushesAligned_319 (by decide) ?_
    refine lv_iadd X.1 X.2.1 dX7_pushesAligned_320 ?_
    refine lv_iload X.1 X.2.1 dX7_pushesAligned_321 (lv_at hl 4 rfl) ?_
    refine lv_iadd X.1 X.2.1 dX7_pushesAligned_323 ?_
    obtain ⟨rfl, rfl⟩ := zi2 hf
    exact ze_retI X hr hlk hW (Nat.le_refl _) (Nat.le_refl _) dX7_pushesAligned_324
  · replace hf := zif_neg c1 hf
    refine lv_aload_n X.1 X.2.1 dX7_pushesAligned_281 rfl (lv_at hl 0 rfl) ?_
    refine lv_iconst (v := 0) X.1 X.2.1 dX7_pushesAligned_282 (by decide) ?_
    refine lv_aload_n X.1 X.2.1 dX7_pushesAligned_283 rfl (lv_at hl 0 rfl) ?_
    refine lv_iload_n X.1 X.2.1 dX7_pushesAligned_284 rfl (lv_at hl 1 rfl) ?_
    refine lv_iload X.1 X.2.1 dX7_pushesAligned_285 (lv_at hl 5 rfl) ?_
    refine lv_aload_n X.1 X.2.1 dX7_pushesAligned_287 rfl (lv_at hl 0 rfl) ?_
    refine ze_gtR X 7 5 20 (RX7, TX7, 39) rfl hf hW hK0 rfl (by decide) kfl_X7_20 dX7_pushesAligned_288 (fun o2 hg => ?_)
    replace hf := hg
    obtain ⟨v3, h4, hg⟩ := zh_bd hf
    replace hf := hg
    refine ze_aftI0 (ze_runV (As := [.int x2, .int x11, zrf B o2]) (rest := [.int (0 : Int32), .ref (B + a0)]) X 7 165 (c_X7_child l D B n hK0 h4) vX7_child kml_X7_165 hW hK0 rfl rfl ⟨by decide, by decide⟩ rfl hl.1 rfl (Nat.le_of_ble_eq_true rfl) ⟨Nat.le_refl _, Nat.le_refl _⟩ dX7_pushesAligned_291) hW (fun H locs hV => ?_)
    replace hW := hV
    refine lv_iconst (v := 0) X.1 X.2.1 dX7_pushesAligned_294 (by decide) ?_
    refine lv_aload_n X.1 X.2.1 dX7_pushesAligned_295 rfl (lv_at hl 0 rfl) ?_
    refine lv_iload X.1 X.2.1 dX7_pushesAligned_296 (lv_at hl 2 rfl) ?_
    refine lv_iload X.1 X.2.1 dX7_pushesAligned_298 (lv_at hl 5 rfl) ?_
    refine lv_aload_n X.1 X.2.1 dX7_pushesAligned_300 rfl (lv_at hl 0 rfl) ?_
    refine ze_gtR X 7 6 23 (RX7, TX7, 39) rfl hf hW hK0 rfl (by decide) kfl_X7_23 dX7_pushesAligned_301 (fun o5 hg => ?_)
    replace hf := hg
    obtain ⟨v6, h7, hg⟩ := zh_bd hf
    replace hf := hg
    refine ze_aftI0 (ze_runV (As := [.int x4, .int x11, zrf B o5]) (rest := [.int (0 : Int32), .int v3, .int (0 : Int32), .ref (B + a0)]) X 7 165 (c_X7_child l D B n hK0 h7) vX7_child kml_X7_165 hW hK0 rfl rfl ⟨by decide, by decide⟩ rfl hl.1 rfl (Nat.le_of_ble_eq_true rfl) ⟨Nat.le_refl _, Nat.le_refl _⟩ dX7_pushesAligned_304) hW (fun H locs hV => ?_)
    replace hW := hV
    refine lv_iconst (v := 0) X.1 X.2.1 dX7_pushesAligned_307 (by decide) ?_
    obtain ⟨I8, h9, hg⟩ := zh_bd hf
    replace hf := hg
    refine ze_aftV0 (ze_runV (As := [.int (0 : Int32), .int v3, .int (0 : Int32), .int v6, .int (0 : Int32)]) (rest := []) X 7 231 (c_X7_pushes l D B n hK0 h9) vX7_pushes kml_X7_231 hW hK0 rfl rfl ⟨by decide, by decide⟩ rfl hl.1 rfl (Nat.le_of_ble_eq_true rfl) ⟨Nat.le_refl _, Nat.le_refl _⟩ dX7_pushesAligned_308) hW (fun H locs hV => ?_)
    replace hW := hV
    refine ze_iinc (lv' := [(11, .int (x11 + (-1 : Int32))), (0, .ref (B + a0)), (2, .int x2), (4, .int x4), (7, .int x7), (8, .int x8)]) (d := -1) X.1 X.2.1 dX7_pushesAligned_311 hl (k := 5) rfl (by decide) (by decide) rfl (fun ls hk => ?_)
    replace hl := hk
    refine lv_goto (tgt := 276) X.1 X.2.1 dX7_pushesAligned_314 (by decide) ?_
    exact hkself _ _ _ _ _ _ _ _ _ hf hW (lv_sub hl [1, 2, 3, 4, 5, 0] rfl)
set_option maxRecDepth 100000 in
set_option maxHeartbeats 4000000 in
theorem w_X7_pushesAligned_276 {F : Nat} {a0 : Nat}  (X : zX p s m c cX7_pushesAligned 12 RX7 D) (hr : meth.sig.returnType = some .int) (hlk : meth.locks = false) (hK0 : (K a0).1 = 17)  {t : Nat} {x2 : Int32} {x4 : Int32} {x7 : Int32} {x8 : Int32} {x11 : Int32} (hf : f_X7_pushesAligned_276 F K R a0  t I x2 x4 x7 x8 x11 = some (r, I')) (hW : zS (zOwn B K (B + n)) D B n K I R s.heap H locs) (hl : lv_has ls 12 [(0, .ref (B + a0)), (2, .int x2), (4, .int x4), (7, .int x7), (8, .int x8), (11, .int x11)]) : W p l e ({ frames := 3, cells := 0, slots := 0, locals := 86 } : Room) s m args below meth c H locs 0 0 (MQ below (zQi D (zOwn B K (B + n)) r B n K I' R) args s 0 0 (zOwn B K (B + n))) (F0 m 276 ls []) := by
  have key : ∀ t : Nat, ∀ (I : zI) (x2 : Int32) (x4 : Int32) (x7 : Int32) (x8 : Int32) (x11 : Int32) (H : Heap) (locs : List Loc) (ls : Array Slot), f_X7_pushesAligned_276 F K R a0  t I x2 x4 x7 x8 x11 = some (r, I') → zS (zOwn B K (B + n)) D B n K I R s.heap H locs → lv_has ls 12 [(0, .ref (B + a0)), (2, .int x2), (4, .int x4), (7, .int x7), (8, .int x8), (11, .int x11)] → W p l e ({ frames := 3, cells := 0, slots := 0, locals := 86 } : Room) s m args below meth c H locs 0 0 (MQ below (zQi D (zOwn B K (B + n)) r B n K I' R) args s 0 0 (zOwn B K (B + n))) (F0 m 276 ls []) := by
    intro t
    induction t with
    | zero =>
      intro I x2 x4 x7 x8 x11 H locs ls hf hW hl
      cases hf
    | succ t ih =>
      intro I x2 x4 x7 x8 x11 H locs ls hf hW hl
      exact wg_X7_pushesAligned_276 X hr hlk hK0  ih hf hW hl
  exact key t _ _ _ _ _ _ _ _ _ hf hW hl
set_option maxRecDepth 100000 in
set_option maxHeartbeats 4000000 in
theorem wg_X7_pushesAligned_146 {F : Nat} {a0 : Nat}  (X : zX p s m c cX7_pushesAligned 12 RX7 D) (hr : meth.sig.returnType = some .int) (hlk : meth.locks = false) (hK0 : (K a0).1 = 17)  {kself : zI → Int32 → Int32 → Int32 → Int32 → Int32 → Int32 → Int32 → Option (Int32 × zI)} (hkself : ∀ (I : zI) (x2 : Int32) (x4 : Int32) (x5 : Int32) (x6 : Int32) (x7 : Int32) (x8 : Int32) (x9 : Int32) (H : Heap) (locs : List Loc) (ls : Array Slot), kself I x2 x4 x5 x6 x7 x8 x9 = some (r, I') → zS (zOwn B K (B + n)) D B n K I R s.heap H locs → lv_has ls 12 [(0, .ref (B + a0)), (2, .int x2), (4, .int x4), (5, .int x5), (6, .int x6), (7, .int x7), (8, .int x8), (9, .int x9)] → W p l e ({ frames := 3, cells := 0, slots := 0, locals := 86 } : Room) s m args below meth c H locs 0 0 (MQ below (zQi D (zOwn B K (B + n)) r B n K I' R) args s 0 0 (zOwn B K (B + n))) (F0 m 146 ls [])) {x2 : Int32} {x4 : Int32} {x5 : Int32} {x6 : Int32} {x7 : Int32} {x8 : Int32} {x9 : Int32} (hf : g_X7_pushesAligned_146 F K R a0  kself I x2 x4 x5 x6 x7 x8 x9 = some (r, I')) (hW : zS (zOwn B K (B + n)) D B n K I R s.heap H locs) (hl : lv_has ls 12 [(0, .ref (B + a0)), (2, .int x2), (4, .int x4), (5, .int x5), (6, .int x6), (7, .int x7), (8, .int x8), (9, .int x9)]) : W p l e ({ frames := 3, cells := 0, slots := 0, locals := 86 } : Room) s m args below meth c H locs 0 0 (MQ below (zQi D (zOwn B K (B + n)) r B n K I' R) args s 0 0 (zOwn B K (B + n))) (F0 m 146 ls []) := by
  unfold g_X7_pushesAligned_146 at hf
  refine lv_iload X.1 X.2.1 dX7_pushesAligned_146 (lv_at hl 7 rfl) ?_
  refine lv_iload X.1 X.2.1 dX7_pushesAligned_148 (lv_at hl 6 rfl) ?_
  refine lv_icmp_ge (tgt := 199) X.1 X.2.1 dX7_pushesAligned_150 (by decide) (fun c10 => ?_) (fun c10 => ?_)
  · replace hf := zif_pos c10 hf
    refine lv_aload_n X.1 X.2.1 dX7_pushesAligned_199 rfl (lv_at hl 0 rfl) ?_
    refine lv_iload_n X.1 X.2.1 dX7_pushesAligned_200 rfl (lv_at hl 1 rfl) ?_
    refine lv_iload X.1 X.2.1 dX7_pushesAligned_201 (lv_at hl 5 rfl) ?_
    refine lv_aload_n X.1 X.2.1 dX7_pushesAligned_203 rfl (lv_at hl 0 rfl) ?_
    refine ze_gtR X 7 5 20 (RX7, TX7, 39) rfl hf hW hK0 rfl (by decide) kfl_X7_20 dX7_pushesAligned_204 (fun o11 hg => ?_)
    replace hf := hg
    obtain ⟨v12, h13, hg⟩ := zh_bd hf
    replace hf := hg
    refine ze_aftI0 (ze_runV (As := [.int x2, .int x7, zrf B o11]) (rest := []) X 7 165 (c_X7_child l D B n hK0 h13) vX7_child kml_X7_165 hW hK0 rfl rfl ⟨by decide, by decide⟩ rfl hl.1 rfl (Nat.le_of_ble_eq_true rfl) ⟨Nat.le_refl _, Nat.le_refl _⟩ dX7_pushesAligned_207) hW (fun H locs hV => ?_)
    replace hW := hV
    refine lv_istore (lv' := [(9, .int v12), (0, .ref (B + a0)), (2, .int x2), (4, .int x4), (5, .int x5), (6, .int x6), (7, .int x7), (8, .int x8)]) X.1 X.2.1 dX7_pushesAligned_210 hl (by decide) rfl (fun ls hk => ?_)
    replace hl := hk
    refine lv_aload_n X.1 X.2.1 dX7_pushesAligned_212 rfl (lv_at hl 1 rfl) ?_
    refine lv_iload X.1 X.2.1 dX7_pushesAligned_213 (lv_at hl 3 rfl) ?_
    refine lv_iload X.1 X.2.1 dX7_pushesAligned_215 (lv_at hl 6 rfl) ?_
    refine lv_aload_n X.1 X.2.1 dX7_pushesAligned_217 rfl (lv_at hl 1 rfl) ?_
    refine ze_gtR X 7 6 23 (RX7, TX7, 39) rfl hf hW hK0 rfl (by decide) kfl_X7_23 dX7_pushesAligned_218 (fun o14 hg => ?_)
    replace hf := hg
    obtain ⟨v15, h16, hg⟩ := zh_bd hf
    replace hf := hg
    refine ze_aftI0 (ze_runV (As := [.int x4, .int x7, zrf B o14]) (rest := []) X 7 165 (c_X7_child l D B n hK0 h16) vX7_child kml_X7_165 hW hK0 rfl rfl ⟨by decide, by decide⟩ rfl hl.1 rfl (Nat.le_of_ble_eq_true rfl) ⟨Nat.le_refl _, Nat.le_refl _⟩ dX7_pushesAligned_221) hW (fun H locs hV => ?_)
    replace hW := hV
    refine lv_istore (lv' := [(10, .int v15), (9, .int v12), (0, .ref (B + a0)), (2, .int x2), (4, .int x4), (5, .int x5), (6, .int x6), (7, .int x7), (8, .int x8)]) X.1 X.2.1 dX7_pushesAligned_224 hl (by decide) rfl (fun ls hk => ?_)
    replace hl := hk
    refine lv_aload_n X.1 X.2.1 dX7_pushesAligned_226 rfl (lv_at hl 2 rfl) ?_
    refine lv_iconst (v := 1) X.1 X.2.1 dX7_pushesAligned_227 (by decide) ?_
    refine lv_iload X.1 X.2.1 dX7_pushesAligned_228 (lv_at hl 1 rfl) ?_
    refine lv_aload_n X.1 X.2.1 dX7_pushesAligned_230 rfl (lv_at hl 2 rfl) ?_
    refine lv_iload_n X.1 X.2.1 dX7_pushesAligned_231 rfl (lv_at hl 3 rfl) ?_
    refine lv_iload X.1 X.2.1 dX7_pushesAligned_232 (lv_at hl 5 rfl) ?_
    refine lv_iload X.1 X.2.1 dX7_pushesAligned_234 (lv_at hl 8 rfl) ?_
    refine lv_isub X.1 X.2.1 dX7_pushesAligned_236 ?_
    refine lv_aload_n X.1 X.2.1 dX7_pushesAligned_237 rfl (lv_at hl 2 rfl) ?_
    refine ze_gtR X 7 5 20 (RX7, TX7, 39) rfl hf hW hK0 rfl (by decide) kfl_X7_20 dX7_pushesAligned_238 (fun o17 hg => ?_)
    replace hf := hg
    obtain ⟨v18, h19, hg⟩ := zh_bd hf
    replace hf := hg
    refine ze_aftI0 (ze_runV (As := [.int x2, .int (x5 - x8), zrf B o17]) (rest := [.int v12, .int (1 : Int32), .ref (B + a0)]) X 7 165 (c_X7_child l D B n hK0 h19) vX7_child kml_X7_165 hW hK0 rfl rfl ⟨by decide, by decide⟩ rfl hl.1 rfl (Nat.le_of_ble_eq_true rfl) ⟨Nat.le_refl _, Nat.le_refl _⟩ dX7_pushesAligned_241) hW (fun H locs hV => ?_)
    replace hW := hV
    refine lv_iload X.1 X.2.1 dX7_pushesAligned_244 (lv_at hl 1 rfl) ?_
    refine lv_isub X.1 X.2.1 dX7_pushesAligned_246 ?_
    refine lv_iload X.1 X.2.1 dX7_pushesAligned_247 (lv_at hl 0 rfl) ?_
    refine lv_aload_n X.1 X.2.1 dX7_pushesAligned_249 rfl (lv_at hl 2 rfl) ?_
    refine lv_iload X.1 X.2.1 dX7_pushesAligned_250 (lv_at hl 4 rfl) ?_
    refine lv_iload X.1 X.2.1 dX7_pushesAligned_252 (lv_at hl 6 rfl) ?_
    refine lv_iload X.1 X.2.1 dX7_pushesAligned_254 (lv_at hl 8 rfl) ?_
    refine lv_isub X.1 X.2.1 dX7_pushesAligned_256 ?_
    refine lv_aload_n X.1 X.2.1 dX7_pushesAligned_257 rfl (lv_at hl 2 rfl) ?_
    refine ze_gtR X 7 6 23 (RX7, TX7, 39) rfl hf hW hK0 rfl (by decide) kfl_X7_23 dX7_pushesAligned_258 (fun o20 hg => ?_)
    replace hf := hg
    obtain ⟨v21, h22, hg⟩ := zh_bd hf
    replace hf := hg
    refine ze_aftI0 (ze_runV (As := [.int x4, .int (x6 - x8), zrf B o20]) (rest := [.int v15, .int (v18 - v12), .int v12, .int (1 : Int32), .ref (B + a0)]) X 7 165 (c_X7_child l D B n hK0 h22) vX7_child kml_X7_165 hW hK0 rfl rfl ⟨by decide, by decide⟩ rfl hl.1 rfl (Nat.le_of_ble_eq_true rfl) ⟨Nat.le_refl _, Nat.le_refl _⟩ dX7_pushesAligned_261) hW (fun H locs hV => ?_)
    replace hW := hV
    refine lv_iload X.1 X.2.1 dX7_pushesAligned_264 (lv_at hl 0 rfl) ?_
    refine lv_isub X.1 X.2.1 dX7_pushesAligned_266 ?_
    obtain ⟨I23, h24, hg⟩ := zh_bd hf
    replace hf := hg
    refine ze_aftV0 (ze_runV (As := [.int (1 : Int32), .int v12, .int (v18 - v12), .int v15, .int (v21 - v15)]) (rest := []) X 7 231 (c_X7_pushes l D B n hK0 h24) vX7_pushes kml_X7_231 hW hK0 rfl rfl ⟨by decide, by decide⟩ rfl hl.1 rfl (Nat.le_of_ble_eq_true rfl) ⟨Nat.le_refl _, Nat.le_refl _⟩ dX7_pushesAligned_267) hW (fun H locs hV => ?_)
    replace hW := hV
    refine lv_iload X.1 X.2.1 dX7_pushesAligned_270 (lv_at hl 7 rfl) ?_
    refine lv_iconst (v := 1) X.1 X.2.1 dX7_pushesAligned_272 (by decide) ?_
    refine lv_isub X.1 X.2.1 dX7_pushesAligned_273 ?_
    refine ze_nm hf (fun v25 hg => ?_)
    replace hf := hg
    refine lv_istore (lv' := [(11, .int v25), (10, .int v15), (9, .int v12), (0, .ref (B + a0)), (2, .int x2), (4, .int x4), (5, .int x5), (6, .int x6), (7, .int x7), (8, .int x8)]) X.1 X.2.1 dX7_pushesAligned_274 hl (by decide) rfl (fun ls hk => ?_)
    replace hl := hk
    exact w_X7_pushesAligned_276 X hr hlk hK0 hf hW (lv_sub hl [3, 4, 5, 8, 9, 0] rfl)
  · replace hf := zif_neg c10 hf
    refine lv_aload_n X.1 X.2.1 dX7_pushesAligned_153 rfl (lv_at hl 0 rfl) ?_
    refine lv_iconst (v := 0) X.1 X.2.1 dX7_pushesAligned_154 (by decide) ?_
    refine lv_aload_n X.1 X.2.1 dX7_pushesAligned_155 rfl (lv_at hl 0 rfl) ?_
    refine lv_iload_n X.1 X.2.1 dX7_pushesAligned_156 rfl (lv_at hl 1 rfl) ?_
    refine lv_iload X.1 X.2.1 dX7_pushesAligned_157 (lv_at hl 3 rfl) ?_
    refine lv_iconst (v := 1) X.1 X.2.1 dX7_pushesAligned_159 (by decide) ?_
    refine lv_isub X.1 X.2.1 dX7_pushesAligned_160 ?_
    refine lv_iload X.1 X.2.1 dX7_pushesAligned_161 (lv_at hl 7 rfl) ?_
    refine lv_isub X.1 X.2.1 dX7_pushesAligned_163 ?_
    refine lv_aload_n X.1 X.2.1 dX7_pushesAligned_164 rfl (lv_at hl 0 rfl) ?_
    refine ze_gtR X 7 5 20 (RX7, TX7, 39) rfl hf hW hK0 rfl (by decide) kfl_X7_20 dX7_pushesAligned_165 (fun o26 hg => ?_)
    replace hf := hg
    obtain ⟨v27, h28, hg⟩ := zh_bd hf
    replace hf := hg
    refine ze_aftI0 (ze_runV (As := [.int x2, .int ((x5 - (1 : Int32)) - x9), zrf B o26]) (rest := [.int (0 : Int32), .ref (B + a0)]) X 7 165 (c_X7_child l D B n hK0 h28) vX7_child kml_X7_165 hW hK0 rfl rfl ⟨by decide, by decide⟩ rfl hl.1 rfl (Nat.le_of_ble_eq_true rfl) ⟨Nat.le_refl _, Nat.le_refl _⟩ dX7_pushesAligned_168) hW (fun H locs hV => ?_)
    replace hW := hV
    refine lv_iconst (v := 0) X.1 X.2.1 dX7_pushesAligned_171 (by decide) ?_
    refine lv_aload_n X.1 X.2.1 dX7_pushesAligned_172 rfl (lv_at hl 0 rfl) ?_
    refine lv_iload X.1 X.2.1 dX7_pushesAligned_173 (lv_at hl 2 rfl) ?_
    refine lv_iload X.1 X.2.1 dX7_pushesAligned_175 (lv_at hl 4 rfl) ?_
    refine lv_iconst (v := 1) X.1 X.2.1 dX7_pushesAligned_177 (by decide) ?_
    refine lv_isub X.1 X.2.1 dX7_pushesAligned_178 ?_
    refine lv_iload X.1 X.2.1 dX7_pushesAligned_179 (lv_at hl 7 rfl) ?_
    refine lv_isub X.1 X.2.1 dX7_pushesAligned_181 ?_
    refine lv_aload_n X.1 X.2.1 dX7_pushesAligned_182 rfl (lv_at hl 0 rfl) ?_
    refine ze_gtR X 7 6 23 (RX7, TX7, 39) rfl hf hW hK0 rfl (by decide) kfl_X7_23 dX7_pushesAligned_183 (fun o29 hg => ?_)
    replace hf := hg
    obtain ⟨v30, h31, hg⟩ := zh_bd hf
    replace hf := hg
    refine ze_aftI0 (ze_runV (As := [.int x4, .int ((x6 - (1 : Int32)) - x9), zrf B o29]) (rest := [.int (0 : Int32), .int v27, .int (0 : Int32), .ref (B + a0)]) X 7 165 (c_X7_child l D B n hK0 h31) vX7_child kml_X7_165 hW hK0 rfl rfl ⟨by decide, by decide⟩ rfl hl.1 rfl (Nat.le_of_ble_eq_true rfl) ⟨Nat.le_refl _, Nat.le_refl _⟩ dX7_pushesAligned_186) hW (fun H locs hV => ?_)
    replace hW := hV
    refine lv_iconst (v := 0) X.1 X.2.1 dX7_pushesAligned_189 (by decide) ?_
    obtain ⟨I32, h33, hg⟩ := zh_bd hf
    replace hf := hg
    refine ze_aftV0 (ze_runV (As := [.int (0 : Int32), .int v27, .int (0 : Int32), .int v30, .int (0 : Int32)]) (rest := []) X 7 231 (c_X7_pushes l D B n hK0 h33) vX7_pushes kml_X7_231 hW hK0 rfl rfl ⟨by decide, by decide⟩ rfl hl.1 rfl (Nat.le_of_ble_eq_true rfl) ⟨Nat.le_refl _, Nat.le_refl _⟩ dX7_pushesAligned_190) hW (fun H locs hV => ?_)
    replace hW := hV
    refine ze_iinc (lv' := [(9, .int (x9 + (1 : Int32))), (0, .ref (B + a0)), (2, .int x2), (4, .int x4), (5, .int x5), (6, .int x6), (7, .int x7), (8, .int x8)]) (d := 1) X.1 X.2.1 dX7_pushesAligned_193 hl (k := 7) rfl (by decide) (by decide) rfl (fun ls hk => ?_)
    replace hl := hk
    refine lv_goto (tgt := 146) X.1 X.2.1 dX7_pushesAligned_196 (by decide) ?_
    exact hkself _ _ _ _ _ _ _ _ _ _ _ hf hW (lv_sub hl [1, 2, 3, 4, 5, 6, 7, 0] rfl)
set_option maxRecDepth 100000 in
set_option maxHeartbeats 4000000 in
theorem w_X7_pushesAligned_146 {F : Nat} {a0 : Nat}  (X : zX p s m c cX7_pushesAligned 12 RX7 D) (hr : meth.sig.returnType = some .int) (hlk : meth.locks = false) (hK0 : (K a0).1 = 17)  {t : Nat} {x2 : Int32} {x4 : Int32} {x5 : Int32} {x6 : Int32} {x7 : Int32} {x8 : Int32} {x9 : Int32} (hf : f_X7_pushesAligned_146 F K R a0  t I x2 x4 x5 x6 x7 x8 x9 = some (r, I')) (hW : zS (zOwn B K (B + n)) D B n K I R s.heap H locs) (hl : lv_has ls 12 [(0, .ref (B + a0)), (2, .int x2), (4, .int x4), (5, .int x5), (6, .int x6), (7, .int x7), (8, .int x8), (9, .int x9)]) : W p l e ({ frames := 3, cells := 0, slots := 0, locals := 86 } : Room) s m args below meth c H locs 0 0 (MQ below (zQi D (zOwn B K (B + n)) r B n K I' R) args s 0 0 (zOwn B K (B + n))) (F0 m 146 ls []) := by
  have key : ∀ t : Nat, ∀ (I : zI) (x2 : Int32) (x4 : Int32) (x5 : Int32) (x6 : Int32) (x7 : Int32) (x8 : Int32) (x9 : Int32) (H : Heap) (locs : List Loc) (ls : Array Slot), f_X7_pushesAligned_146 F K R a0  t I x2 x4 x5 x6 x7 x8 x9 = some (r, I') → zS (zOwn B K (B + n)) D B n K I R s.heap H locs → lv_has ls 12 [(0, .ref (B + a0)), (2, .int x2), (4, .int x4), (5, .int x5), (6, .int x6), (7, .int x7), (8, .int x8), (9, .int x9)] → W p l e ({ frames := 3, cells := 0, slots := 0, locals := 86 } : Room) s m args below meth c H locs 0 0 (MQ below (zQi D (zOwn B K (B + n)) r B n K I' R) args s 0 0 (zOwn B K (B + n))) (F0 m 146 ls []) := by
    intro t
    induction t with
    | zero =>
      intro I x2 x4 x5 x6 x7 x8 x9 H locs ls hf hW hl
      cases hf
    | succ t ih =>
      intro I x2 x4 x5 x6 x7 x8 x9 H locs ls hf hW hl
      exact wg_X7_pushesAligned_146 X hr hlk hK0  ih hf hW hl
  exact key t _ _ _ _ _ _ _ _ _ _ _ hf hW hl
set_option maxRecDepth 100000 in
set_option maxHeartbeats 4000000 in
theorem w_X7_pushesAligned_143 {F : Nat} {a0 : Nat}  (X : zX p s m c cX7_pushesAligned 12 RX7 D) (hr : meth.sig.returnType = some .int) (hlk : meth.locks = false) (hK0 : (K a0).1 = 17)  {x2 : Int32} {x4 : Int32} {x5 : Int32} {x6 : Int32} {x7 : Int32} {x8 : Int32} (hf : f_X7_pushesAligned_143 F K R a0  I x2 x4 x5 x6 x7 x8 = some (r, I')) (hW : zS (zOwn B K (B + n)) D B n K I R s.heap H locs) (hl : lv_has ls 12 [(0, .ref (B + a0)), (2, .int x2), (4, .int x4), (5, .int x5), (6, .int x6), (7, .int x7), (8, .int x8)]) : W p l e ({ frames := 3, cells := 0, slots := 0, locals := 86 } : Room) s m args below meth c H locs 0 0 (MQ below (zQi D (zOwn B K (B + n)) r B n K I' R) args s 0 0 (zOwn B K (B + n))) (F0 m 143 ls []) := by
  unfold f_X7_pushesAligned_143 at hf
  refine lv_iconst (v := 0) X.1 X.2.1 dX7_pushesAligned_143 (by decide) ?_
  refine lv_istore (lv' := [(9, .int (0 : Int32)), (0, .ref (B + a0)), (2, .int x2), (4, .int x4), (5, .int x5), (6, .int x6), (7, .int x7), (8, .int x8)]) X.1 X.2.1 dX7_pushesAligned_144 hl (by decide) rfl (fun ls hk => ?_)
  replace hl := hk
  exact w_X7_pushesAligned_146 X hr hlk hK0 hf hW (lv_sub hl [1, 2, 3, 4, 5, 6, 7, 0] rfl)
set_option maxRecDepth 100000 in
set_option maxHeartbeats 4000000 in
theorem wg_X7_pushesAligned_75 {F : Nat} {a0 : Nat}  (X : zX p s m c cX7_pushesAligned 12 RX7 D) (hr : meth.sig.returnType = some .int) (hlk : meth.locks = false) (hK0 : (K a0).1 = 17)  {kself : zI → Int32 → Int32 → Int32 → Int32 → Int32 → Int32 → Int32 → Int32 → Option (Int32 × zI)} (hkself : ∀ (I : zI) (x1 : Int32) (x2 : Int32) (x3 : Int32) (x4 : Int32) (x5 : Int32) (x6 : Int32) (x7 : Int32) (x8 : Int32) (H : Heap) (locs : List Loc) (ls : Array Slot), kself I x1 x2 x3 x4 x5 x6 x7 x8 = some (r, I') → zS (zOwn B K (B + n)) D B n K I R s.heap H locs → lv_has ls 12 [(0, .ref (B + a0)), (1, .int x1), (2, .int x2), (3, .int x3), (4, .int x4), (5, .int x5), (6, .int x6), (7, .int x7), (8, .int x8)] → W p l e ({ frames := 3, cells := 0, slots := 0, locals := 86 } : Room) s m args below meth c H locs 0 0 (MQ below (zQi D (zOwn B K (B + n)) r B n K I' R) args s 0 0 (zOwn B K (B + n))) (F0 m 75 ls [])) {x1 : Int32} {x2 : Int32} {x3 : Int32} {x4 : Int32} {x5 : Int32} {x6 : Int32} {x7 : Int32} {x8 : Int32} (hf : g_X7_pushesAligned_75 F K R a0  kself I x1 x2 x3 x4 x5 x6 x7 x8 = some (r, I')) (hW : zS (zOwn B K (B + n)) D B n K I R s.heap H locs) (hl : lv_has ls 12 [(0, .ref (B + a0)), (1, .int x1), (2, .int x2), (3, .int x3), (4, .int x4), (5, .int x5), (6, .int x6), (7, .int x7), (8, .int x8)]) : W p l e ({ frames := 3, cells := 0, slots := 0, locals := 86 } : Room) s m args below meth c H locs 0 0 (MQ below (zQi D (zOwn B K (B + n)) r B n K I' R) args s 0 0 (zOwn B K (B + n))) (F0 m 75 ls []) := by
  unfold g_X7_pushesAligned_75 at hf
  refine lv_iload X.1 X.2.1 dX7_pushesAligned_75 (lv_at hl 7 rfl) ?_
  refine lv_iload X.1 X.2.1 dX7_pushesAligned_77 (lv_at hl 8 rfl) ?_
  refine lv_iadd X.1 X.2.1 dX7_pushesAligned_79 ?_
  refine lv_iload X.1 X.2.1 dX7_pushesAligned_80 (lv_at hl 5 rfl) ?_
  refine lv_icmp_ge (tgt := 143) X.1 X.2.1 dX7_pushesAligned_82 (by decide) (fun c34 => ?_) (fun c34 => ?_)
  · replace hf := zif_pos c34 hf
    exact w_X7_pushesAligned_143 X hr hlk hK0 hf hW (lv_sub hl [0, 2, 4, 5, 6, 7, 8] rfl)
  · replace hf := zif_neg c34 hf
    refine lv_iload X.1 X.2.1 dX7_pushesAligned_85 (lv_at hl 7 rfl) ?_
    refine lv_iload X.1 X.2.1 dX7_pushesAligned_87 (lv_at hl 8 rfl) ?_
    refine lv_iadd X.1 X.2.1 dX7_pushesAligned_89 ?_
    refine lv_iload X.1 X.2.1 dX7_pushesAligned_90 (lv_at hl 6 rfl) ?_
    refine lv_icmp_ge (tgt := 143) X.1 X.2.1 dX7_pushesAligned_92 (by decide) (fun c35 => ?_) (fun c35 => ?_)
    · replace hf := zif_pos c35 hf
      exact w_X7_pushesAligned_143 X hr hlk hK0 hf hW (lv_sub hl [0, 2, 4, 5, 6, 7, 8] rfl)
    · replace hf := zif_neg c35 hf
      refine lv_aload_n X.1 X.2.1 dX7_pushesAligned_95 rfl (lv_at hl 0 rfl) ?_
      refine lv_iload_n X.1 X.2.1 dX7_pushesAligned_96 rfl (lv_at hl 1 rfl) ?_
      refine lv_aload_n X.1 X.2.1 dX7_pushesAligned_97 rfl (lv_at hl 0 rfl) ?_
      refine lv_iload_n X.1 X.2.1 dX7_pushesAligned_98 rfl (lv_at hl 2 rfl) ?_
      refine lv_iload X.1 X.2.1 dX7_pushesAligned_99 (lv_at hl 5 rfl) ?_
      refine lv_iconst (v := 1) X.1 X.2.1 dX7_pushesAligned_101 (by decide) ?_
      refine lv_isub X.1 X.2.1 dX7_pushesAligned_102 ?_
      refine lv_iload X.1 X.2.1 dX7_pushesAligned_103 (lv_at hl 8 rfl) ?_
      refine lv_isub X.1 X.2.1 dX7_pushesAligned_105 ?_
      refine lv_aload_n X.1 X.2.1 dX7_pushesAligned_106 rfl (lv_at hl 0 rfl) ?_
      refine ze_gtR X 7 5 20 (RX7, TX7, 39) rfl hf hW hK0 rfl (by decide) kfl_X7_20 dX7_pushesAligned_107 (fun o36 hg => ?_)
      replace hf := hg
      obtain ⟨v37, h38, hg⟩ := zh_bd hf
      replace hf := hg
      refine ze_aftI0 (ze_runV (As := [.int x2, .int ((x5 - (1 : Int32)) - x8), zrf B o36]) (rest := [.int x1, .ref (B + a0)]) X 7 165 (c_X7_child l D B n hK0 h38) vX7_child kml_X7_165 hW hK0 rfl rfl ⟨by decide, by decide⟩ rfl hl.1 rfl (Nat.le_of_ble_eq_true rfl) ⟨Nat.le_refl _, Nat.le_refl _⟩ dX7_pushesAligned_110) hW (fun H locs hV => ?_)
      replace hW := hV
      refine lv_iload_n X.1 X.2.1 dX7_pushesAligned_113 rfl (lv_at hl 3 rfl) ?_
      refine lv_aload_n X.1 X.2.1 dX7_pushesAligned_114 rfl (lv_at hl 0 rfl) ?_
      refine lv_iload X.1 X.2.1 dX7_pushesAligned_115 (lv_at hl 4 rfl) ?_
      refine lv_iload X.1 X.2.1 dX7_pushesAligned_117 (lv_at hl 6 rfl) ?_
      refine lv_iconst (v := 1) X.1 X.2.1 dX7_pushesAligned_119 (by decide) ?_
      refine lv_isub X.1 X.2.1 dX7_pushesAligned_120 ?_
      refine lv_iload X.1 X.2.1 dX7_pushesAligned_121 (lv_at hl 8 rfl) ?_
      refine lv_isub X.1 X.2.1 dX7_pushesAligned_123 ?_
      refine lv_aload_n X.1 X.2.1 dX7_pushesAligned_124 rfl (lv_at hl 0 rfl) ?_
      refine ze_gtR X 7 6 23 (RX7, TX7, 39) rfl hf hW hK0 rfl (by decide) kfl_X7_23 dX7_pushesAligned_125 (fun o39 hg => ?_)
      replace hf := hg
      obtain ⟨v40, h41, hg⟩ := zh_bd hf
      replace hf := hg
      refine ze_aftI0 (ze_runV (As := [.int x4, .int ((x6 - (1 : Int32)) - x8), zrf B o39]) (rest := [.int x3, .int v37, .int x1, .ref (B + a0)]) X 7 165 (c_X7_child l D B n hK0 h41) vX7_child kml_X7_165 hW hK0 rfl rfl ⟨by decide, by decide⟩ rfl hl.1 rfl (Nat.le_of_ble_eq_true rfl) ⟨Nat.le_refl _, Nat.le_refl _⟩ dX7_pushesAligned_128) hW (fun H locs hV => ?_)
      replace hW := hV
      obtain ⟨v42, h43, hg⟩ := zh_bd hf
      replace hf := hg
      refine ze_aftI0 (ze_runV (As := [.int x1, .int v37, .int x3, .int v40]) (rest := []) X 7 235 (c_X7_isAlike l D B n hK0 h43) vX7_isAlike kml_X7_235 hW hK0 rfl rfl ⟨by decide, by decide⟩ rfl hl.1 rfl (Nat.le_of_ble_eq_true rfl) ⟨Nat.le_refl _, Nat.le_refl _⟩ dX7_pushesAligned_131) hW (fun H locs hV => ?_)
      replace hW := hV
      refine lv_if_eq (tgt := 143) X.1 X.2.1 dX7_pushesAligned_134 (by decide) (fun c44 => ?_) (fun c44 => ?_)
      · replace hf := zif_pos c44 hf
        exact w_X7_pushesAligned_143 X hr hlk hK0 hf hW (lv_sub hl [0, 2, 4, 5, 6, 7, 8] rfl)
      · replace hf := zif_neg c44 hf
        refine ze_iinc (lv' := [(8, .int (x8 + (1 : Int32))), (0, .ref (B + a0)), (1, .int x1), (2, .int x2), (3, .int x3), (4, .int x4), (5, .int x5), (6, .int x6), (7, .int x7)]) (d := 1) X.1 X.2.1 dX7_pushesAligned_137 hl (k := 8) rfl (by decide) (by decide) rfl (fun ls hk => ?_)
        replace hl := hk
        refine lv_goto (tgt := 75) X.1 X.2.1 dX7_pushesAligned_140 (by decide) ?_
        exact hkself _ _ _ _ _ _ _ _ _ _ _ _ hf hW (lv_sub hl [1, 2, 3, 4, 5, 6, 7, 8, 0] rfl)
set_option maxRecDepth 100000 in
set_option maxHeartbeats 4000000 in
theorem w_X7_pushesAligned_75 {F : Nat} {a0 : Nat}  (X : zX p s m c cX7_pushesAligned 12 RX7 D) (hr : meth.sig.returnType = some .int) (hlk : meth.locks = false) (hK0 : (K a0).1 = 17)  {t : Nat} {x1 : Int32} {x2 : Int32} {x3 : Int32} {x4 : Int32} {x5 : Int32} {x6 : Int32} {x7 : Int32} {x8 : Int32} (hf : f_X7_pushesAligned_75 F K R a0  t I x1 x2 x3 x4 x5 x6 x7 x8 = some (r, I')) (hW : zS (zOwn B K (B + n)) D B n K I R s.heap H locs) (hl : lv_has ls 12 [(0, .ref (B + a0)), (1, .int x1), (2, .int x2), (3, .int x3), (4, .int x4), (5, .int x5), (6, .int x6), (7, .int x7), (8, .int x8)]) : W p l e ({ frames := 3, cells := 0, slots := 0, locals := 86 } : Room) s m args below meth c H locs 0 0 (MQ below (zQi D (zOwn B K (B + n)) r B n K I' R) args s 0 0 (zOwn B K (B + n))) (F0 m 75 ls []) := by
  have key : ∀ t : Nat, ∀ (I : zI) (x1 : Int32) (x2 : Int32) (x3 : Int32) (x4 : Int32) (x5 : Int32) (x6 : Int32) (x7 : Int32) (x8 : Int32) (H : Heap) (locs : List Loc) (ls : Array Slot), f_X7_pushesAligned_75 F K R a0  t I x1 x2 x3 x4 x5 x6 x7 x8 = some (r, I') → zS (zOwn B K (B + n)) D B n K I R s.heap H locs → lv_has ls 12 [(0, .ref (B + a0)), (1, .int x1), (2, .int x2), (3, .int x3), (4, .int x4), (5, .int x5), (6, .int x6), (7, .int x7), (8, .int x8)] → W p l e ({ frames := 3, cells := 0, slots := 0, locals := 86 } : Room) s m args below meth c H locs 0 0 (MQ below (zQi D (zOwn B K (B + n)) r B n K I' R) args s 0 0 (zOwn B K (B + n))) (F0 m 75 ls []) := by
    intro t
    induction t with
    | zero =>
      intro I x1 x2 x3 x4 x5 x6 x7 x8 H locs ls hf hW hl
      cases hf
    | succ t ih =>
      intro I x1 x2 x3 x4 x5 x6 x7 x8 H locs ls hf hW hl
      exact wg_X7_pushesAligned_75 X hr hlk hK0  ih hf hW hl
  exact key t _ _ _ _ _ _ _ _ _ _ _ _ hf hW hl
set_option maxRecDepth 100000 in
set_option maxHeartbeats 4000000 in
theorem w_X7_pushesAligned_72 {F : Nat} {a0 : Nat}  (X : zX p s m c cX7_pushesAligned 12 RX7 D) (hr : meth.sig.returnType = some .int) (hlk : meth.locks = false) (hK0 : (K a0).1 = 17)  {x1 : Int32} {x2 : Int32} {x3 : Int32} {x4 : Int32} {x5 : Int32} {x6 : Int32} {x7 : Int32} (hf : f_X7_pushesAligned_72 F K R a0  I x1 x2 x3 x4 x5 x6 x7 = some (r, I')) (hW : zS (zOwn B K (B + n)) D B n K I R s.heap H locs) (hl : lv_has ls 12 [(0, .ref (B + a0)), (1, .int x1), (2, .int x2), (3, .int x3), (4, .int x4), (5, .int x5), (6, .int x6), (7, .int x7)]) : W p l e ({ frames := 3, cells := 0, slots := 0, locals := 86 } : Room) s m args below meth c H locs 0 0 (MQ below (zQi D (zOwn B K (B + n)) r B n K I' R) args s 0 0 (zOwn B K (B + n))) (F0 m 72 ls []) := by
  unfold f_X7_pushesAligned_72 at hf
  refine lv_iconst (v := 0) X.1 X.2.1 dX7_pushesAligned_72 (by decide) ?_
  refine lv_istore (lv' := [(8, .int (0 : Int32)), (0, .ref (B + a0)), (1, .int x1), (2, .int x2), (3, .int x3), (4, .int x4), (5, .int x5), (6, .int x6), (7, .int x7)]) X.1 X.2.1 dX7_pushesAligned_73 hl (by decide) rfl (fun ls hk => ?_)
  replace hl := hk
  exact w_X7_pushesAligned_75 X hr hlk hK0 hf hW (lv_sub hl [1, 2, 3, 4, 5, 6, 7, 8, 0] rfl)
set_option maxRecDepth 100000 in
set_option maxHeartbeats 4000000 in
theorem wg_X7_pushesAligned_20 {F : Nat} {a0 : Nat}  (X : zX p s m c cX7_pushesAligned 12 RX7 D) (hr : meth.sig.returnType = some .int) (hlk : meth.locks = false) (hK0 : (K a0).1 = 17)  {kself : zI → Int32 → Int32 → Int32 → Int32 → Int32 → Int32 → Int32 → Option (Int32 × zI)} (hkself : ∀ (I : zI) (x1 : Int32) (x2 : Int32) (x3 : Int32) (x4 : Int32) (x5 : Int32) (x6 : Int32) (x7 : Int32) (H : Heap) (locs : List Loc) (ls : Array Slot), kself I x1 x2 x3 x4 x5 x6 x7 = some (r, I') → zS (zOwn B K (B + n)) D B n K I R s.heap H locs → lv_has ls 12 [(0, .ref (B + a0)), (1, .int x1), (2, .int x2), (3, .int x3), (4, .int x4), (5, .int x5), (6, .int x6), (7, .int x7)] → W p l e ({ frames := 3, cells := 0, slots := 0, locals := 86 } : Room) s m args below meth c H locs 0 0 (MQ below (zQi D (zOwn B K (B + n)) r B n K I' R) args s 0 0 (zOwn B K (B + n))) (F0 m 20 ls [])) {x1 : Int32} {x2 : Int32} {x3 : Int32} {x4 : Int32} {x5 : Int32} {x6 : Int32} {x7 : Int32} (hf : g_X7_pushesAligned_20 F K R a0  kself I x1 x2 x3 x4 x5 x6 x7 = some (r, I')) (hW : zS (zOwn B K (B + n)) D B n K I R s.heap H locs) (hl : lv_has ls 12 [(0, .ref (B + a0)), (1, .int x1), (2, .int x2), (3, .int x3), (4, .int x4), (5, .int x5), (6, .int x6), (7, .int x7)]) : W p l e ({ frames := 3, cells := 0, slots := 0, locals := 86 } : Room) s m args below meth c H locs 0 0 (MQ below (zQi D (zOwn B K (B + n)) r B n K I' R) args s 0 0 (zOwn B K (B + n))) (F0 m 20 ls []) := by
  unfold g_X7_pushesAligned_20 at hf
  refine lv_iload X.1 X.2.1 dX7_pushesAligned_20 (lv_at hl 7 rfl) ?_
  refine lv_iload X.1 X.2.1 dX7_pushesAligned_22 (lv_at hl 5 rfl) ?_
  refine lv_icmp_ge (tgt := 72) X.1 X.2.1 dX7_pushesAligned_24 (by decide) (fun c45 => ?_) (fun c45 => ?_)
  · replace hf := zif_pos c45 hf
    exact w_X7_pushesAligned_72 X hr hlk hK0 hf hW hl
  · replace hf := zif_neg c45 hf
    refine lv_iload X.1 X.2.1 dX7_pushesAligned_27 (lv_at hl 7 rfl) ?_
    refine lv_iload X.1 X.2.1 dX7_pushesAligned_29 (lv_at hl 6 rfl) ?_
    refine lv_icmp_ge (tgt := 72) X.1 X.2.1 dX7_pushesAligned_31 (by decide) (fun c46 => ?_) (fun c46 => ?_)
    · replace hf := zif_pos c46 hf
      exact w_X7_pushesAligned_72 X hr hlk hK0 hf hW hl
    · replace hf := zif_neg c46 hf
      refine lv_aload_n X.1 X.2.1 dX7_pushesAligned_34 rfl (lv_at hl 0 rfl) ?_
      refine lv_iload_n X.1 X.2.1 dX7_pushesAligned_35 rfl (lv_at hl 1 rfl) ?_
      refine lv_aload_n X.1 X.2.1 dX7_pushesAligned_36 rfl (lv_at hl 0 rfl) ?_
      refine lv_iload_n X.1 X.2.1 dX7_pushesAligned_37 rfl (lv_at hl 2 rfl) ?_
      refine lv_iload X.1 X.2.1 dX7_pushesAligned_38 (lv_at hl 7 rfl) ?_
      refine lv_aload_n X.1 X.2.1 dX7_pushesAligned_40 rfl (lv_at hl 0 rfl) ?_
      refine ze_gtR X 7 5 20 (RX7, TX7, 39) rfl hf hW hK0 rfl (by decide) kfl_X7_20 dX7_pushesAligned_41 (fun o47 hg => ?_)
      replace hf := hg
      obtain ⟨v48, h49, hg⟩ := zh_bd hf
      replace hf := hg
      refine ze_aftI0 (ze_runV (As := [.int x2, .int x7, zrf B o47]) (rest := [.int x1, .ref (B + a0)]) X 7 165 (c_X7_child l D B n hK0 h49) vX7_child kml_X7_165 hW hK0 rfl rfl ⟨by decide, by decide⟩ rfl hl.1 rfl (Nat.le_of_ble_eq_true rfl) ⟨Nat.le_refl _, Nat.le_refl _⟩ dX7_pushesAligned_44) hW (fun H locs hV => ?_)
      replace hW := hV
      refine lv_iload_n X.1 X.2.1 dX7_pushesAligned_47 rfl (lv_at hl 3 rfl) ?_
      refine lv_aload_n X.1 X.2.1 dX7_pushesAligned_48 rfl (lv_at hl 0 rfl) ?_
      refine lv_iload X.1 X.2.1 dX7_pushesAligned_49 (lv_at hl 4 rfl) ?_
      refine lv_iload X.1 X.2.1 dX7_pushesAligned_51 (lv_at hl 7 rfl) ?_
      refine lv_aload_n X.1 X.2.1 dX7_pushesAligned_53 rfl (lv_at hl 0 rfl) ?_
      refine ze_gtR X 7 6 23 (RX7, TX7, 39) rfl hf hW hK0 rfl (by decide) kfl_X7_23 dX7_pushesAligned_54 (fun o50 hg => ?_)
      replace hf := hg
      obtain ⟨v51, h52, hg⟩ := zh_bd hf
      replace hf := hg
      refine ze_aftI0 (ze_runV (As := [.int x4, .int x7, zrf B o50]) (rest := [.int x3, .int v48, .int x1, .ref (B + a0)]) X 7 165 (c_X7_child l D B n hK0 h52) vX7_child kml_X7_165 hW hK0 rfl rfl ⟨by decide, by decide⟩ rfl hl.1 rfl (Nat.le_of_ble_eq_true rfl) ⟨Nat.le_refl _, Nat.le_refl _⟩ dX7_pushesAligned_57) hW (fun H locs hV => ?_)
      replace hW := hV
      obtain ⟨v53, h54, hg⟩ := zh_bd hf
      replace hf := hg
      refine ze_aftI0 (ze_runV (As := [.int x1, .int v48, .int x3, .int v51]) (rest := []) X 7 235 (c_X7_isAlike l D B n hK0 h54) vX7_isAlike kml_X7_235 hW hK0 rfl rfl ⟨by decide, by decide⟩ rfl hl.1 rfl (Nat.le_of_ble_eq_true rfl) ⟨Nat.le_refl _, Nat.le_refl _⟩ dX7_pushesAligned_60) hW (fun H locs hV => ?_)
      replace hW := hV
      refine lv_if_eq (tgt := 72) X.1 X.2.1 dX7_pushesAligned_63 (by decide) (fun c55 => ?_) (fun c55 => ?_)
      · replace hf := zif_pos c55 hf
        exact w_X7_pushesAligned_72 X hr hlk hK0 hf hW hl
      · replace hf := zif_neg c55 hf
        refine ze_iinc (lv' := [(7, .int (x7 + (1 : Int32))), (0, .ref (B + a0)), (1, .int x1), (2, .int x2), (3, .int x3), (4, .int x4), (5, .int x5), (6, .int x6)]) (d := 1) X.1 X.2.1 dX7_pushesAligned_66 hl (k := 7) rfl (by decide) (by decide) rfl (fun ls hk => ?_)
        replace hl := hk
        refine lv_goto (tgt := 20) X.1 X.2.1 dX7_pushesAligned_69 (by decide) ?_
        exact hkself _ _ _ _ _ _ _ _ _ _ _ hf hW (lv_sub hl [1, 2, 3, 4, 5, 6, 7, 0] rfl)
set_option maxRecDepth 100000 in
set_option maxHeartbeats 4000000 in
theorem w_X7_pushesAligned_20 {F : Nat} {a0 : Nat}  (X : zX p s m c cX7_pushesAligned 12 RX7 D) (hr : meth.sig.returnType = some .int) (hlk : meth.locks = false) (hK0 : (K a0).1 = 17)  {t : Nat} {x1 : Int32} {x2 : Int32} {x3 : Int32} {x4 : Int32} {x5 : Int32} {x6 : Int32} {x7 : Int32} (hf : f_X7_pushesAligned_20 F K R a0  t I x1 x2 x3 x4 x5 x6 x7 = some (r, I')) (hW : zS (zOwn B K (B + n)) D B n K I R s.heap H locs) (hl : lv_has ls 12 [(0, .ref (B + a0)), (1, .int x1), (2, .int x2), (3, .int x3), (4, .int x4), (5, .int x5), (6, .int x6), (7, .int x7)]) : W p l e ({ frames := 3, cells := 0, slots := 0, locals := 86 } : Room) s m args below meth c H locs 0 0 (MQ below (zQi D (zOwn B K (B + n)) r B n K I' R) args s 0 0 (zOwn B K (B + n))) (F0 m 20 ls []) := by
  have key : ∀ t : Nat, ∀ (I : zI) (x1 : Int32) (x2 : Int32) (x3 : Int32) (x4 : Int32) (x5 : Int32) (x6 : Int32) (x7 : Int32) (H : Heap) (locs : List Loc) (ls : Array Slot), f_X7_pushesAligned_20 F K R a0  t I x1 x2 x3 x4 x5 x6 x7 = some (r, I') → zS (zOwn B K (B + n)) D B n K I R s.heap H locs → lv_has ls 12 [(0, .ref (B + a0)), (1, .int x1), (2, .int x2), (3, .int x3), (4, .int x4), (5, .int x5), (6, .int x6), (7, .int x7)] → W p l e ({ frames := 3, cells := 0, slots := 0, locals := 86 } : Room) s m args below meth c H locs 0 0 (MQ below (zQi D (zOwn B K (B + n)) r B n K I' R) args s 0 0 (zOwn B K (B + n))) (F0 m 20 ls []) := by
    intro t
    induction t with
    | zero =>
      intro I x1 x2 x3 x4 x5 x6 x7 H locs ls hf hW hl
      cases hf
    | succ t ih =>
      intro I x1 x2 x3 x4 x5 x6 x7 H locs ls hf hW hl
      exact wg_X7_pushesAligned_20 X hr hlk hK0  ih hf hW hl
  exact key t _ _ _ _ _ _ _ _ _ _ _ hf hW hl
set_option maxRecDepth 100000 in
set_option maxHeartbeats 4000000 in
theorem c_X7_pushesAligned (l : Launch) (D : zD) (B n : Nat) {F : Nat} {K : zK} {I : zI} {R : zR} {a0 : Nat} {x1 : Int32} {x2 : Int32} {x3 : Int32} {x4 : Int32} {r : Int32} {I' : zI} (hK0 : (K a0).1 = 17) (hf : f_X7_pushesAligned F K I R a0 x1 x2 x3 x4 = some (r, I')) : zM l yX7_pushesAligned cX7_pushesAligned 12 (some .int) ({ frames := 3, cells := 0, slots := 0, locals := 86 } : Room) D B n K I R [.ref (B + a0), .int x1, .int x2, .int x3, .int x4] (zQi D (zOwn B K (B + n)) r B n K I' R) := by
  refine ze_entry (lv0 := [(0, .ref (B + a0)), (1, .int x1), (2, .int x2), (3, .int x3), (4, .int x4)]) (by decide) (by simp [lg_sl, zcat, zcat_i, zcat_r, zcat_l]) (by simp [lv_args, zcat, zcat_i, zcat_r, zcat_l]) (fun p e s m below meth c X hr hlk hin hW ls hl => ?_)
  unfold f_X7_pushesAligned at hf
  refine lv_aload_n X.1 X.2.1 dX7_pushesAligned_0 rfl (lv_at hl 0 rfl) ?_
  refine lv_iload_n X.1 X.2.1 dX7_pushesAligned_1 rfl (lv_at hl 1 rfl) ?_
  refine lv_iload_n X.1 X.2.1 dX7_pushesAligned_2 rfl (lv_at hl 2 rfl) ?_
  obtain ⟨v56, h57, hg⟩ := zh_bd hf
  replace hf := hg
  refine ze_aftI0 (ze_runV (As := [.int x1, .int x2]) (rest := []) X 7 111 (c_X7_arguments l D B n hK0 h57) vX7_arguments kml_X7_111 hW hK0 rfl rfl ⟨by decide, by decide⟩ rfl hl.1 rfl (Nat.le_of_ble_eq_true rfl) ⟨Nat.le_refl _, Nat.le_refl _⟩ dX7_pushesAligned_3) hW (fun H locs hV => ?_)
  replace hW := hV
  refine lv_istore (lv' := [(5, .int v56), (0, .ref (B + a0)), (1, .int x1), (2, .int x2), (3, .int x3), (4, .int x4)]) X.1 X.2.1 dX7_pushesAligned_6 hl (by decide) rfl (fun ls hk => ?_)
  replace hl := hk
  refine lv_aload_n X.1 X.2.1 dX7_pushesAligned_8 rfl (lv_at hl 1 rfl) ?_
  refine lv_iload_n X.1 X.2.1 dX7_pushesAligned_9 rfl (lv_at hl 4 rfl) ?_
  refine lv_iload X.1 X.2.1 dX7_pushesAligned_10 (lv_at hl 5 rfl) ?_
  obtain ⟨v58, h59, hg⟩ := zh_bd hf
  replace hf := hg
  refine ze_aftI0 (ze_runV (As := [.int x3, .int x4]) (rest := []) X 7 111 (c_X7_arguments l D B n hK0 h59) vX7_arguments kml_X7_111 hW hK0 rfl rfl ⟨by decide, by decide⟩ rfl hl.1 rfl (Nat.le_of_ble_eq_true rfl) ⟨Nat.le_refl _, Nat.le_refl _⟩ dX7_pushesAligned_12) hW (fun H locs hV => ?_)
  replace hW := hV
  refine lv_istore (lv' := [(6, .int v58), (5, .int v56), (0, .ref (B + a0)), (1, .int x1), (2, .int x2), (3, .int x3), (4, .int x4)]) X.1 X.2.1 dX7_pushesAligned_15 hl (by decide) rfl (fun ls hk => ?_)
  replace hl := hk
  refine lv_iconst (v := 0) X.1 X.2.1 dX7_pushesAligned_17 (by decide) ?_
  refine lv_istore (lv' := [(7, .int (0 : Int32)), (6, .int v58), (5, .int v56), (0, .ref (B + a0)), (1, .int x1), (2, .int x2), (3, .int x3), (4, .int x4)]) X.1 X.2.1 dX7_pushesAligned_18 hl (by decide) rfl (fun ls hk => ?_)
  replace hl := hk
  exact w_X7_pushesAligned_20 X hr hlk hK0 hf hW (lv_sub hl [3, 4, 5, 6, 7, 2, 1, 0] rfl)
end

/-! LeastPatternsModel.joinsNext(III)Z -/
def f_X7_joinsNext_398 (F : Nat) (K : zK) (R : zR) (a0 : Nat)  (I : zI) (x1 : Int32) (x2 : Int32) (x3 : Int32) (x4 : Int32) (x5 : Int32) : Option (Int32 × zI) :=
  zbd (some (R a0 5)) fun o1 =>
  zbd (zdr K o1 1) fun a2 =>
  zbd (zrd K I a2 x4) fun v5 =>
  zbd (some (R a0 6)) fun o6 =>
  zbd (zdr K o6 1) fun a7 =>
  zbd (zrd K I a7 x5) fun v10 =>
  zbd2 (f_X7_holeFor F K I R a0 (1 : Int32) x1 x4 v5 x2 x5 v10) fun v11 I12 =>
  zbd (some (R a0 0)) fun o14 =>
  zbd (zdr K o14 1) fun a15 =>
  zbd (zrd K I12 a15 x3) fun v18 =>
  zbd (f_X7_writes F K I12 R a0 x3 v18 (1 : Int32) v11 (0 : Int32)) fun I19 =>
  if v11 = (-9 : Int32) then
    some ((0 : Int32), I19)
  else
    some ((1 : Int32), I19)
def f_X7_joinsNext_304 (F : Nat) (K : zK) (R : zR) (a0 : Nat)  (I : zI) (x1 : Int32) (x2 : Int32) (x3 : Int32) (x4 : Int32) (x5 : Int32) (x6 : Int32) (x8 : Int32) (x9 : Int32) : Option (Int32 × zI) :=
  if x9 = (0 : Int32) then
    f_X7_joinsNext_398 F K R a0 I x1 x2 x3 x4 x5
  else
    zbd (f_X7_isAlike F K I R a0 x1 x4 x2 x5) fun v23 =>
    if v23 = (0 : Int32) then
      zbd (some (R a0 0)) fun o26 =>
      zbd (zdr K o26 1) fun a27 =>
      zbd (zrd K I a27 (776 : Int32)) fun v30 =>
      if v30 = (1 : Int32) then
        if x8 = (0 : Int32) then
          f_X7_joinsNext_398 F K R a0 I x1 x2 x3 x4 x5
        else
          if x6 ≤ (0 : Int32) then
            f_X7_joinsNext_398 F K R a0 I x1 x2 x3 x4 x5
          else
            zbd2 (f_X7_holeFor F K I R a0 (2 : Int32) x1 x4 (1 : Int32) x2 x5 (1 : Int32)) fun v34 I35 =>
            zbd (some (R a0 0)) fun o37 =>
            zbd (zdr K o37 1) fun a38 =>
            zbd (zrd K I35 a38 x3) fun v41 =>
            zbd (f_X7_writes F K I35 R a0 x3 v41 (2 : Int32) v34 x6) fun I42 =>
            zbd (f_X7_pushesEven F K I42 R a0 x4 x5 x6) fun I44 =>
            if v34 = (-9 : Int32) then
              some ((0 : Int32), I44)
            else
              some ((1 : Int32), I44)
      else
        f_X7_joinsNext_398 F K R a0 I x1 x2 x3 x4 x5
    else
      f_X7_joinsNext_398 F K R a0 I x1 x2 x3 x4 x5
def f_X7_joinsNext_273 (F : Nat) (K : zK) (R : zR) (a0 : Nat)  (I : zI) (x1 : Int32) (x2 : Int32) (x3 : Int32) (x4 : Int32) (x5 : Int32) : Option (Int32 × zI) :=
  zbd (some (R a0 0)) fun o47 =>
  zbd (zdr K o47 1) fun a48 =>
  zbd (zrd K I a48 x3) fun v51 =>
  zbd (f_X7_number F K I R a0 x1 x4) fun v52 =>
  zbd2 (f_X7_pushesAligned F K I R a0 x1 x4 x2 x5) fun v54 I55 =>
  zbd (f_X7_writes F K I55 R a0 x3 v51 (0 : Int32) v52 v54) fun I57 =>
  some ((1 : Int32), I57)
def f_X7_joinsNext_243 (F : Nat) (K : zK) (R : zR) (a0 : Nat)  (I : zI) (x1 : Int32) (x2 : Int32) (x3 : Int32) (x4 : Int32) (x5 : Int32) (x6 : Int32) (x7 : Int32) (x8 : Int32) (x9 : Int32) : Option (Int32 × zI) :=
  zbd (f_X7_isAlike F K I R a0 x1 x4 x2 x5) fun v59 =>
  if v59 = (0 : Int32) then
    f_X7_joinsNext_304 F K R a0 I x1 x2 x3 x4 x5 x6 x8 x9
  else
    zbd (some (R a0 0)) fun o62 =>
    zbd (zdr K o62 1) fun a63 =>
    zbd (zrd K I a63 (777 : Int32)) fun v66 =>
    if v66 = (1 : Int32) then
      f_X7_joinsNext_273 F K R a0 I x1 x2 x3 x4 x5
    else
      if x7 = (0 : Int32) then
        f_X7_joinsNext_304 F K R a0 I x1 x2 x3 x4 x5 x6 x8 x9
      else
        f_X7_joinsNext_273 F K R a0 I x1 x2 x3 x4 x5
def f_X7_joinsNext_190 (F : Nat) (K : zK) (R : zR) (a0 : Nat)  (I : zI) (x1 : Int32) (x2 : Int32) (x3 : Int32) (x4 : Int32) (x5 : Int32) (x6 : Int32) (x7 : Int32) (x8 : Int32) (s0 : Int32) : Option (Int32 × zI) :=
  zbd (f_X7_isAlike F K I R a0 x1 x4 x2 x5) fun v69 =>
  if v69 = (0 : Int32) then
    f_X7_joinsNext_243 F K R a0 I x1 x2 x3 x4 x5 x6 x7 x8 s0
  else
    if x8 = (0 : Int32) then
      f_X7_joinsNext_243 F K R a0 I x1 x2 x3 x4 x5 x6 x7 x8 s0
    else
      zbd (some (R a0 0)) fun o73 =>
      zbd (zdr K o73 1) fun a74 =>
      zbd (zrd K I a74 x3) fun v77 =>
      zbd (f_X7_number F K I R a0 x1 x4) fun v78 =>
      zbd (f_X7_writes F K I R a0 x3 v77 (0 : Int32) v78 x6) fun I80 =>
      zbd (f_X7_pushesEven F K I80 R a0 x4 x5 x6) fun I82 =>
      some ((1 : Int32), I82)
def f_X7_joinsNext_189 (F : Nat) (K : zK) (R : zR) (a0 : Nat)  (I : zI) (x1 : Int32) (x2 : Int32) (x3 : Int32) (x4 : Int32) (x5 : Int32) (x6 : Int32) (x7 : Int32) (x8 : Int32) : Option (Int32 × zI) :=
  f_X7_joinsNext_190 F K R a0 I x1 x2 x3 x4 x5 x6 x7 x8 (0 : Int32)
def f_X7_joinsNext_163 (F : Nat) (K : zK) (R : zR) (a0 : Nat)  (I : zI) (x1 : Int32) (x2 : Int32) (x3 : Int32) (x4 : Int32) (x5 : Int32) (x6 : Int32) (x7 : Int32) (s0 : Int32) : Option (Int32 × zI) :=
  zbd (f_X7_sort F K I R a0 x1 x4) fun v84 =>
  if v84 = (0 : Int32) then
    zbd (f_X7_sort F K I R a0 x2 x5) fun v87 =>
    if v87 = (0 : Int32) then
      f_X7_joinsNext_190 F K R a0 I x1 x2 x3 x4 x5 x6 x7 s0 (1 : Int32)
    else
      f_X7_joinsNext_189 F K R a0 I x1 x2 x3 x4 x5 x6 x7 s0
  else
    f_X7_joinsNext_189 F K R a0 I x1 x2 x3 x4 x5 x6 x7 s0
def f_X7_joinsNext_162 (F : Nat) (K : zK) (R : zR) (a0 : Nat)  (I : zI) (x1 : Int32) (x2 : Int32) (x3 : Int32) (x4 : Int32) (x5 : Int32) (x6 : Int32) (x7 : Int32) : Option (Int32 × zI) :=
  f_X7_joinsNext_163 F K R a0 I x1 x2 x3 x4 x5 x6 x7 (0 : Int32)
def f_X7_joinsNext_139 (F : Nat) (K : zK) (R : zR) (a0 : Nat)  (I : zI) (x1 : Int32) (x2 : Int32) (x3 : Int32) (x4 : Int32) (x5 : Int32) (x6 : Int32) (s0 : Int32) : Option (Int32 × zI) :=
  zbd (f_X7_arguments F K I R a0 x2 x5) fun v90 =>
  if x6 = v90 then
    if s0 = (0 : Int32) then
      f_X7_joinsNext_163 F K R a0 I x1 x2 x3 x4 x5 x6 s0 (1 : Int32)
    else
      f_X7_joinsNext_162 F K R a0 I x1 x2 x3 x4 x5 x6 s0
  else
    f_X7_joinsNext_162 F K R a0 I x1 x2 x3 x4 x5 x6 s0
def f_X7_joinsNext_134 (F : Nat) (K : zK) (R : zR) (a0 : Nat)  (I : zI) (x1 : Int32) (x2 : Int32) (x3 : Int32) (x4 : Int32) (x5 : Int32) (x6 : Int32) : Option (Int32 × zI) :=
  f_X7_joinsNext_139 F K R a0 I x1 x2 x3 x4 x5 x6 (1 : Int32)
def f_X7_joinsNext (F : Nat) (K : zK) (I : zI) (R : zR) (a0 : Nat) (x1 : Int32) (x2 : Int32) (x3 : Int32) : Option (Int32 × zI) :=
  zbd (some (R a0 25)) fun o94 =>
  zbd (zdr K o94 1) fun a95 =>
  zbd (zrd K I a95 (I a0 29)) fun v98 =>
  zbd (some (R a0 26)) fun o99 =>
  zbd (zdr K o99 1) fun a100 =>
  zbd (zrd K I a100 (I a0 29)) fun v103 =>
  zbd (some (R a0 24)) fun o104 =>
  zbd (zdr K o104 2) fun a105 =>
  zbd (zrd K I a105 (I a0 29)) fun v108 =>
  if v108 = (0 : Int32) then
    zbd (f_X7_arguments F K I R a0 x1 v98) fun v110 =>
    zbd (some (R a0 5)) fun o112 =>
    zbd (f_X7_sequenceOf F K I R a0 x1 v98 o112) fun v113 =>
    if v113 = (-9 : Int32) then
      zbd (some (R a0 6)) fun o116 =>
      zbd (f_X7_sequenceOf F K I R a0 x2 v103 o116) fun v117 =>
      if v117 = (-9 : Int32) then
        f_X7_joinsNext_139 F K R a0 I x1 x2 x3 v98 v103 v110 (0 : Int32)
      else
        f_X7_joinsNext_134 F K R a0 I x1 x2 x3 v98 v103 v110
    else
      f_X7_joinsNext_134 F K R a0 I x1 x2 x3 v98 v103 v110
  else
    zbd (some (R a0 27)) fun o120 =>
    zbd (zdr K o120 1) fun a121 =>
    zbd (zrd K I a121 (I a0 29)) fun v124 =>
    zbd (some (R a0 28)) fun o125 =>
    zbd (zdr K o125 1) fun a126 =>
    zbd (zrd K I a126 (I a0 29)) fun v129 =>
    zbd2 (f_X7_holeFor F K I R a0 (3 : Int32) x1 v98 v124 x2 v103 v129) fun v130 I131 =>
    zbd (some (R a0 0)) fun o133 =>
    zbd (zdr K o133 1) fun a134 =>
    zbd (zrd K I131 a134 x3) fun v137 =>
    zbd (f_X7_writes F K I131 R a0 x3 v137 (3 : Int32) v130 (0 : Int32)) fun I138 =>
    if v130 = (-9 : Int32) then
      some ((0 : Int32), I138)
    else
      some ((1 : Int32), I138)
section
variable {p : Program} {l : Launch} {e : Env} {s : State} {m : MethodId} {args : Array Value} {below : List Frame} {meth : Method} {c : Code} {D : zD} {B n n0 n' fd ld : Nat} {K K0 K' : zK} {I I' : zI} {R R' : zR} {H : Heap} {locs : List Loc} {ls : Array Slot} {r : Int32}
set_option maxRecDepth 100000 in
set_option maxHeartbeats 4000000 in
theorem w_X7_joinsNext_398 {F : Nat} {a0 : Nat}  (X : zX p s m c cX7_joinsNext 11 RX7 D) (hr : meth.sig.returnType = some .boolean) (hlk : meth.locks = false) (hK0 : (K a0).1 = 17)  {x1 : Int32} {x2 : Int32} {x3 : Int32} {x4 : Int32} {x5 : Int32} (hf : f_X7_joinsNext_398 F K R a0  I x1 x2 x3 x4 x5 = some (r, I')) (hW : zS (zOwn B K (B + n)) D B n K I R s.heap H locs) (hl : lv_has ls 11 [(0, .ref (B + a0)), (1, .int x1), (2, .int x2), (3, .int x3), (4, .int x4), (5, .int x5)]) : W p l e ({ frames := 4, cells := 0, slots := 0, locals := 123 } : Room) s m args below meth c H locs 0 0 (MQ below (zQi D (zOwn B K (B + n)) r B n K I' R) args s 0 0 (zOwn B K (B + n))) (F0 m 398 ls []) := by
  unfold f_X7_joinsNext_398 at hf
  refine lv_aload_n X.1 X.2.1 dX7_joinsNext_398 rfl (lv_at hl 0 rfl) ?_
  refine lv_iconst (v := 1) X.1 X.2.1 dX7_joinsNext_399 (by decide) ?_
  refine lv_iload_n X.1 X.2.1 dX7_joinsNext_400 rfl (lv_at hl 1 rfl) ?_
  refine lv_iload X.1 X.2.1 dX7_joinsNext_401 (lv_at hl 4 rfl) ?_
  refine lv_aload_n X.1 X.2.1 dX7_joinsNext_403 rfl (lv_at hl 0 rfl) ?_
  refine ze_gtR X 7 5 20 (RX7, TX7, 39) rfl hf hW hK0 rfl (by decide) kfl_X7_20 dX7_joinsNext_404 (fun o1 hg => ?_)
  replace hf := hg
  refine lv_iload X.1 X.2.1 dX7_joinsNext_407 (lv_at hl 4 rfl) ?_
  obtain ⟨a2, rfl, k4, hg⟩ := zh_dr hf
  replace hf := hg
  refine ze_iald X hf hW k4 dX7_joinsNext_409 (fun v5 hg => ?_)
  replace hf := hg
  refine lv_iload_n X.1 X.2.1 dX7_joinsNext_410 rfl (lv_at hl 2 rfl) ?_
  refine lv_iload X.1 X.2.1 dX7_joinsNext_411 (lv_at hl 5 rfl) ?_
  refine lv_aload_n X.1 X.2.1 dX7_joinsNext_413 rfl (lv_at hl 0 rfl) ?_
  refine ze_gtR X 7 6 23 (RX7, TX7, 39) rfl hf hW hK0 rfl (by decide) kfl_X7_23 dX7_joinsNext_414 (fun o6 hg => ?_)
  replace hf := hg
  refine lv_iload X.1 X.2.1 dX7_joinsNext_417 (lv_at hl 5 rfl) ?_
  obtain ⟨a7, rfl, k9, hg⟩ := zh_dr hf
  replace hf := hg
  refine ze_iald X hf hW k9 dX7_joinsNext_419 (fun v10 hg => ?_)
  replace hf := hg
  obtain ⟨v11, I12, h13, hg⟩ := zh_bd2 hf
  replace hf := hg
  refine ze_aftI0 (ze_runV (As := [.int (1 : Int32), .int x1, .int x4, .int v5, .int x2, .int x5, .int v10]) (rest := []) X 7 242 (c_X7_holeFor l D B n hK0 h13) vX7_holeFor kml_X7_242 hW hK0 rfl rfl ⟨by decide, by decide⟩ rfl hl.1 rfl (Nat.le_of_ble_eq_true rfl) ⟨Nat.le_refl _, Nat.le_refl _⟩ dX7_joinsNext_420) hW (fun H locs hV => ?_)
  replace hW := hV
  refine lv_istore (lv' := [(10, .int v11), (0, .ref (B + a0)), (1, .int x1), (2, .int x2), (3, .int x3), (4, .int x4), (5, .int x5)]) X.1 X.2.1 dX7_joinsNext_423 hl (by decide) rfl (fun ls hk => ?_)
  replace hl := hk
  refine lv_aload_n X.1 X.2.1 dX7_joinsNext_425 rfl (lv_at hl 1 rfl) ?_
  refine lv_iload_n X.1 X.2.1 dX7_joinsNext_426 rfl (lv_at hl 4 rfl) ?_
  refine lv_aload_n X.1 X.2.1 dX7_joinsNext_427 rfl (lv_at hl 1 rfl) ?_
  refine ze_gtR X 7 0 7 (RX7, TX7, 39) rfl hf hW hK0 rfl (by decide) kfl_X7_7 dX7_joinsNext_428 (fun o14 hg => ?_)
  replace hf := hg
  refine lv_iload_n X.1 X.2.1 dX7_joinsNext_431 rfl (lv_at hl 4 rfl) ?_
  obtain ⟨a15, rfl, k17, hg⟩ := zh_dr hf
  replace hf := hg
  refine ze_iald X hf hW k17 dX7_joinsNext_432 (fun v18 hg => ?_)
  replace hf := hg
  refine lv_iconst (v := 1) X.1 X.2.1 dX7_joinsNext_433 (by decide) ?_
  refine lv_iload X.1 X.2.1 dX7_joinsNext_434 (lv_at hl 0 rfl) ?_
  refine lv_iconst (v := 0) X.1 X.2.1 dX7_joinsNext_436 (by decide) ?_
  obtain ⟨I19, h20, hg⟩ := zh_bd hf
  replace hf := hg
  refine ze_aftV0 (ze_runV (As := [.int x3, .int v18, .int (1 : Int32), .int v11, .int (0 : Int32)]) (rest := []) X 7 143 (c_X7_writes l D B n hK0 h20) vX7_writes kml_X7_143 hW hK0 rfl rfl ⟨by decide, by decide⟩ rfl hl.1 rfl (Nat.le_of_ble_eq_true rfl) ⟨Nat.le_refl _, Nat.le_refl _⟩ dX7_joinsNext_437) hW (fun H locs hV => ?_)
  replace hW := hV
  refine lv_iload X.1 X.2.1 dX7_joinsNext_440 (lv_at hl 0 rfl) ?_
  refine lv_bipush (v := -9) X.1 X.2.1 dX7_joinsNext_442 (by decide) ?_
  refine lv_icmp_eq (tgt := 451) X.1 X.2.1 dX7_joinsNext_444 (by decide) (fun c21 => ?_) (fun c21 => ?_)
  · replace hf := zif_pos c21 hf
    refine lv_iconst (v := 0) X.1 X.2.1 dX7_joinsNext_451 (by decide) ?_
    obtain ⟨rfl, rfl⟩ := zi2 hf
    exact ze_retZ X hr hlk (by decide) hW (Nat.le_refl _) (Nat.le_refl _) dX7_joinsNext_452
  · replace hf := zif_neg c21 hf
    refine lv_iconst (v := 1) X.1 X.2.1 dX7_joinsNext_447 (by decide) ?_
    refine lv_goto (tgt := 452) X.1 X.2.1 dX7_joinsNext_448 (by decide) ?_
    obtain ⟨rfl, rfl⟩ := zi2 hf
    exact ze_retZ X hr hlk (by decide) hW (Nat.le_refl _) (Nat.le_refl _) dX7_joinsNext_452
set_option maxRecDepth 100000 in
set_option maxHeartbeats 4000000 in
theorem w_X7_joinsNext_304 {F : Nat} {a0 : Nat}  (X : zX p s m c cX7_joinsNext 11 RX7 D) (hr : meth.sig.returnType = some .boolean) (hlk : meth.locks = false) (hK0 : (K a0).1 = 17)  {x1 : Int32} {x2 : Int32} {x3 : Int32} {x4 : Int32} {x5 : Int32} {x6 : Int32} {x8 : Int32} {x9 : Int32} (hf : f_X7_joinsNext_304 F K R a0  I x1 x2 x3 x4 x5 x6 x8 x9 = some (r, I')) (hW : zS (zOwn B K (B + n)) D B n K I R s.heap H locs) (hl : lv_has ls 11 [(0, .ref (B + a0)), (1, .int x1), (2, .int x2), (3, .int x3), (4, .int x4), (5, .int x5), (6, .int x6), (8, .int x8), (9, .int x9)]) : W p l e ({ frames := 4, cells := 0, slots := 0, locals := 123 } : Room) s m args below meth c H locs 0 0 (MQ below (zQi D (zOwn B K (B + n)) r B n K I' R) args s 0 0 (zOwn B K (B + n))) (F0 m 304 ls []) := by
  unfold f_X7_joinsNext_304 at hf
  refine lv_iload X.1 X.2.1 dX7_joinsNext_304 (lv_at hl 8 rfl) ?_
  refine lv_if_eq (tgt := 398) X.1 X.2.1 dX7_joinsNext_306 (by decide) (fun c22 => ?_) (fun c22 => ?_)
  · replace hf := zif_pos c22 hf
    exact w_X7_joinsNext_398 X hr hlk hK0 hf hW (lv_sub hl [0, 1, 2, 3, 4, 5] rfl)
  · replace hf := zif_neg c22 hf
    refine lv_aload_n X.1 X.2.1 dX7_joinsNext_309 rfl (lv_at hl 0 rfl) ?_
    refine lv_iload_n X.1 X.2.1 dX7_joinsNext_310 rfl (lv_at hl 1 rfl) ?_
    refine lv_iload X.1 X.2.1 dX7_joinsNext_311 (lv_at hl 4 rfl) ?_
    refine lv_iload_n X.1 X.2.1 dX7_joinsNext_313 rfl (lv_at hl 2 rfl) ?_
    refine lv_iload X.1 X.2.1 dX7_joinsNext_314 (lv_at hl 5 rfl) ?_
    obtain ⟨v23, h24, hg⟩ := zh_bd hf
    replace hf := hg
    refine ze_aftI0 (ze_runV (As := [.int x1, .int x4, .int x2, .int x5]) (rest := []) X 7 235 (c_X7_isAlike l D B n hK0 h24) vX7_isAlike kml_X7_235 hW hK0 rfl rfl ⟨by decide, by decide⟩ rfl hl.1 rfl (Nat.le_of_ble_eq_true rfl) ⟨Nat.le_refl _, Nat.le_refl _⟩ dX7_joinsNext_316) hW (fun H locs hV => ?_)
    replace hW := hV
    refine lv_if_ne (tgt := 398) X.1 X.2.1 dX7_joinsNext_319 (by decide) (fun c25 => ?_) (fun c25 => ?_)
    · replace hf := zif_neg c25 hf
      exact w_X7_joinsNext_398 X hr hlk hK0 hf hW (lv_sub hl [0, 1, 2, 3, 4, 5] rfl)
    · replace hf := zif_pos c25 hf
      refine lv_aload_n X.1 X.2.1 dX7_joinsNext_322 rfl (lv_at hl 0 rfl) ?_
      refine ze_gtR X 7 0 7 (RX7, TX7, 39) rfl hf hW hK0 rfl (by decide) kfl_X7_7 dX7_joinsNext_323 (fun o26 hg => ?_)
      replace hf := hg
      refine lv_sipush (v := 776) X.1 X.2.1 dX7_joinsNext_326 (by decide) ?_
      obtain ⟨a27, rfl, k29, hg⟩ := zh_dr hf
      replace hf := hg
      refine ze_iald X hf hW k29 dX7_joinsNext_329 (fun v30 hg => ?_)
      replace hf := hg
      refine lv_iconst (v := 1) X.1 X.2.1 dX7_joinsNext_330 (by decide) ?_
      refine lv_icmp_ne (tgt := 398) X.1 X.2.1 dX7_joinsNext_331 (by decide) (fun c31 => ?_) (fun c31 => ?_)
      · replace hf := zif_neg c31 hf
        exact w_X7_joinsNext_398 X hr hlk hK0 hf hW (lv_sub hl [0, 1, 2, 3, 4, 5] rfl)
      · replace hf := zif_pos c31 hf
        refine lv_iload X.1 X.2.1 dX7_joinsNext_334 (lv_at hl 7 rfl) ?_
        refine lv_if_eq (tgt := 398) X.1 X.2.1 dX7_joinsNext_336 (by decide) (fun c32 => ?_) (fun c32 => ?_)
        · replace hf := zif_pos c32 hf
          exact w_X7_joinsNext_398 X hr hlk hK0 hf hW (lv_sub hl [0, 1, 2, 3, 4, 5] rfl)
        · replace hf := zif_neg c32 hf
          refine lv_iload X.1 X.2.1 dX7_joinsNext_339 (lv_at hl 6 rfl) ?_
          refine lv_if_le (tgt := 398) X.1 X.2.1 dX7_joinsNext_341 (by decide) (fun c33 => ?_) (fun c33 => ?_)
          · replace hf := zif_pos c33 hf
            exact w_X7_joinsNext_398 X hr hlk hK0 hf hW (lv_sub hl [0, 1, 2, 3, 4, 5] rfl)
          · replace hf := zif_neg c33 hf
            refine lv_aload_n X.1 X.2.1 dX7_joinsNext_344 rfl (lv_at hl 0 rfl) ?_
            refine lv_iconst (v := 2) X.1 X.2.1 dX7_joinsNext_345 (by decide) ?_
            refine lv_iload_n X.1 X.2.1 dX7_joinsNext_346 rfl (lv_at hl 1 rfl) ?_
            refine lv_iload X.1 X.2.1 dX7_joinsNext_347 (lv_at hl 4 rfl) ?_
            refine lv_iconst (v := 1) X.1 X.2.1 dX7_joinsNext_349 (by decide) ?_
            refine lv_iload_n X.1 X.2.1 dX7_joinsNext_350 rfl (lv_at hl 2 rfl) ?_
            refine lv_iload X.1 X.2.1 dX7_joinsNext_351 (lv_at hl 5 rfl) ?_
            refine lv_iconst (v := 1) X.1 X.2.1 dX7_joinsNext_353 (by decide) ?_
            obtain ⟨v34, I35, h36, hg⟩ := zh_bd2 hf
            replace hf := hg
            refine ze_aftI0 (ze_runV (As := [.int (2 : Int32), .int x1, .int x4, .int (1 : Int32), .int x2, .int x5, .int (1 : Int32)]) (rest := []) X 7 242 (c_X7_holeFor l D B n hK0 h36) vX7_holeFor kml_X7_242 hW hK0 rfl rfl ⟨by decide, by decide⟩ rfl hl.1 rfl (Nat.le_of_ble_eq_true rfl) ⟨Nat.le_refl _, Nat.le_refl _⟩ dX7_joinsNext_354) hW (fun H locs hV => ?_)
            replace hW := hV
            refine lv_istore (lv' := [(10, .int v34), (0, .ref (B + a0)), (1, .int x1), (2, .int x2), (3, .int x3), (4, .int x4), (5, .int x5), (6, .int x6), (8, .int x8), (9, .int x9)]) X.1 X.2.1 dX7_joinsNext_357 hl (by decide) rfl (fun ls hk => ?_)
            replace hl := hk
            refine lv_aload_n X.1 X.2.1 dX7_joinsNext_359 rfl (lv_at hl 1 rfl) ?_
            refine lv_iload_n X.1 X.2.1 dX7_joinsNext_360 rfl (lv_at hl 4 rfl) ?_
            refine lv_aload_n X.1 X.2.1 dX7_joinsNext_361 rfl (lv_at hl 1 rfl) ?_
            refine ze_gtR X 7 0 7 (RX7, TX7, 39) rfl hf hW hK0 rfl (by decide) kfl_X7_7 dX7_joinsNext_362 (fun o37 hg => ?_)
            replace hf := hg
            refine lv_iload_n X.1 X.2.1 dX7_joinsNext_365 rfl (lv_at hl 4 rfl) ?_
            obtain ⟨a38, rfl, k40, hg⟩ := zh_dr hf
            replace hf := hg
            refine ze_iald X hf hW k40 dX7_joinsNext_366 (fun v41 hg => ?_)
            replace hf := hg
            refine lv_iconst (v := 2) X.1 X.2.1 dX7_joinsNext_367 (by decide) ?_
            refine lv_iload X.1 X.2.1 dX7_joinsNext_368 (lv_at hl 0 rfl) ?_
            refine lv_iload X.1 X.2.1 dX7_joinsNext_370 (lv_at hl 7 rfl) ?_
            obtain ⟨I42, h43, hg⟩ := zh_bd hf
            replace hf := hg
            refine ze_aftV0 (ze_runV (As := [.int x3, .int v41, .int (2 : Int32), .int v34, .int x6]) (rest := []) X 7 143 (c_X7_writes l D B n hK0 h43) vX7_writes kml_X7_143 hW hK0 rfl rfl ⟨by decide, by decide⟩ rfl hl.1 rfl (Nat.le_of_ble_eq_true rfl) ⟨Nat.le_refl _, Nat.le_refl _⟩ dX7_joinsNext_372) hW (fun H locs hV => ?_)
            replace hW := hV
            refine lv_aload_n X.1 X.2.1 dX7_joinsNext_375 rfl (lv_at hl 1 rfl) ?_
            refine lv_iload X.1 X.2.1 dX7_joinsNext_376 (lv_at hl 5 rfl) ?_
            refine lv_iload X.1 X.2.1 dX7_joinsNext_378 (lv_at hl 6 rfl) ?_
            refine lv_iload X.1 X.2.1 dX7_joinsNext_380 (lv_at hl 7 rfl) ?_
            obtain ⟨I44, h45, hg⟩ := zh_bd hf
            replace hf := hg
            refine ze_aftV0 (ze_runV (As := [.int x4, .int x5, .int x6]) (rest := []) X 7 246 (c_X7_pushesEven l D B n hK0 h45) vX7_pushesEven kml_X7_246 hW hK0 rfl rfl ⟨by decide, by decide⟩ rfl hl.1 rfl (Nat.le_of_ble_eq_true rfl) ⟨Nat.le_refl _, Nat.le_refl _⟩ dX7_joinsNext_382) hW (fun H locs hV => ?_)
            replace hW := hV
            refine lv_iload X.1 X.2.1 dX7_joinsNext_385 (lv_at hl 0 rfl) ?_
            refine lv_bipush (v := -9) X.1 X.2.1 dX7_joinsNext_387 (by decide) ?_
            refine lv_icmp_eq (tgt := 396) X.1 X.2.1 dX7_joinsNext_389 (by decide) (fun c46 => ?_) (fun c46 => ?_)
            · replace hf := zif_pos c46 hf
              refine lv_iconst (v := 0) X.1 X.2.1 dX7_joinsNext_396 (by decide) ?_
              obtain ⟨rfl, rfl⟩ := zi2 hf
              exact ze_retZ X hr hlk (by decide) hW (Nat.le_refl _) (Nat.le_refl _) dX7_joinsNext_397
            · replace hf := zif_neg c46 hf
              refine lv_iconst (v := 1) X.1 X.2.1 dX7_joinsNext_392 (by decide) ?_
              refine lv_goto (tgt := 397) X.1 X.2.1 dX7_joinsNext_393 (by decide) ?_
              obtain ⟨rfl, rfl⟩ := zi2 hf
              exact ze_retZ X hr hlk (by decide) hW (Nat.le_refl _) (Nat.le_refl _) dX7_joinsNext_397
set_option maxRecDepth 100000 in
set_option maxHeartbeats 4000000 in
theorem w_X7_joinsNext_273 {F : Nat} {a0 : Nat}  (X : zX p s m c cX7_joinsNext 11 RX7 D) (hr : meth.sig.returnType = some .boolean) (hlk : meth.locks = false) (hK0 : (K a0).1 = 17)  {x1 : Int32} {x2 : Int32} {x3 : Int32} {x4 : Int32} {x5 : Int32} (hf : f_X7_joinsNext_273 F K R a0  I x1 x2 x3 x4 x5 = some (r, I')) (hW : zS (zOwn B K (B + n)) D B n K I R s.heap H locs) (hl : lv_has ls 11 [(0, .ref (B + a0)), (1, .int x1), (2, .int x2), (3, .int x3), (4, .int x4), (5, .int x5)]) : W p l e ({ frames := 4, cells := 0, slots := 0, locals := 123 } : Room) s m args below meth c H locs 0 0 (MQ below (zQi D (zOwn B K (B + n)) r B n K I' R) args s 0 0 (zOwn B K (B + n))) (F0 m 273 ls []) := by
  unfold f_X7_joinsNext_273 at hf
  refine lv_aload_n X.1 X.2.1 dX7_joinsNext_273 rfl (lv_at hl 0 rfl) ?_
  refine lv_iload_n X.1 X.2.1 dX7_joinsNext_274 rfl (lv_at hl 3 rfl) ?_
  refine lv_aload_n X.1 X.2.1 dX7_joinsNext_275 rfl (lv_at hl 0 rfl) ?_
  refine ze_gtR X 7 0 7 (RX7, TX7, 39) rfl hf hW hK0 rfl (by decide) kfl_X7_7 dX7_joinsNext_276 (fun o47 hg => ?_)
  replace hf := hg
  refine lv_iload_n X.1 X.2.1 dX7_joinsNext_279 rfl (lv_at hl 3 rfl) ?_
  obtain ⟨a48, rfl, k50, hg⟩ := zh_dr hf
  replace hf := hg
  refine ze_iald X hf hW k50 dX7_joinsNext_280 (fun v51 hg => ?_)
  replace hf := hg
  refine lv_iconst (v := 0) X.1 X.2.1 dX7_joinsNext_281 (by decide) ?_
  refine lv_aload_n X.1 X.2.1 dX7_joinsNext_282 rfl (lv_at hl 0 rfl) ?_
  refine lv_iload_n X.1 X.2.1 dX7_joinsNext_283 rfl (lv_at hl 1 rfl) ?_
  refine lv_iload X.1 X.2.1 dX7_joinsNext_284 (lv_at hl 4 rfl) ?_
  obtain ⟨v52, h53, hg⟩ := zh_bd hf
  replace hf := hg
  refine ze_aftI0 (ze_runV (As := [.int x1, .int x4]) (rest := [.int (0 : Int32), .int v51, .int x3, .ref (B + a0)]) X 7 159 (c_X7_number l D B n hK0 h53) vX7_number kml_X7_159 hW hK0 rfl rfl ⟨by decide, by decide⟩ rfl hl.1 rfl (Nat.le_of_ble_eq_true rfl) ⟨Nat.le_refl _, Nat.le_refl _⟩ dX7_joinsNext_286) hW (fun H locs hV => ?_)
  replace hW := hV
  refine lv_aload_n X.1 X.2.1 dX7_joinsNext_289 rfl (lv_at hl 0 rfl) ?_
  refine lv_iload_n X.1 X.2.1 dX7_joinsNext_290 rfl (lv_at hl 1 rfl) ?_
  refine lv_iload X.1 X.2.1 dX7_joinsNext_291 (lv_at hl 4 rfl) ?_
  refine lv_iload_n X.1 X.2.1 dX7_joinsNext_293 rfl (lv_at hl 2 rfl) ?_
  refine lv_iload X.1 X.2.1 dX7_joinsNext_294 (lv_at hl 5 rfl) ?_
  obtain ⟨v54, I55, h56, hg⟩ := zh_bd2 hf
  replace hf := hg
  refine ze_aftI0 (ze_runV (As := [.int x1, .int x4, .int x2, .int x5]) (rest := [.int v52, .int (0 : Int32), .int v51, .int x3, .ref (B + a0)]) X 7 250 (c_X7_pushesAligned l D B n hK0 h56) vX7_pushesAligned kml_X7_250 hW hK0 rfl rfl ⟨by decide, by decide⟩ rfl hl.1 rfl (Nat.le_of_ble_eq_true rfl) ⟨Nat.le_refl _, Nat.le_refl _⟩ dX7_joinsNext_296) hW (fun H locs hV => ?_)
  replace hW := hV
  obtain ⟨I57, h58, hg⟩ := zh_bd hf
  replace hf := hg
  refine ze_aftV0 (ze_runV (As := [.int x3, .int v51, .int (0 : Int32), .int v52, .int v54]) (rest := []) X 7 143 (c_X7_writes l D B n hK0 h58) vX7_writes kml_X7_143 hW hK0 rfl rfl ⟨by decide, by decide⟩ rfl hl.1 rfl (Nat.le_of_ble_eq_true rfl) ⟨Nat.le_refl _, Nat.le_refl _⟩ dX7_joinsNext_299) hW (fun H locs hV => ?_)
  replace hW := hV
  refine lv_iconst (v := 1) X.1 X.2.1 dX7_joinsNext_302 (by decide) ?_
  obtain ⟨rfl, rfl⟩ := zi2 hf
  exact ze_retZ X hr hlk (by decide) hW (Nat.le_refl _) (Nat.le_refl _) dX7_joinsNext_303
set_option maxRecDepth 100000 in
set_option maxHeartbeats 4000000 in
theorem w_X7_joinsNext_243 {F : Nat} {a0 : Nat}  (X : zX p s m c cX7_joinsNext 11 RX7 D) (hr : meth.sig.returnType = some .boolean) (hlk : meth.locks = false) (hK0 : (K a0).1 = 17)  {x1 : Int32} {x2 : Int32} {x3 : Int32} {x4 : Int32} {x5 : Int32} {x6 : Int32} {x7 : Int32} {x8 : Int32} {x9 : Int32} (hf : f_X7_joinsNext_243 F K R a0  I x1 x2 x3 x4 x5 x6 x7 x8 x9 = some (r, I')) (hW : zS (zOwn B K (B + n)) D B n K I R s.heap H locs) (hl : lv_has ls 11 [(0, .ref (B + a0)), (1, .int x1), (2, .int x2), (3, .int x3), (4, .int x4), (5, .int x5), (6, .int x6), (7, .int x7), (8, .int x8), (9, .int x9)]) : W p l e ({ frames := 4, cells := 0, slots := 0, locals := 123 } : Room) s m args below meth c H locs 0 0 (MQ below (zQi D (zOwn B K (B + n)) r B n K I' R) args s 0 0 (zOwn B K (B + n))) (F0 m 243 ls []) := by
  unfold f_X7_joinsNext_243 at hf
  refine lv_aload_n X.1 X.2.1 dX7_joinsNext_243 rfl (lv_at hl 0 rfl) ?_
  refine lv_iload_n X.1 X.2.1 dX7_joinsNext_244 rfl (lv_at hl 1 rfl) ?_
  refine lv_iload X.1 X.2.1 dX7_joinsNext_245 (lv_at hl 4 rfl) ?_
  refine lv_iload_n X.1 X.2.1 dX7_joinsNext_247 rfl (lv_at hl 2 rfl) ?_
  refine lv_iload X.1 X.2.1 dX7_joinsNext_248 (lv_at hl 5 rfl) ?_
  obtain ⟨v59, h60, hg⟩ := zh_bd hf
  replace hf := hg
  refine ze_aftI0 (ze_runV (As := [.int x1, .int x4, .int x2, .int x5]) (rest := []) X 7 235 (c_X7_isAlike l D B n hK0 h60) vX7_isAlike kml_X7_235 hW hK0 rfl rfl ⟨by decide, by decide⟩ rfl hl.1 rfl (Nat.le_of_ble_eq_true rfl) ⟨Nat.le_refl _, Nat.le_refl _⟩ dX7_joinsNext_250) hW (fun H locs hV => ?_)
  replace hW := hV
  refine lv_if_eq (tgt := 304) X.1 X.2.1 dX7_joinsNext_253 (by decide) (fun c61 => ?_) (fun c61 => ?_)
  · replace hf := zif_pos c61 hf
    exact w_X7_joinsNext_304 X hr hlk hK0 hf hW (lv_sub hl [0, 1, 2, 3, 4, 5, 6, 8, 9] rfl)
  · replace hf := zif_neg c61 hf
    refine lv_aload_n X.1 X.2.1 dX7_joinsNext_256 rfl (lv_at hl 0 rfl) ?_
    refine ze_gtR X 7 0 7 (RX7, TX7, 39) rfl hf hW hK0 rfl (by decide) kfl_X7_7 dX7_joinsNext_257 (fun o62 hg => ?_)
    replace hf := hg
    refine lv_sipush (v := 777) X.1 X.2.1 dX7_joinsNext_260 (by decide) ?_
    obtain ⟨a63, rfl, k65, hg⟩ := zh_dr hf
    replace hf := hg
    refine ze_iald X hf hW k65 dX7_joinsNext_263 (fun v66 hg => ?_)
    replace hf := hg
    refine lv_iconst (v := 1) X.1 X.2.1 dX7_joinsNext_264 (by decide) ?_
    refine lv_icmp_eq (tgt := 273) X.1 X.2.1 dX7_joinsNext_265 (by decide) (fun c67 => ?_) (fun c67 => ?_)
    · replace hf := zif_pos c67 hf
      exact w_X7_joinsNext_273 X hr hlk hK0 hf hW (lv_sub hl [0, 1, 2, 3, 4, 5] rfl)
    · replace hf := zif_neg c67 hf
      refine lv_iload X.1 X.2.1 dX7_joinsNext_268 (lv_at hl 7 rfl) ?_
      refine lv_if_eq (tgt := 304) X.1 X.2.1 dX7_joinsNext_270 (by decide) (fun c68 => ?_) (fun c68 => ?_)
      · replace hf := zif_pos c68 hf
        exact w_X7_joinsNext_304 X hr hlk hK0 hf hW (lv_sub hl [0, 1, 2, 3, 4, 5, 6, 8, 9] rfl)
      · replace hf := zif_neg c68 hf
        exact w_X7_joinsNext_273 X hr hlk hK0 hf hW (lv_sub hl [0, 1, 2, 3, 4, 5] rfl)
set_option maxRecDepth 100000 in
set_option maxHeartbeats 4000000 in
theorem w_X7_joinsNext_190 {F : Nat} {a0 : Nat}  (X : zX p s m c cX7_joinsNext 11 RX7 D) (hr : meth.sig.returnType = some .boolean) (hlk : meth.locks = false) (hK0 : (K a0).1 = 17)  {x1 : Int32} {x2 : Int32} {x3 : Int32} {x4 : Int32} {x5 : Int32} {x6 : Int32} {x7 : Int32} {x8 : Int32} {s0 : Int32} (hf : f_X7_joinsNext_190 F K R a0  I x1 x2 x3 x4 x5 x6 x7 x8 s0 = some (r, I')) (hW : zS (zOwn B K (B + n)) D B n K I R s.heap H locs) (hl : lv_has ls 11 [(0, .ref (B + a0)), (1, .int x1), (2, .int x2), (3, .int x3), (4, .int x4), (5, .int x5), (6, .int x6), (7, .int x7), (8, .int x8)]) : W p l e ({ frames := 4, cells := 0, slots := 0, locals := 123 } : Room) s m args below meth c H locs 0 0 (MQ below (zQi D (zOwn B K (B + n)) r B n K I' R) args s 0 0 (zOwn B K (B + n))) (F0 m 190 ls [.int s0]) := by
  unfold f_X7_joinsNext_190 at hf
  refine lv_istore (lv' := [(9, .int s0), (0, .ref (B + a0)), (1, .int x1), (2, .int x2), (3, .int x3), (4, .int x4), (5, .int x5), (6, .int x6), (7, .int x7), (8, .int x8)]) X.1 X.2.1 dX7_joinsNext_190 hl (by decide) rfl (fun ls hk => ?_)
  replace hl := hk
  refine lv_aload_n X.1 X.2.1 dX7_joinsNext_192 rfl (lv_at hl 1 rfl) ?_
  refine lv_iload_n X.1 X.2.1 dX7_joinsNext_193 rfl (lv_at hl 2 rfl) ?_
  refine lv_iload X.1 X.2.1 dX7_joinsNext_194 (lv_at hl 5 rfl) ?_
  refine lv_iload_n X.1 X.2.1 dX7_joinsNext_196 rfl (lv_at hl 3 rfl) ?_
  refine lv_iload X.1 X.2.1 dX7_joinsNext_197 (lv_at hl 6 rfl) ?_
  obtain ⟨v69, h70, hg⟩ := zh_bd hf
  replace hf := hg
  refine ze_aftI0 (ze_runV (As := [.int x1, .int x4, .int x2, .int x5]) (rest := []) X 7 235 (c_X7_isAlike l D B n hK0 h70) vX7_isAlike kml_X7_235 hW hK0 rfl rfl ⟨by decide, by decide⟩ rfl hl.1 rfl (Nat.le_of_ble_eq_true rfl) ⟨Nat.le_refl _, Nat.le_refl _⟩ dX7_joinsNext_199) hW (fun H locs hV => ?_)
  replace hW := hV
  refine lv_if_eq (tgt := 243) X.1 X.2.1 dX7_joinsNext_202 (by decide) (fun c71 => ?_) (fun c71 => ?_)
  · replace hf := zif_pos c71 hf
    exact w_X7_joinsNext_243 X hr hlk hK0 hf hW (lv_sub hl [1, 2, 3, 4, 5, 6, 7, 8, 9, 0] rfl)
  · replace hf := zif_neg c71 hf
    refine lv_iload X.1 X.2.1 dX7_joinsNext_205 (lv_at hl 9 rfl) ?_
    refine lv_if_eq (tgt := 243) X.1 X.2.1 dX7_joinsNext_207 (by decide) (fun c72 => ?_) (fun c72 => ?_)
    · replace hf := zif_pos c72 hf
      exact w_X7_joinsNext_243 X hr hlk hK0 hf hW (lv_sub hl [1, 2, 3, 4, 5, 6, 7, 8, 9, 0] rfl)
    · replace hf := zif_neg c72 hf
      refine lv_aload_n X.1 X.2.1 dX7_joinsNext_210 rfl (lv_at hl 1 rfl) ?_
      refine lv_iload_n X.1 X.2.1 dX7_joinsNext_211 rfl (lv_at hl 4 rfl) ?_
      refine lv_aload_n X.1 X.2.1 dX7_joinsNext_212 rfl (lv_at hl 1 rfl) ?_
      refine ze_gtR X 7 0 7 (RX7, TX7, 39) rfl hf hW hK0 rfl (by decide) kfl_X7_7 dX7_joinsNext_213 (fun o73 hg => ?_)
      replace hf := hg
      refine lv_iload_n X.1 X.2.1 dX7_joinsNext_216 rfl (lv_at hl 4 rfl) ?_
      obtain ⟨a74, rfl, k76, hg⟩ := zh_dr hf
      replace hf := hg
      refine ze_iald X hf hW k76 dX7_joinsNext_217 (fun v77 hg => ?_)
      replace hf := hg
      refine lv_iconst (v := 0) X.1 X.2.1 dX7_joinsNext_218 (by decide) ?_
      refine lv_aload_n X.1 X.2.1 dX7_joinsNext_219 rfl (lv_at hl 1 rfl) ?_
      refine lv_iload_n X.1 X.2.1 dX7_joinsNext_220 rfl (lv_at hl 2 rfl) ?_
      refine lv_iload X.1 X.2.1 dX7_joinsNext_221 (lv_at hl 5 rfl) ?_
      obtain ⟨v78, h79, hg⟩ := zh_bd hf
      replace hf := hg
      refine ze_aftI0 (ze_runV (As := [.int x1, .int x4]) (rest := [.int (0 : Int32), .int v77, .int x3, .ref (B + a0)]) X 7 159 (c_X7_number l D B n hK0 h79) vX7_number kml_X7_159 hW hK0 rfl rfl ⟨by decide, by decide⟩ rfl hl.1 rfl (Nat.le_of_ble_eq_true rfl) ⟨Nat.le_refl _, Nat.le_refl _⟩ dX7_joinsNext_223) hW (fun H locs hV => ?_)
      replace hW := hV
      refine lv_iload X.1 X.2.1 dX7_joinsNext_226 (lv_at hl 7 rfl) ?_
      obtain ⟨I80, h81, hg⟩ := zh_bd hf
      replace hf := hg
      refine ze_aftV0 (ze_runV (As := [.int x3, .int v77, .int (0 : Int32), .int v78, .int x6]) (rest := []) X 7 143 (c_X7_writes l D B n hK0 h81) vX7_writes kml_X7_143 hW hK0 rfl rfl ⟨by decide, by decide⟩ rfl hl.1 rfl (Nat.le_of_ble_eq_true rfl) ⟨Nat.le_refl _, Nat.le_refl _⟩ dX7_joinsNext_228) hW (fun H locs hV => ?_)
      replace hW := hV
      refine lv_aload_n X.1 X.2.1 dX7_joinsNext_231 rfl (lv_at hl 1 rfl) ?_
      refine lv_iload X.1 X.2.1 dX7_joinsNext_232 (lv_at hl 5 rfl) ?_
      refine lv_iload X.1 X.2.1 dX7_joinsNext_234 (lv_at hl 6 rfl) ?_
      refine lv_iload X.1 X.2.1 dX7_joinsNext_236 (lv_at hl 7 rfl) ?_
      obtain ⟨I82, h83, hg⟩ := zh_bd hf
      replace hf := hg
      refine ze_aftV0 (ze_runV (As := [.int x4, .int x5, .int x6]) (rest := []) X 7 246 (c_X7_pushesEven l D B n hK0 h83) vX7_pushesEven kml_X7_246 hW hK0 rfl rfl ⟨by decide, by decide⟩ rfl hl.1 rfl (Nat.le_of_ble_eq_true rfl) ⟨Nat.le_refl _, Nat.le_refl _⟩ dX7_joinsNext_238) hW (fun H locs hV => ?_)
      replace hW := hV
      refine lv_iconst (v := 1) X.1 X.2.1 dX7_joinsNext_241 (by decide) ?_
      obtain ⟨rfl, rfl⟩ := zi2 hf
      exact ze_retZ X hr hlk (by decide) hW (Nat.le_refl _) (Nat.le_refl _) dX7_joinsNext_242
set_option maxRecDepth 100000 in
set_option maxHeartbeats 4000000 in
theorem w_X7_joinsNext_189 {F : Nat} {a0 : Nat}  (X : zX p s m c cX7_joinsNext 11 RX7 D) (hr : meth.sig.returnType = some .boolean) (hlk : meth.locks = false) (hK0 : (K a0).1 = 17)  {x1 : Int32} {x2 : Int32} {x3 : Int32} {x4 : Int32} {x5 : Int32} {x6 : Int32} {x7 : Int32} {x8 : Int32} (hf : f_X7_joinsNext_189 F K R a0  I x1 x2 x3 x4 x5 x6 x7 x8 = some (r, I')) (hW : zS (zOwn B K (B + n)) D B n K I R s.heap H locs) (hl : lv_has ls 11 [(0, .ref (B + a0)), (1, .int x1), (2, .int x2), (3, .int x3), (4, .int x4), (5, .int x5), (6, .int x6), (7, .int x7), (8, .int x8)]) : W p l e ({ frames := 4, cells := 0, slots := 0, locals := 123 } : Room) s m args below meth c H locs 0 0 (MQ below (zQi D (zOwn B K (B + n)) r B n K I' R) args s 0 0 (zOwn B K (B + n))) (F0 m 189 ls []) := by
  unfold f_X7_joinsNext_189 at hf
  refine lv_iconst (v := 0) X.1 X.2.1 dX7_joinsNext_189 (by decide) ?_
  exact w_X7_joinsNext_190 X hr hlk hK0 hf hW hl
set_option maxRecDepth 100000 in
set_option maxHeartbeats 4000000 in
theorem w_X7_joinsNext_163 {F : Nat} {a0 : Nat}  (X : zX p s m c cX7_joinsNext 11 RX7 D) (hr : meth.sig.returnType = some .boolean) (hlk : meth.locks = false) (hK0 : (K a0).1 = 17)  {x1 : Int32} {x2 : Int32} {x3 : Int32} {x4 : Int32} {x5 : Int32} {x6 : Int32} {x7 : Int32} {s0 : Int32} (hf : f_X7_joinsNext_163 F K R a0  I x1 x2 x3 x4 x5 x6 x7 s0 = some (r, I')) (hW : zS (zOwn B K (B + n)) D B n K I R s.heap H locs) (hl : lv_has ls 11 [(0, .ref (B + a0)), (1, .int x1), (2, .int x2), (3, .int x3), (4, .int x4), (5, .int x5), (6, .int x6), (7, .int x7)]) : W p l e ({ frames := 4, cells := 0, slots := 0, locals := 123 } : Room) s m args below meth c H locs 0 0 (MQ below (zQi D (zOwn B K (B + n)) r B n K I' R) args s 0 0 (zOwn B K (B + n))) (F0 m 163 ls [.int s0]) := by
  unfold f_X7_joinsNext_163 at hf
  refine lv_istore (lv' := [(8, .int s0), (0, .ref (B + a0)), (1, .int x1), (2, .int x2), (3, .int x3), (4, .int x4), (5, .int x5), (6, .int x6), (7, .int x7)]) X.1 X.2.1 dX7_joinsNext_163 hl (by decide) rfl (fun ls hk => ?_)
  replace hl := hk
  refine lv_aload_n X.1 X.2.1 dX7_joinsNext_165 rfl (lv_at hl 1 rfl) ?_
  refine lv_iload_n X.1 X.2.1 dX7_joinsNext_166 rfl (lv_at hl 2 rfl) ?_
  refine lv_iload X.1 X.2.1 dX7_joinsNext_167 (lv_at hl 5 rfl) ?_
  obtain ⟨v84, h85, hg⟩ := zh_bd hf
  replace hf := hg
  refine ze_aftI0 (ze_runV (As := [.int x1, .int x4]) (rest := []) X 7 119 (c_X7_sort l D B n hK0 h85) vX7_sort kml_X7_119 hW hK0 rfl rfl ⟨by decide, by decide⟩ rfl hl.1 rfl (Nat.le_of_ble_eq_true rfl) ⟨Nat.le_refl _, Nat.le_refl _⟩ dX7_joinsNext_169) hW (fun H locs hV => ?_)
  replace hW := hV
  refine lv_if_ne (tgt := 189) X.1 X.2.1 dX7_joinsNext_172 (by decide) (fun c86 => ?_) (fun c86 => ?_)
  · replace hf := zif_neg c86 hf
    exact w_X7_joinsNext_189 X hr hlk hK0 hf hW (lv_sub hl [1, 2, 3, 4, 5, 6, 7, 8, 0] rfl)
  · replace hf := zif_pos c86 hf
    refine lv_aload_n X.1 X.2.1 dX7_joinsNext_175 rfl (lv_at hl 1 rfl) ?_
    refine lv_iload_n X.1 X.2.1 dX7_joinsNext_176 rfl (lv_at hl 3 rfl) ?_
    refine lv_iload X.1 X.2.1 dX7_joinsNext_177 (lv_at hl 6 rfl) ?_
    obtain ⟨v87, h88, hg⟩ := zh_bd hf
    replace hf := hg
    refine ze_aftI0 (ze_runV (As := [.int x2, .int x5]) (rest := []) X 7 119 (c_X7_sort l D B n hK0 h88) vX7_sort kml_X7_119 hW hK0 rfl rfl ⟨by decide, by decide⟩ rfl hl.1 rfl (Nat.le_of_ble_eq_true rfl) ⟨Nat.le_refl _, Nat.le_refl _⟩ dX7_joinsNext_179) hW (fun H locs hV => ?_)
    replace hW := hV
    refine lv_if_ne (tgt := 189) X.1 X.2.1 dX7_joinsNext_182 (by decide) (fun c89 => ?_) (fun c89 => ?_)
    · replace hf := zif_neg c89 hf
      exact w_X7_joinsNext_189 X hr hlk hK0 hf hW (lv_sub hl [1, 2, 3, 4, 5, 6, 7, 8, 0] rfl)
    · replace hf := zif_pos c89 hf
      refine lv_iconst (v := 1) X.1 X.2.1 dX7_joinsNext_185 (by decide) ?_
      refine lv_goto (tgt := 190) X.1 X.2.1 dX7_joinsNext_186 (by decide) ?_
      exact w_X7_joinsNext_190 X hr hlk hK0 hf hW (lv_sub hl [1, 2, 3, 4, 5, 6, 7, 8, 0] rfl)
set_option maxRecDepth 100000 in
set_option maxHeartbeats 4000000 in
theorem w_X7_joinsNext_162 {F : Nat} {a0 : Nat}  (X : zX p s m c cX7_joinsNext 11 RX7 D) (hr : meth.sig.returnType = some .boolean) (hlk : meth.locks = false) (hK0 : (K a0).1 = 17)  {x1 : Int32} {x2 : Int32} {x3 : Int32} {x4 : Int32} {x5 : Int32} {x6 : Int32} {x7 : Int32} (hf : f_X7_joinsNext_162 F K R a0  I x1 x2 x3 x4 x5 x6 x7 = some (r, I')) (hW : zS (zOwn B K (B + n)) D B n K I R s.heap H locs) (hl : lv_has ls 11 [(0, .ref (B + a0)), (1, .int x1), (2, .int x2), (3, .int x3), (4, .int x4), (5, .int x5), (6, .int x6), (7, .int x7)]) : W p l e ({ frames := 4, cells := 0, slots := 0, locals := 123 } : Room) s m args below meth c H locs 0 0 (MQ below (zQi D (zOwn B K (B + n)) r B n K I' R) args s 0 0 (zOwn B K (B + n))) (F0 m 162 ls []) := by
  unfold f_X7_joinsNext_162 at hf
  refine lv_iconst (v := 0) X.1 X.2.1 dX7_joinsNext_162 (by decide) ?_
  exact w_X7_joinsNext_163 X hr hlk hK0 hf hW hl
set_option maxRecDepth 100000 in
set_option maxHeartbeats 4000000 in
theorem w_X7_joinsNext_139 {F : Nat} {a0 : Nat}  (X : zX p s m c cX7_joinsNext 11 RX7 D) (hr : meth.sig.returnType = some .boolean) (hlk : meth.locks = false) (hK0 : (K a0).1 = 17)  {x1 : Int32} {x2 : Int32} {x3 : Int32} {x4 : Int32} {x5 : Int32} {x6 : Int32} {s0 : Int32} (hf : f_X7_joinsNext_139 F K R a0  I x1 x2 x3 x4 x5 x6 s0 = some (r, I')) (hW : zS (zOwn B K (B + n)) D B n K I R s.heap H locs) (hl : lv_has ls 11 [(0, .ref (B + a0)), (1, .int x1), (2, .int x2), (3, .int x3), (4, .int x4), (5, .int x5), (6, .int x6)]) : W p l e ({ frames := 4, cells := 0, slots := 0, locals := 123 } : Room) s m args below meth c H locs 0 0 (MQ below (zQi D (zOwn B K (B + n)) r B n K I' R) args s 0 0 (zOwn B K (B + n))) (F0 m 139 ls [.int s0]) := by
  unfold f_X7_joinsNext_139 at hf
  refine lv_istore (lv' := [(7, .int s0), (0, .ref (B + a0)), (1, .int x1), (2, .int x2), (3, .int x3), (4, .int x4), (5, .int x5), (6, .int x6)]) X.1 X.2.1 dX7_joinsNext_139 hl (by decide) rfl (fun ls hk => ?_)
  replace hl := hk
  refine lv_iload X.1 X.2.1 dX7_joinsNext_141 (lv_at hl 7 rfl) ?_
  refine lv_aload_n X.1 X.2.1 dX7_joinsNext_143 rfl (lv_at hl 1 rfl) ?_
  refine lv_iload_n X.1 X.2.1 dX7_joinsNext_144 rfl (lv_at hl 3 rfl) ?_
  refine lv_iload X.1 X.2.1 dX7_joinsNext_145 (lv_at hl 6 rfl) ?_
  obtain ⟨v90, h91, hg⟩ := zh_bd hf
  replace hf := hg
  refine ze_aftI0 (ze_runV (As := [.int x2, .int x5]) (rest := [.int x6]) X 7 111 (c_X7_arguments l D B n hK0 h91) vX7_arguments kml_X7_111 hW hK0 rfl rfl ⟨by decide, by decide⟩ rfl hl.1 rfl (Nat.le_of_ble_eq_true rfl) ⟨Nat.le_refl _, Nat.le_refl _⟩ dX7_joinsNext_147) hW (fun H locs hV => ?_)
  replace hW := hV
  refine lv_icmp_ne (tgt := 162) X.1 X.2.1 dX7_joinsNext_150 (by decide) (fun c92 => ?_) (fun c92 => ?_)
  · replace hf := zif_neg c92 hf
    exact w_X7_joinsNext_162 X hr hlk hK0 hf hW (lv_sub hl [1, 2, 3, 4, 5, 6, 7, 0] rfl)
  · replace hf := zif_pos c92 hf
    refine lv_iload X.1 X.2.1 dX7_joinsNext_153 (lv_at hl 0 rfl) ?_
    refine lv_if_ne (tgt := 162) X.1 X.2.1 dX7_joinsNext_155 (by decide) (fun c93 => ?_) (fun c93 => ?_)
    · replace hf := zif_neg c93 hf
      exact w_X7_joinsNext_162 X hr hlk hK0 hf hW (lv_sub hl [1, 2, 3, 4, 5, 6, 7, 0] rfl)
    · replace hf := zif_pos c93 hf
      refine lv_iconst (v := 1) X.1 X.2.1 dX7_joinsNext_158 (by decide) ?_
      refine lv_goto (tgt := 163) X.1 X.2.1 dX7_joinsNext_159 (by decide) ?_
      exact w_X7_joinsNext_163 X hr hlk hK0 hf hW (lv_sub hl [1, 2, 3, 4, 5, 6, 7, 0] rfl)
set_option maxRecDepth 100000 in
set_option maxHeartbeats 4000000 in
theorem w_X7_joinsNext_134 {F : Nat} {a0 : Nat}  (X : zX p s m c cX7_joinsNext 11 RX7 D) (hr : meth.sig.returnType = some .boolean) (hlk : meth.locks = false) (hK0 : (K a0).1 = 17)  {x1 : Int32} {x2 : Int32} {x3 : Int32} {x4 : Int32} {x5 : Int32} {x6 : Int32} (hf : f_X7_joinsNext_134 F K R a0  I x1 x2 x3 x4 x5 x6 = some (r, I')) (hW : zS (zOwn B K (B + n)) D B n K I R s.heap H locs) (hl : lv_has ls 11 [(0, .ref (B + a0)), (1, .int x1), (2, .int x2), (3, .int x3), (4, .int x4), (5, .int x5), (6, .int x6)]) : W p l e ({ frames := 4, cells := 0, slots := 0, locals := 123 } : Room) s m args below meth c H locs 0 0 (MQ below (zQi D (zOwn B K (B + n)) r B n K I' R) args s 0 0 (zOwn B K (B + n))) (F0 m 134 ls []) := by
  unfold f_X7_joinsNext_134 at hf
  refine lv_iconst (v := 1) X.1 X.2.1 dX7_joinsNext_134 (by decide) ?_
  refine lv_goto (tgt := 139) X.1 X.2.1 dX7_joinsNext_135 (by decide) ?_
  exact w_X7_joinsNext_139 X hr hlk hK0 hf hW hl
set_option maxRecDepth 100000 in
set_option maxHeartbeats 4000000 in
theorem c_X7_joinsNext (l : Launch) (D : zD) (B n : Nat) {F : Nat} {K : zK} {I : zI} {R : zR} {a0 : Nat} {x1 : Int32} {x2 : Int32} {x3 : Int32} {r : Int32} {I' : zI} (hK0 : (K a0).1 = 17) (hf : f_X7_joinsNext F K I R a0 x1 x2 x3 = some (r, I')) : zM l yX7_joinsNext cX7_joinsNext 11 (some .boolean) ({ frames := 4, cells := 0, slots := 0, locals := 123 } : Room) D B n K I R [.ref (B + a0), .int x1, .int x2, .int x3] (zQi D (zOwn B K (B + n)) r B n K I' R) := by
  refine ze_entry (lv0 := [(0, .ref (B + a0)), (1, .int x1), (2, .int x2), (3, .int x3)]) (by decide) (by simp [lg_sl, zcat, zcat_i, zcat_r, zcat_l]) (by simp [lv_args, zcat, zcat_i, zcat_r, zcat_l]) (fun p e s m below meth c X hr hlk hin hW ls hl => ?_)
  unfold f_X7_joinsNext at hf
  refine lv_aload_n X.1 X.2.1 dX7_joinsNext_0 rfl (lv_at hl 0 rfl) ?_
  refine ze_gtR X 7 25 69 (RX7, TX7, 39) rfl hf hW hK0 rfl (by decide) kfl_X7_69 dX7_joinsNext_1 (fun o94 hg => ?_)
  replace hf := hg
  refine lv_aload_n X.1 X.2.1 dX7_joinsNext_4 rfl (lv_at hl 0 rfl) ?_
  refine ze_getI X 7 29 228 (RX7, TX7, 39) rfl hW hK0 rfl (by decide) kfl_X7_228 dX7_joinsNext_5 ?_
  obtain ⟨a95, rfl, k97, hg⟩ := zh_dr hf
  replace hf := hg
  refine ze_iald X hf hW k97 dX7_joinsNext_8 (fun v98 hg => ?_)
  replace hf := hg
  refine lv_istore (lv' := [(4, .int v98), (0, .ref (B + a0)), (1, .int x1), (2, .int x2), (3, .int x3)]) X.1 X.2.1 dX7_joinsNext_9 hl (by decide) rfl (fun ls hk => ?_)
  replace hl := hk
  refine lv_aload_n X.1 X.2.1 dX7_joinsNext_11 rfl (lv_at hl 1 rfl) ?_
  refine ze_gtR X 7 26 72 (RX7, TX7, 39) rfl hf hW hK0 rfl (by decide) kfl_X7_72 dX7_joinsNext_12 (fun o99 hg => ?_)
  replace hf := hg
  refine lv_aload_n X.1 X.2.1 dX7_joinsNext_15 rfl (lv_at hl 1 rfl) ?_
  refine ze_getI X 7 29 228 (RX7, TX7, 39) rfl hW hK0 rfl (by decide) kfl_X7_228 dX7_joinsNext_16 ?_
  obtain ⟨a100, rfl, k102, hg⟩ := zh_dr hf
  replace hf := hg
  refine ze_iald X hf hW k102 dX7_joinsNext_19 (fun v103 hg => ?_)
  replace hf := hg
  refine lv_istore (lv' := [(5, .int v103), (4, .int v98), (0, .ref (B + a0)), (1, .int x1), (2, .int x2), (3, .int x3)]) X.1 X.2.1 dX7_joinsNext_20 hl (by decide) rfl (fun ls hk => ?_)
  replace hl := hk
  refine lv_aload_n X.1 X.2.1 dX7_joinsNext_22 rfl (lv_at hl 2 rfl) ?_
  refine ze_gtR X 7 24 66 (RX7, TX7, 39) rfl hf hW hK0 rfl (by decide) kfl_X7_66 dX7_joinsNext_23 (fun o104 hg => ?_)
  replace hf := hg
  refine lv_aload_n X.1 X.2.1 dX7_joinsNext_26 rfl (lv_at hl 2 rfl) ?_
  refine ze_getI X 7 29 228 (RX7, TX7, 39) rfl hW hK0 rfl (by decide) kfl_X7_228 dX7_joinsNext_27 ?_
  obtain ⟨a105, rfl, k107, hg⟩ := zh_dr hf
  replace hf := hg
  refine ze_zald X hf hW k107 dX7_joinsNext_30 (fun v108 hg => ?_)
  replace hf := hg
  refine lv_if_eq (tgt := 93) X.1 X.2.1 dX7_joinsNext_31 (by decide) (fun c109 => ?_) (fun c109 => ?_)
  · replace hf := zif_pos c109 hf
    refine lv_aload_n X.1 X.2.1 dX7_joinsNext_93 rfl (lv_at hl 2 rfl) ?_
    refine lv_iload_n X.1 X.2.1 dX7_joinsNext_94 rfl (lv_at hl 3 rfl) ?_
    refine lv_iload X.1 X.2.1 dX7_joinsNext_95 (lv_at hl 1 rfl) ?_
    obtain ⟨v110, h111, hg⟩ := zh_bd hf
    replace hf := hg
    refine ze_aftI0 (ze_runV (As := [.int x1, .int v98]) (rest := []) X 7 111 (c_X7_arguments l D B n hK0 h111) vX7_arguments kml_X7_111 hW hK0 rfl rfl ⟨by decide, by decide⟩ rfl hl.1 rfl (Nat.le_of_ble_eq_true rfl) ⟨Nat.le_refl _, Nat.le_refl _⟩ dX7_joinsNext_97) hW (fun H locs hV => ?_)
    replace hW := hV
    refine lv_istore (lv' := [(6, .int v110), (5, .int v103), (4, .int v98), (0, .ref (B + a0)), (1, .int x1), (2, .int x2), (3, .int x3)]) X.1 X.2.1 dX7_joinsNext_100 hl (by decide) rfl (fun ls hk => ?_)
    replace hl := hk
    refine lv_aload_n X.1 X.2.1 dX7_joinsNext_102 rfl (lv_at hl 3 rfl) ?_
    refine lv_iload_n X.1 X.2.1 dX7_joinsNext_103 rfl (lv_at hl 4 rfl) ?_
    refine lv_iload X.1 X.2.1 dX7_joinsNext_104 (lv_at hl 2 rfl) ?_
    refine lv_aload_n X.1 X.2.1 dX7_joinsNext_106 rfl (lv_at hl 3 rfl) ?_
    refine ze_gtR X 7 5 20 (RX7, TX7, 39) rfl hf hW hK0 rfl (by decide) kfl_X7_20 dX7_joinsNext_107 (fun o112 hg => ?_)
    replace hf := hg
    obtain ⟨v113, h114, hg⟩ := zh_bd hf
    replace hf := hg
    refine ze_aftI0 (ze_runV (As := [.int x1, .int v98, zrf B o112]) (rest := []) X 7 172 (c_X7_sequenceOf l D B n hK0 h114) vX7_sequenceOf kml_X7_172 hW hK0 rfl rfl ⟨by decide, by decide⟩ rfl hl.1 rfl (Nat.le_of_ble_eq_true rfl) ⟨Nat.le_refl _, Nat.le_refl _⟩ dX7_joinsNext_110) hW (fun H locs hV => ?_)
    replace hW := hV
    refine lv_bipush (v := -9) X.1 X.2.1 dX7_joinsNext_113 (by decide) ?_
    refine lv_icmp_ne (tgt := 134) X.1 X.2.1 dX7_joinsNext_115 (by decide) (fun c115 => ?_) (fun c115 => ?_)
    · replace hf := zif_neg c115 hf
      exact w_X7_joinsNext_134 X hr hlk hK0 hf hW (lv_sub hl [3, 4, 5, 6, 2, 1, 0] rfl)
    · replace hf := zif_pos c115 hf
      refine lv_aload_n X.1 X.2.1 dX7_joinsNext_118 rfl (lv_at hl 3 rfl) ?_
      refine lv_iload_n X.1 X.2.1 dX7_joinsNext_119 rfl (lv_at hl 5 rfl) ?_
      refine lv_iload X.1 X.2.1 dX7_joinsNext_120 (lv_at hl 1 rfl) ?_
      refine lv_aload_n X.1 X.2.1 dX7_joinsNext_122 rfl (lv_at hl 3 rfl) ?_
      refine ze_gtR X 7 6 23 (RX7, TX7, 39) rfl hf hW hK0 rfl (by decide) kfl_X7_23 dX7_joinsNext_123 (fun o116 hg => ?_)
      replace hf := hg
      obtain ⟨v117, h118, hg⟩ := zh_bd hf
      replace hf := hg
      refine ze_aftI0 (ze_runV (As := [.int x2, .int v103, zrf B o116]) (rest := []) X 7 172 (c_X7_sequenceOf l D B n hK0 h118) vX7_sequenceOf kml_X7_172 hW hK0 rfl rfl ⟨by decide, by decide⟩ rfl hl.1 rfl (Nat.le_of_ble_eq_true rfl) ⟨Nat.le_refl _, Nat.le_refl _⟩ dX7_joinsNext_126) hW (fun H locs hV => ?_)
      replace hW := hV
      refine lv_bipush (v := -9) X.1 X.2.1 dX7_joinsNext_129 (by decide) ?_
      refine lv_icmp_eq (tgt := 138) X.1 X.2.1 dX7_joinsNext_131 (by decide) (fun c119 => ?_) (fun c119 => ?_)
      · replace hf := zif_pos c119 hf
        refine lv_iconst (v := 0) X.1 X.2.1 dX7_joinsNext_138 (by decide) ?_
        exact w_X7_joinsNext_139 X hr hlk hK0 hf hW (lv_sub hl [3, 4, 5, 6, 2, 1, 0] rfl)
      · replace hf := zif_neg c119 hf
        exact w_X7_joinsNext_134 X hr hlk hK0 hf hW (lv_sub hl [3, 4, 5, 6, 2, 1, 0] rfl)
  · replace hf := zif_neg c109 hf
    refine lv_aload_n X.1 X.2.1 dX7_joinsNext_34 rfl (lv_at hl 2 rfl) ?_
    refine lv_iconst (v := 3) X.1 X.2.1 dX7_joinsNext_35 (by decide) ?_
    refine lv_iload_n X.1 X.2.1 dX7_joinsNext_36 rfl (lv_at hl 3 rfl) ?_
    refine lv_iload X.1 X.2.1 dX7_joinsNext_37 (lv_at hl 1 rfl) ?_
    refine lv_aload_n X.1 X.2.1 dX7_joinsNext_39 rfl (lv_at hl 2 rfl) ?_
    refine ze_gtR X 7 27 75 (RX7, TX7, 39) rfl hf hW hK0 rfl (by decide) kfl_X7_75 dX7_joinsNext_40 (fun o120 hg => ?_)
    replace hf := hg
    refine lv_aload_n X.1 X.2.1 dX7_joinsNext_43 rfl (lv_at hl 2 rfl) ?_
    refine ze_getI X 7 29 228 (RX7, TX7, 39) rfl hW hK0 rfl (by decide) kfl_X7_228 dX7_joinsNext_44 ?_
    obtain ⟨a121, rfl, k123, hg⟩ := zh_dr hf
    replace hf := hg
    refine ze_iald X hf hW k123 dX7_joinsNext_47 (fun v124 hg => ?_)
    replace hf := hg
    refine lv_iload_n X.1 X.2.1 dX7_joinsNext_48 rfl (lv_at hl 4 rfl) ?_
    refine lv_iload X.1 X.2.1 dX7_joinsNext_49 (lv_at hl 0 rfl) ?_
    refine lv_aload_n X.1 X.2.1 dX7_joinsNext_51 rfl (lv_at hl 2 rfl) ?_
    refine ze_gtR X 7 28 78 (RX7, TX7, 39) rfl hf hW hK0 rfl (by decide) kfl_X7_78 dX7_joinsNext_52 (fun o125 hg => ?_)
    replace hf := hg
    refine lv_aload_n X.1 X.2.1 dX7_joinsNext_55 rfl (lv_at hl 2 rfl) ?_
    refine ze_getI X 7 29 228 (RX7, TX7, 39) rfl hW hK0 rfl (by decide) kfl_X7_228 dX7_joinsNext_56 ?_
    obtain ⟨a126, rfl, k128, hg⟩ := zh_dr hf
    replace hf := hg
    refine ze_iald X hf hW k128 dX7_joinsNext_59 (fun v129 hg => ?_)
    replace hf := hg
    obtain ⟨v130, I131, h132, hg⟩ := zh_bd2 hf
    replace hf := hg
    refine ze_aftI0 (ze_runV (As := [.int (3 : Int32), .int x1, .int v98, .int v124, .int x2, .int v103, .int v129]) (rest := []) X 7 242 (c_X7_holeFor l D B n hK0 h132) vX7_holeFor kml_X7_242 hW hK0 rfl rfl ⟨by decide, by decide⟩ rfl hl.1 rfl (Nat.le_of_ble_eq_true rfl) ⟨Nat.le_refl _, Nat.le_refl _⟩ dX7_joinsNext_60) hW (fun H locs hV => ?_)
    replace hW := hV
    refine lv_istore (lv' := [(6, .int v130), (5, .int v103), (4, .int v98), (0, .ref (B + a0)), (1, .int x1), (2, .int x2), (3, .int x3)]) X.1 X.2.1 dX7_joinsNext_63 hl (by decide) rfl (fun ls hk => ?_)
    replace hl := hk
    refine lv_aload_n X.1 X.2.1 dX7_joinsNext_65 rfl (lv_at hl 3 rfl) ?_
    refine lv_iload_n X.1 X.2.1 dX7_joinsNext_66 rfl (lv_at hl 6 rfl) ?_
    refine lv_aload_n X.1 X.2.1 dX7_joinsNext_67 rfl (lv_at hl 3 rfl) ?_
    refine ze_gtR X 7 0 7 (RX7, TX7, 39) rfl hf hW hK0 rfl (by decide) kfl_X7_7 dX7_joinsNext_68 (fun o133 hg => ?_)
    replace hf := hg
    refine lv_iload_n X.1 X.2.1 dX7_joinsNext_71 rfl (lv_at hl 6 rfl) ?_
    obtain ⟨a134, rfl, k136, hg⟩ := zh_dr hf
    replace hf := hg
    refine ze_iald X hf hW k136 dX7_joinsNext_72 (fun v137 hg => ?_)
    replace hf := hg
    refine lv_iconst (v := 3) X.1 X.2.1 dX7_joinsNext_73 (by decide) ?_
    refine lv_iload X.1 X.2.1 dX7_joinsNext_74 (lv_at hl 0 rfl) ?_
    refine lv_iconst (v := 0) X.1 X.2.1 dX7_joinsNext_76 (by decide) ?_
    obtain ⟨I138, h139, hg⟩ := zh_bd hf
    replace hf := hg
    refine ze_aftV0 (ze_runV (As := [.int x3, .int v137, .int (3 : Int32), .int v130, .int (0 : Int32)]) (rest := []) X 7 143 (c_X7_writes l D B n hK0 h139) vX7_writes kml_X7_143 hW hK0 rfl rfl ⟨by decide, by decide⟩ rfl hl.1 rfl (Nat.le_of_ble_eq_true rfl) ⟨Nat.le_refl _, Nat.le_refl _⟩ dX7_joinsNext_77) hW (fun H locs hV => ?_)
    replace hW := hV
    refine lv_iload X.1 X.2.1 dX7_joinsNext_80 (lv_at hl 0 rfl) ?_
    refine lv_bipush (v := -9) X.1 X.2.1 dX7_joinsNext_82 (by decide) ?_
    refine lv_icmp_eq (tgt := 91) X.1 X.2.1 dX7_joinsNext_84 (by decide) (fun c140 => ?_) (fun c140 => ?_)
    · replace hf := zif_pos c140 hf
      refine lv_iconst (v := 0) X.1 X.2.1 dX7_joinsNext_91 (by decide) ?_
      obtain ⟨rfl, rfl⟩ := zi2 hf
      exact ze_retZ X hr hlk (by decide) hW (Nat.le_refl _) (Nat.le_refl _) dX7_joinsNext_92
    · replace hf := zif_neg c140 hf
      refine lv_iconst (v := 1) X.1 X.2.1 dX7_joinsNext_87 (by decide) ?_
      refine lv_goto (tgt := 92) X.1 X.2.1 dX7_joinsNext_88 (by decide) ?_
      obtain ⟨rfl, rfl⟩ := zi2 hf
      exact ze_retZ X hr hlk (by decide) hW (Nat.le_refl _) (Nat.le_refl _) dX7_joinsNext_92
end
