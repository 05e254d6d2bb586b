/-! LeastPatternsLaw.types(LLeastPatterns;[I)Z -/
def f_L_types_175 (F : Nat) (k13 : Nat → zK → zI → zR → Option Nat → Option Nat → Option Nat → Int32 → Int32 → Int32 → Option (Int32 × Nat × zK × zI × zR)) (n : Nat) (K : zK) (I : zI) (R : zR) (x0 : Option Nat) (x1 : Option Nat) (x2 : Option Nat) (x3 : Int32) (x4 : Int32) (x5 : Int32) : Option (Int32 × Nat × zK × zI × zR) :=
  k13 n K I R x0 x1 x2 x3 x4 (x5 + (1 : Int32))
def f_L_types_173 (F : Nat) (k13 : Nat → zK → zI → zR → Option Nat → Option Nat → Option Nat → Int32 → Int32 → Int32 → Option (Int32 × Nat × zK × zI × zR)) (n : Nat) (K : zK) (I : zI) (R : zR) (x0 : Option Nat) (x1 : Option Nat) (x2 : Option Nat) (x3 : Int32) (x5 : Int32) (s0 : Int32) : Option (Int32 × Nat × zK × zI × zR) :=
  f_L_types_175 F k13 n K I R x0 x1 x2 x3 s0 x5
def f_L_types_172 (F : Nat) (k13 : Nat → zK → zI → zR → Option Nat → Option Nat → Option Nat → Int32 → Int32 → Int32 → Option (Int32 × Nat × zK × zI × zR)) (n : Nat) (K : zK) (I : zI) (R : zR) (x0 : Option Nat) (x1 : Option Nat) (x2 : Option Nat) (x3 : Int32) (x5 : Int32) : Option (Int32 × Nat × zK × zI × zR) :=
  f_L_types_173 F k13 n K I R x0 x1 x2 x3 x5 (0 : Int32)
def f_L_types_168 (F : Nat) (k13 : Nat → zK → zI → zR → Option Nat → Option Nat → Option Nat → Int32 → Int32 → Int32 → Option (Int32 × Nat × zK × zI × zR)) (n : Nat) (K : zK) (I : zI) (R : zR) (x0 : Option Nat) (x1 : Option Nat) (x2 : Option Nat) (x3 : Int32) (x5 : Int32) : Option (Int32 × Nat × zK × zI × zR) :=
  f_L_types_173 F k13 n K I R x0 x1 x2 x3 x5 (1 : Int32)
def f_L_types_150 (F : Nat) (k13 : Nat → zK → zI → zR → Option Nat → Option Nat → Option Nat → Int32 → Int32 → Int32 → Option (Int32 × Nat × zK × zI × zR)) (n : Nat) (K : zK) (I : zI) (R : zR) (x0 : Option Nat) (x1 : Option Nat) (x2 : Option Nat) (x3 : Int32) (x4 : Int32) (x5 : Int32) : Option (Int32 × Nat × zK × zI × zR) :=
  if x4 = (0 : Int32) then
    f_L_types_172 F k13 n K I R x0 x1 x2 x3 x5
  else
    if x3 = (0 : Int32) then
      f_L_types_168 F k13 n K I R x0 x1 x2 x3 x5
    else
      zbd (zdr K x0 16) fun a3 =>
      zbd2 (f_X6_type F K I R a3 (44 : Int32)) fun v6 I7 =>
      if v6 ≤ (0 : Int32) then
        f_L_types_172 F k13 n K I7 R (some a3) x1 x2 x3 x5
      else
        f_L_types_168 F k13 n K I7 R (some a3) x1 x2 x3 x5
def f_L_types_135 (F : Nat) (k13 : Nat → zK → zI → zR → Option Nat → Option Nat → Option Nat → Int32 → Int32 → Int32 → Option (Int32 × Nat × zK × zI × zR)) (k106 : Nat → zK → zI → zR → Option Nat → Option Nat → Option Nat → Int32 → Int32 → Int32 → Option (Int32 × Nat × zK × zI × zR)) (n : Nat) (K : zK) (I : zI) (R : zR) (x0 : Option Nat) (x1 : Option Nat) (x2 : Option Nat) (x3 : Int32) (x5 : Int32) (s0 : Int32) : Option (Int32 × Nat × zK × zI × zR) :=
  zbd (zdr K x2 1) fun a10 =>
  zbd (zrd K I a10 (x3 + (-1 : Int32))) fun v13 =>
  zbd (zwr K I a10 (x3 + (-1 : Int32)) (v13 - (1 : Int32))) fun I14 =>
  k106 n K I14 R x0 x1 (some a10) (x3 + (-1 : Int32)) s0 x5
def f_L_types_134 (F : Nat) (k13 : Nat → zK → zI → zR → Option Nat → Option Nat → Option Nat → Int32 → Int32 → Int32 → Option (Int32 × Nat × zK × zI × zR)) (k106 : Nat → zK → zI → zR → Option Nat → Option Nat → Option Nat → Int32 → Int32 → Int32 → Option (Int32 × Nat × zK × zI × zR)) (n : Nat) (K : zK) (I : zI) (R : zR) (x0 : Option Nat) (x1 : Option Nat) (x2 : Option Nat) (x3 : Int32) (x5 : Int32) : Option (Int32 × Nat × zK × zI × zR) :=
  f_L_types_135 F k13 k106 n K I R x0 x1 x2 x3 x5 (0 : Int32)
def g_L_types_106 (F : Nat) (k13 : Nat → zK → zI → zR → Option Nat → Option Nat → Option Nat → Int32 → Int32 → Int32 → Option (Int32 × Nat × zK × zI × zR)) (kself : Nat → zK → zI → zR → Option Nat → Option Nat → Option Nat → Int32 → Int32 → Int32 → Option (Int32 × Nat × zK × zI × zR)) (n : Nat) (K : zK) (I : zI) (R : zR) (x0 : Option Nat) (x1 : Option Nat) (x2 : Option Nat) (x3 : Int32) (x4 : Int32) (x5 : Int32) : Option (Int32 × Nat × zK × zI × zR) :=
  if x3 ≤ (0 : Int32) then
    f_L_types_150 F k13 n K I R x0 x1 x2 x3 x4 x5
  else
    zbd (zdr K x2 1) fun a16 =>
    zbd (zrd K I a16 x3) fun v19 =>
    if v19 = (0 : Int32) then
      if x4 = (0 : Int32) then
        f_L_types_134 F k13 kself n K I R x0 x1 (some a16) x3 x5
      else
        zbd (zdr K x0 16) fun a22 =>
        zbd2 (f_X6_type F K I R a22 (41 : Int32)) fun v25 I26 =>
        if v25 ≤ (0 : Int32) then
          f_L_types_134 F k13 kself n K I26 R (some a22) x1 (some a16) x3 x5
        else
          f_L_types_135 F k13 kself n K I26 R (some a22) x1 (some a16) x3 x5 (1 : Int32)
    else
      f_L_types_150 F k13 n K I R x0 x1 (some a16) x3 x4 x5
def f_L_types_106 (F : Nat) (k13 : Nat → zK → zI → zR → Option Nat → Option Nat → Option Nat → Int32 → Int32 → Int32 → Option (Int32 × Nat × zK × zI × zR)) : Nat → Nat → zK → zI → zR → Option Nat → Option Nat → Option Nat → Int32 → Int32 → Int32 → Option (Int32 × Nat × zK × zI × zR)
  | 0, _, _, _, _, _, _, _, _, _, _ => none
  | t + 1, n, K, I, R, x0, x1, x2, x3, x4, x5 => g_L_types_106 F k13 (f_L_types_106 F k13 t) n K I R x0 x1 x2 x3 x4 x5
def f_L_types_80 (F : Nat) (k13 : Nat → zK → zI → zR → Option Nat → Option Nat → Option Nat → Int32 → Int32 → Int32 → Option (Int32 × Nat × zK × zI × zR)) (n : Nat) (K : zK) (I : zI) (R : zR) (x0 : Option Nat) (x1 : Option Nat) (x2 : Option Nat) (x3 : Int32) (x5 : Int32) (s0 : Int32) : Option (Int32 × Nat × zK × zI × zR) :=
  zbd (zdr K x1 1) fun a29 =>
  zbd (zrd K I a29 (((2 : Int32) * x5) + (1 : Int32))) fun v32 =>
  zbd (zdr K x2 1) fun a33 =>
  zbd (zwr K I a33 (x3 + (1 : Int32)) v32) fun I36 =>
  f_L_types_175 F k13 n K I36 R x0 (some a29) (some a33) (x3 + (1 : Int32)) s0 x5
def f_L_types_79 (F : Nat) (k13 : Nat → zK → zI → zR → Option Nat → Option Nat → Option Nat → Int32 → Int32 → Int32 → Option (Int32 × Nat × zK × zI × zR)) (n : Nat) (K : zK) (I : zI) (R : zR) (x0 : Option Nat) (x1 : Option Nat) (x2 : Option Nat) (x3 : Int32) (x5 : Int32) : Option (Int32 × Nat × zK × zI × zR) :=
  f_L_types_80 F k13 n K I R x0 x1 x2 x3 x5 (0 : Int32)
def f_L_types_48 (F : Nat) (k13 : Nat → zK → zI → zR → Option Nat → Option Nat → Option Nat → Int32 → Int32 → Int32 → Option (Int32 × Nat × zK × zI × zR)) (n : Nat) (K : zK) (I : zI) (R : zR) (x0 : Option Nat) (x1 : Option Nat) (x2 : Option Nat) (x3 : Int32) (x5 : Int32) (s0 : Int32) : Option (Int32 × Nat × zK × zI × zR) :=
  zbd (zdr K x1 1) fun a37 =>
  zbd (zrd K I a37 (((2 : Int32) * x5) + (1 : Int32))) fun v40 =>
  if v40 ≤ (0 : Int32) then
    zbd (zdr K x2 1) fun a42 =>
    zbd (zrd K I a42 x3) fun v45 =>
    zbd (zwr K I a42 x3 (v45 - (1 : Int32))) fun I46 =>
    f_L_types_106 F k13 F n K I46 R x0 (some a37) (some a42) x3 s0 x5
  else
    if s0 = (0 : Int32) then
      f_L_types_79 F k13 n K I R x0 (some a37) x2 x3 x5
    else
      zbd (zdr K x0 16) fun a48 =>
      zbd2 (f_X6_type F K I R a48 (40 : Int32)) fun v51 I52 =>
      if v51 ≤ (0 : Int32) then
        f_L_types_79 F k13 n K I52 R (some a48) (some a37) x2 x3 x5
      else
        f_L_types_80 F k13 n K I52 R (some a48) (some a37) x2 x3 x5 (1 : Int32)
def g_L_types_13 (F : Nat)  (kself : Nat → zK → zI → zR → Option Nat → Option Nat → Option Nat → Int32 → Int32 → Int32 → Option (Int32 × Nat × zK × zI × zR)) (n : Nat) (K : zK) (I : zI) (R : zR) (x0 : Option Nat) (x1 : Option Nat) (x2 : Option Nat) (x3 : Int32) (x4 : Int32) (x5 : Int32) : Option (Int32 × Nat × zK × zI × zR) :=
  zbd (zdr K x1 1) fun a55 =>
  zbd (zrd K I a55 (62 : Int32)) fun v58 =>
  if v58 ≤ x5 then
    if x4 = 0 ∨ x4 = 1 then
    some (x4, n, K, I, R)
    else
    none
  else
    if x4 = (0 : Int32) then
      if x4 = 0 ∨ x4 = 1 then
      some (x4, n, K, I, R)
      else
      none
    else
      zbd (zrd K I a55 ((2 : Int32) * x5)) fun v63 =>
      zbd (zdr K x0 16) fun a64 =>
      zbd2 (f_X6_type F K I R a64 ((97 : Int32) + v63)) fun v67 I68 =>
      if v67 ≤ (0 : Int32) then
        f_L_types_48 F kself n K I68 R (some a64) (some a55) x2 x3 x5 (0 : Int32)
      else
        f_L_types_48 F kself n K I68 R (some a64) (some a55) x2 x3 x5 (1 : Int32)
def f_L_types_13 (F : Nat)  : Nat → Nat → zK → zI → zR → Option Nat → Option Nat → Option Nat → Int32 → Int32 → Int32 → Option (Int32 × Nat × zK × zI × zR)
  | 0, _, _, _, _, _, _, _, _, _, _ => none
  | t + 1, n, K, I, R, x0, x1, x2, x3, x4, x5 => g_L_types_13 F  (f_L_types_13 F  t) n K I R x0 x1 x2 x3 x4 x5
def f_L_types (F : Nat) (n : Nat) (K : zK) (I : zI) (R : zR) (x0 : Option Nat) (x1 : Option Nat) : Option (Int32 × Nat × zK × zI × zR) :=
  zbd3 (some (n + 1, zset K n (1, 8), zclr I n 0)) fun n71 K72 I73 =>
  f_L_types_13 F F n71 K72 I73 R x0 x1 (some n) (0 : Int32) (1 : Int32) (0 : Int32)
section
variable {p : Program} {l : Launch} {e : Env} {s : State} {m : MethodId} {args : Array Value} {below : List Frame} {meth : Method} {c : Code} {D : zD} {B n n0 n' fd ld : Nat} {K K0 K' : zK} {I I' : zI} {R R' : zR} {H : Heap} {locs : List Loc} {ls : Array Slot} {r : Int32}
set_option maxRecDepth 100000 in
set_option maxHeartbeats 4000000 in
theorem w_L_types_175 {F : Nat} {k13 : Nat → zK → zI → zR → Option Nat → Option Nat → Option Nat → Int32 → Int32 → Int32 → Option (Int32 × Nat × zK × zI × zR)} (X : zX p s m c cL_types 6 RL D) (hr : meth.sig.returnType = some .boolean) (hlk : meth.locks = false) (hk13 : ∀ (n : Nat) (K : zK) (I : zI) (R : zR) (x0 : Option Nat) (x1 : Option Nat) (x2 : Option Nat) (x3 : Int32) (x4 : Int32) (x5 : Int32) (cells slots : Nat) (H : Heap) (locs : List Loc) (ls : Array Slot), k13 n K I R x0 x1 x2 x3 x4 x5 = some (r, n', K', I', R') → cells + 0 ≤ 1 → slots + 0 ≤ 8 → zS (zOwn B K0 (B + n0)) D B n K I R s.heap H locs → lv_has ls 6 [(0, zrf B x0), (1, zrf B x1), (2, zrf B x2), (3, .int x3), (4, .int x4), (5, .int x5)] → W p l e ({ frames := 3, cells := 1, slots := 8, locals := 82 } : Room) s m args below meth c H locs cells slots (MQ below (zQi D (zOwn B K0 (B + n0)) r B n' K' I' R') args s 1 8 (zOwn B K0 (B + n0))) (F0 m 13 ls [])) {x0 : Option Nat} {x1 : Option Nat} {x2 : Option Nat} {x3 : Int32} {x4 : Int32} {x5 : Int32} {cells slots : Nat} (hf : f_L_types_175 F k13 n K I R x0 x1 x2 x3 x4 x5 = some (r, n', K', I', R')) (b1 : cells + 0 ≤ 1) (b2 : slots + 0 ≤ 8) (hW : zS (zOwn B K0 (B + n0)) D B n K I R s.heap H locs) (hl : lv_has ls 6 [(0, zrf B x0), (1, zrf B x1), (2, zrf B x2), (3, .int x3), (4, .int x4), (5, .int x5)]) : W p l e ({ frames := 3, cells := 1, slots := 8, locals := 82 } : Room) s m args below meth c H locs cells slots (MQ below (zQi D (zOwn B K0 (B + n0)) r B n' K' I' R') args s 1 8 (zOwn B K0 (B + n0))) (F0 m 175 ls []) := by
  unfold f_L_types_175 at hf
  refine ze_iinc (lv' := [(5, .int (x5 + (1 : Int32))), (0, zrf B x0), (1, zrf B x1), (2, zrf B x2), (3, .int x3), (4, .int x4)]) (d := 1) X.1 X.2.1 dL_types_175 hl (k := 5) rfl (by decide) (by decide) rfl (fun ls hk => ?_)
  replace hl := hk
  refine lv_goto (tgt := 13) X.1 X.2.1 dL_types_178 (by decide) ?_
  exact hk13 _ _ _ _ _ _ _ _ _ _ _ _ _ _ _ hf (by (try dsimp only); omega) (by (try dsimp only); omega) hW (lv_sub hl [1, 2, 3, 4, 5, 0] rfl)
set_option maxRecDepth 100000 in
set_option maxHeartbeats 4000000 in
theorem w_L_types_173 {F : Nat} {k13 : Nat → zK → zI → zR → Option Nat → Option Nat → Option Nat → Int32 → Int32 → Int32 → Option (Int32 × Nat × zK × zI × zR)} (X : zX p s m c cL_types 6 RL D) (hr : meth.sig.returnType = some .boolean) (hlk : meth.locks = false) (hk13 : ∀ (n : Nat) (K : zK) (I : zI) (R : zR) (x0 : Option Nat) (x1 : Option Nat) (x2 : Option Nat) (x3 : Int32) (x4 : Int32) (x5 : Int32) (cells slots : Nat) (H : Heap) (locs : List Loc) (ls : Array Slot), k13 n K I R x0 x1 x2 x3 x4 x5 = some (r, n', K', I', R') → cells + 0 ≤ 1 → slots + 0 ≤ 8 → zS (zOwn B K0 (B + n0)) D B n K I R s.heap H locs → lv_has ls 6 [(0, zrf B x0), (1, zrf B x1), (2, zrf B x2), (3, .int x3), (4, .int x4), (5, .int x5)] → W p l e ({ frames := 3, cells := 1, slots := 8, locals := 82 } : Room) s m args below meth c H locs cells slots (MQ below (zQi D (zOwn B K0 (B + n0)) r B n' K' I' R') args s 1 8 (zOwn B K0 (B + n0))) (F0 m 13 ls [])) {x0 : Option Nat} {x1 : Option Nat} {x2 : Option Nat} {x3 : Int32} {x5 : Int32} {s0 : Int32} {cells slots : Nat} (hf : f_L_types_173 F k13 n K I R x0 x1 x2 x3 x5 s0 = some (r, n', K', I', R')) (b1 : cells + 0 ≤ 1) (b2 : slots + 0 ≤ 8) (hW : zS (zOwn B K0 (B + n0)) D B n K I R s.heap H locs) (hl : lv_has ls 6 [(0, zrf B x0), (1, zrf B x1), (2, zrf B x2), (3, .int x3), (5, .int x5)]) : W p l e ({ frames := 3, cells := 1, slots := 8, locals := 82 } : Room) s m args below meth c H locs cells slots (MQ below (zQi D (zOwn B K0 (B + n0)) r B n' K' I' R') args s 1 8 (zOwn B K0 (B + n0))) (F0 m 173 ls [.int s0]) := by
  unfold f_L_types_173 at hf
  refine lv_istore (lv' := [(4, .int s0), (0, zrf B x0), (1, zrf B x1), (2, zrf B x2), (3, .int x3), (5, .int x5)]) X.1 X.2.1 dL_types_173 hl (by decide) rfl (fun ls hk => ?_)
  replace hl := hk
  exact w_L_types_175 X hr hlk hk13 hf (by (try dsimp only); omega) (by (try dsimp only); omega) hW (lv_sub hl [1, 2, 3, 4, 0, 5] rfl)
set_option maxRecDepth 100000 in
set_option maxHeartbeats 4000000 in
theorem w_L_types_172 {F : Nat} {k13 : Nat → zK → zI → zR → Option Nat → Option Nat → Option Nat → Int32 → Int32 → Int32 → Option (Int32 × Nat × zK × zI × zR)} (X : zX p s m c cL_types 6 RL D) (hr : meth.sig.returnType = some .boolean) (hlk : meth.locks = false) (hk13 : ∀ (n : Nat) (K : zK) (I : zI) (R : zR) (x0 : Option Nat) (x1 : Option Nat) (x2 : Option Nat) (x3 : Int32) (x4 : Int32) (x5 : Int32) (cells slots : Nat) (H : Heap) (locs : List Loc) (ls : Array Slot), k13 n K I R x0 x1 x2 x3 x4 x5 = some (r, n', K', I', R') → cells + 0 ≤ 1 → slots + 0 ≤ 8 → zS (zOwn B K0 (B + n0)) D B n K I R s.heap H locs → lv_has ls 6 [(0, zrf B x0), (1, zrf B x1), (2, zrf B x2), (3, .int x3), (4, .int x4), (5, .int x5)] → W p l e ({ frames := 3, cells := 1, slots := 8, locals := 82 } : Room) s m args below meth c H locs cells slots (MQ below (zQi D (zOwn B K0 (B + n0)) r B n' K' I' R') args s 1 8 (zOwn B K0 (B + n0))) (F0 m 13 ls [])) {x0 : Option Nat} {x1 : Option Nat} {x2 : Option Nat} {x3 : Int32} {x5 : Int32} {cells slots : Nat} (hf : f_L_types_172 F k13 n K I R x0 x1 x2 x3 x5 = some (r, n', K', I', R')) (b1 : cells + 0 ≤ 1) (b2 : slots + 0 ≤ 8) (hW : zS (zOwn B K0 (B + n0)) D B n K I R s.heap H locs) (hl : lv_has ls 6 [(0, zrf B x0), (1, zrf B x1), (2, zrf B x2), (3, .int x3), (5, .int x5)]) : W p l e ({ frames := 3, cells := 1, slots := 8, locals := 82 } : Room) s m args below meth c H locs cells slots (MQ below (zQi D (zOwn B K0 (B + n0)) r B n' K' I' R') args s 1 8 (zOwn B K0 (B + n0))) (F0 m 172 ls []) := by
  unfold f_L_types_172 at hf
  refine lv_iconst (v := 0) X.1 X.2.1 dL_types_172 (by decide) ?_
  exact w_L_types_173 X hr hlk hk13 hf (by (try dsimp only); omega) (by (try dsimp only); omega) hW hl
set_option maxRecDepth 100000 in
set_option maxHeartbeats 4000000 in
theorem w_L_types_168 {F : Nat} {k13 : Nat → zK → zI → zR → Option Nat → Option Nat → Option Nat → Int32 → Int32 → Int32 → Option (Int32 × Nat × zK × zI × zR)} (X : zX p s m c cL_types 6 RL D) (hr : meth.sig.returnType = some .boolean) (hlk : meth.locks = false) (hk13 : ∀ (n : Nat) (K : zK) (I : zI) (R : zR) (x0 : Option Nat) (x1 : Option Nat) (x2 : Option Nat) (x3 : Int32) (x4 : Int32) (x5 : Int32) (cells slots : Nat) (H : Heap) (locs : List Loc) (ls : Array Slot), k13 n K I R x0 x1 x2 x3 x4 x5 = some (r, n', K', I', R') → cells + 0 ≤ 1 → slots + 0 ≤ 8 → zS (zOwn B K0 (B + n0)) D B n K I R s.heap H locs → lv_has ls 6 [(0, zrf B x0), (1, zrf B x1), (2, zrf B x2), (3, .int x3), (4, .int x4), (5, .int x5)] → W p l e ({ frames := 3, cells := 1, slots := 8, locals := 82 } : Room) s m args below meth c H locs cells slots (MQ below (zQi D (zOwn B K0 (B + n0)) r B n' K' I' R') args s 1 8 (zOwn B K0 (B + n0))) (F0 m 13 ls [])) {x0 : Option Nat} {x1 : Option Nat} {x2 : Option Nat} {x3 : Int32} {x5 : Int32} {cells slots : Nat} (hf : f_L_types_168 F k13 n K I R x0 x1 x2 x3 x5 = some (r, n', K', I', R')) (b1 : cells + 0 ≤ 1) (b2 : slots + 0 ≤ 8) (hW : zS (zOwn B K0 (B + n0)) D B n K I R s.heap H locs) (hl : lv_has ls 6 [(0, zrf B x0), (1, zrf B x1), (2, zrf B x2), (3, .int x3), (5, .int x5)]) : W p l e ({ frames := 3, cells := 1, slots := 8, locals := 82 } : Room) s m args below meth c H locs cells slots (MQ below (zQi D (zOwn B K0 (B + n0)) r B n' K' I' R') args s 1 8 (zOwn B K0 (B + n0))) (F0 m 168 ls []) := by
  unfold f_L_types_168 at hf
  refine lv_iconst (v := 1) X.1 X.2.1 dL_types_168 (by decide) ?_
  refine lv_goto (tgt := 173) X.1 X.2.1 dL_types_169 (by decide) ?_
  exact w_L_types_173 X hr hlk hk13 hf (by (try dsimp only); omega) (by (try dsimp only); omega) hW hl
set_option maxRecDepth 100000 in
set_option maxHeartbeats 4000000 in
theorem w_L_types_150 {F : Nat} {k13 : Nat → zK → zI → zR → Option Nat → Option Nat → Option Nat → Int32 → Int32 → Int32 → Option (Int32 × Nat × zK × zI × zR)} (X : zX p s m c cL_types 6 RL D) (hr : meth.sig.returnType = some .boolean) (hlk : meth.locks = false) (hk13 : ∀ (n : Nat) (K : zK) (I : zI) (R : zR) (x0 : Option Nat) (x1 : Option Nat) (x2 : Option Nat) (x3 : Int32) (x4 : Int32) (x5 : Int32) (cells slots : Nat) (H : Heap) (locs : List Loc) (ls : Array Slot), k13 n K I R x0 x1 x2 x3 x4 x5 = some (r, n', K', I', R') → cells + 0 ≤ 1 → slots + 0 ≤ 8 → zS (zOwn B K0 (B + n0)) D B n K I R s.heap H locs → lv_has ls 6 [(0, zrf B x0), (1, zrf B x1), (2, zrf B x2), (3, .int x3), (4, .int x4), (5, .int x5)] → W p l e ({ frames := 3, cells := 1, slots := 8, locals := 82 } : Room) s m args below meth c H locs cells slots (MQ below (zQi D (zOwn B K0 (B + n0)) r B n' K' I' R') args s 1 8 (zOwn B K0 (B + n0))) (F0 m 13 ls [])) {x0 : Option Nat} {x1 : Option Nat} {x2 : Option Nat} {x3 : Int32} {x4 : Int32} {x5 : Int32} {cells slots : Nat} (hf : f_L_types_150 F k13 n K I R x0 x1 x2 x3 x4 x5 = some (r, n', K', I', R')) (b1 : cells + 0 ≤ 1) (b2 : slots + 0 ≤ 8) (hW : zS (zOwn B K0 (B + n0)) D B n K I R s.heap H locs) (hl : lv_has ls 6 [(0, zrf B x0), (1, zrf B x1), (2, zrf B x2), (3, .int x3), (4, .int x4), (5, .int x5)]) : W p l e ({ frames := 3, cells := 1, slots := 8, locals := 82 } : Room) s m args below meth c H locs cells slots (MQ below (zQi D (zOwn B K0 (B + n0)) r B n' K' I' R') args s 1 8 (zOwn B K0 (B + n0))) (F0 m 150 ls []) := by
  unfold f_L_types_150 at hf
  refine lv_iload X.1 X.2.1 dL_types_150 (lv_at hl 4 rfl) ?_
  refine lv_if_eq (tgt := 172) X.1 X.2.1 dL_types_152 (by decide) (fun c1 => ?_) (fun c1 => ?_)
  · replace hf := zif_pos c1 hf
    exact w_L_types_172 X hr hlk hk13 hf (by (try dsimp only); omega) (by (try dsimp only); omega) hW (lv_sub hl [0, 1, 2, 3, 5] rfl)
  · replace hf := zif_neg c1 hf
    refine lv_iload_n X.1 X.2.1 dL_types_155 rfl (lv_at hl 3 rfl) ?_
    refine lv_if_eq (tgt := 168) X.1 X.2.1 dL_types_156 (by decide) (fun c2 => ?_) (fun c2 => ?_)
    · replace hf := zif_pos c2 hf
      exact w_L_types_168 X hr hlk hk13 hf (by (try dsimp only); omega) (by (try dsimp only); omega) hW (lv_sub hl [0, 1, 2, 3, 5] rfl)
    · replace hf := zif_neg c2 hf
      refine ze_aload_n X.1 X.2.1 dL_types_159 rfl (lv_at hl 0 rfl) ?_
      refine lv_bipush (v := 44) X.1 X.2.1 dL_types_160 (by decide) ?_
      obtain ⟨a3, rfl, k5, hg⟩ := zh_dr hf
      replace hf := hg
      obtain ⟨v6, I7, h8, hg⟩ := zh_bd2 hf
      replace hf := hg
      refine ze_aftI0 (ze_runV (As := [.int (44 : Int32)]) (rest := []) X 6 9 (c_X6_type l D B n k5 h8) vX6_type kml_L_9 hW k5 rfl rfl ⟨by decide, by decide⟩ rfl hl.1 rfl (Nat.le_of_ble_eq_true rfl) ⟨by show _ + 0 ≤ (1 : Nat); (try dsimp only); omega, by show _ + 0 ≤ (8 : Nat); (try dsimp only); omega⟩ dL_types_162) hW (fun H locs hV => ?_)
      replace hW := hV
      refine lv_if_le (tgt := 172) X.1 X.2.1 dL_types_165 (by decide) (fun c9 => ?_) (fun c9 => ?_)
      · replace hf := zif_pos c9 hf
        exact w_L_types_172 X hr hlk hk13 hf (by (try dsimp only); omega) (by (try dsimp only); omega) hW (lv_sub hl [0, 1, 2, 3, 5] rfl)
      · replace hf := zif_neg c9 hf
        exact w_L_types_168 X hr hlk hk13 hf (by (try dsimp only); omega) (by (try dsimp only); omega) hW (lv_sub hl [0, 1, 2, 3, 5] rfl)
set_option maxRecDepth 100000 in
set_option maxHeartbeats 4000000 in
theorem w_L_types_135 {F : Nat} {k13 : Nat → zK → zI → zR → Option Nat → Option Nat → Option Nat → Int32 → Int32 → Int32 → Option (Int32 × Nat × zK × zI × zR)} {k106 : Nat → zK → zI → zR → Option Nat → Option Nat → Option Nat → Int32 → Int32 → Int32 → Option (Int32 × Nat × zK × zI × zR)} (X : zX p s m c cL_types 6 RL D) (hr : meth.sig.returnType = some .boolean) (hlk : meth.locks = false) (hk13 : ∀ (n : Nat) (K : zK) (I : zI) (R : zR) (x0 : Option Nat) (x1 : Option Nat) (x2 : Option Nat) (x3 : Int32) (x4 : Int32) (x5 : Int32) (cells slots : Nat) (H : Heap) (locs : List Loc) (ls : Array Slot), k13 n K I R x0 x1 x2 x3 x4 x5 = some (r, n', K', I', R') → cells + 0 ≤ 1 → slots + 0 ≤ 8 → zS (zOwn B K0 (B + n0)) D B n K I R s.heap H locs → lv_has ls 6 [(0, zrf B x0), (1, zrf B x1), (2, zrf B x2), (3, .int x3), (4, .int x4), (5, .int x5)] → W p l e ({ frames := 3, cells := 1, slots := 8, locals := 82 } : Room) s m args below meth c H locs cells slots (MQ below (zQi D (zOwn B K0 (B + n0)) r B n' K' I' R') args s 1 8 (zOwn B K0 (B + n0))) (F0 m 13 ls [])) (hk106 : ∀ (n : Nat) (K : zK) (I : zI) (R : zR) (x0 : Option Nat) (x1 : Option Nat) (x2 : Option Nat) (x3 : Int32) (x4 : Int32) (x5 : Int32) (cells slots : Nat) (H : Heap) (locs : List Loc) (ls : Array Slot), k106 n K I R x0 x1 x2 x3 x4 x5 = some (r, n', K', I', R') → cells + 0 ≤ 1 → slots + 0 ≤ 8 → zS (zOwn B K0 (B + n0)) D B n K I R s.heap H locs → lv_has ls 6 [(0, zrf B x0), (1, zrf B x1), (2, zrf B x2), (3, .int x3), (4, .int x4), (5, .int x5)] → W p l e ({ frames := 3, cells := 1, slots := 8, locals := 82 } : Room) s m args below meth c H locs cells slots (MQ below (zQi D (zOwn B K0 (B + n0)) r B n' K' I' R') args s 1 8 (zOwn B K0 (B + n0))) (F0 m 106 ls [])) {x0 : Option Nat} {x1 : Option Nat} {x2 : Option Nat} {x3 : Int32} {x5 : Int32} {s0 : Int32} {cells slots : Nat} (hf : f_L_types_135 F k13 k106 n K I R x0 x1 x2 x3 x5 s0 = some (r, n', K', I', R')) (b1 : cells + 0 ≤ 1) (b2 : slots + 0 ≤ 8) (hW : zS (zOwn B K0 (B + n0)) D B n K I R s.heap H locs) (hl : lv_has ls 6 [(0, zrf B x0), (1, zrf B x1), (2, zrf B x2), (3, .int x3), (5, .int x5)]) : W p l e ({ frames := 3, cells := 1, slots := 8, locals := 82 } : Room) s m args below meth c H locs cells slots (MQ below (zQi D (zOwn B K0 (B + n0)) r B n' K' I' R') args s 1 8 (zOwn B K0 (B + n0))) (F0 m 135 ls [.int s0]) := by
  unfold f_L_types_135 at hf
  refine lv_istore (lv' := [(4, .int s0), (0, zrf B x0), (1, zrf B x1), (2, zrf B x2), (3, .int x3), (5, .int x5)]) X.1 X.2.1 dL_types_135 hl (by decide) rfl (fun ls hk => ?_)
  replace hl := hk
  refine ze_iinc (lv' := [(3, .int (x3 + (-1 : Int32))), (4, .int s0), (0, zrf B x0), (1, zrf B x1), (2, zrf B x2), (5, .int x5)]) (d := -1) X.1 X.2.1 dL_types_137 hl (k := 4) rfl (by decide) (by decide) (by first | rfl | (simp [zcat, zcat_i, zcat_r, zcat_l, zrf_some]; done) | (simp [zcat, zcat_i, zcat_r, zcat_l, zrf_some]; decide)) (fun ls hk => ?_)
  replace hl := hk
  refine ze_aload_n X.1 X.2.1 dL_types_140 rfl (lv_at hl 4 rfl) ?_
  refine lv_iload_n X.1 X.2.1 dL_types_141 rfl (lv_at hl 0 rfl) ?_
  refine lv_dup2_11 X.1 X.2.1 dL_types_142 rfl (zcat _ _) ?_
  obtain ⟨a10, rfl, k12, hg⟩ := zh_dr hf
  replace hf := hg
  refine ze_iald X hf hW k12 dL_types_143 (fun v13 hg => ?_)
  replace hf := hg
  refine lv_iconst (v := 1) X.1 X.2.1 dL_types_144 (by decide) ?_
  refine lv_isub X.1 X.2.1 dL_types_145 ?_
  refine ze_iast X hf hW k12 dL_types_146 (fun I14 H locs hg hV => ?_)
  replace hf := hg
  replace hW := hV
  refine lv_goto (tgt := 106) X.1 X.2.1 dL_types_147 (by decide) ?_
  exact hk106 _ _ _ _ _ _ _ _ _ _ _ _ _ _ _ hf (by (try dsimp only); omega) (by (try dsimp only); omega) hW (lv_sub hl [2, 3, 4, 0, 1, 5] rfl)
set_option maxRecDepth 100000 in
set_option maxHeartbeats 4000000 in
theorem w_L_types_134 {F : Nat} {k13 : Nat → zK → zI → zR → Option Nat → Option Nat → Option Nat → Int32 → Int32 → Int32 → Option (Int32 × Nat × zK × zI × zR)} {k106 : Nat → zK → zI → zR → Option Nat → Option Nat → Option Nat → Int32 → Int32 → Int32 → Option (Int32 × Nat × zK × zI × zR)} (X : zX p s m c cL_types 6 RL D) (hr : meth.sig.returnType = some .boolean) (hlk : meth.locks = false) (hk13 : ∀ (n : Nat) (K : zK) (I : zI) (R : zR) (x0 : Option Nat) (x1 : Option Nat) (x2 : Option Nat) (x3 : Int32) (x4 : Int32) (x5 : Int32) (cells slots : Nat) (H : Heap) (locs : List Loc) (ls : Array Slot), k13 n K I R x0 x1 x2 x3 x4 x5 = some (r, n', K', I', R') → cells + 0 ≤ 1 → slots + 0 ≤ 8 → zS (zOwn B K0 (B + n0)) D B n K I R s.heap H locs → lv_has ls 6 [(0, zrf B x0), (1, zrf B x1), (2, zrf B x2), (3, .int x3), (4, .int x4), (5, .int x5)] → W p l e ({ frames := 3, cells := 1, slots := 8, locals := 82 } : Room) s m args below meth c H locs cells slots (MQ below (zQi D (zOwn B K0 (B + n0)) r B n' K' I' R') args s 1 8 (zOwn B K0 (B + n0))) (F0 m 13 ls [])) (hk106 : ∀ (n : Nat) (K : zK) (I : zI) (R : zR) (x0 : Option Nat) (x1 : Option Nat) (x2 : Option Nat) (x3 : Int32) (x4 : Int32) (x5 : Int32) (cells slots : Nat) (H : Heap) (locs : List Loc) (ls : Array Slot), k106 n K I R x0 x1 x2 x3 x4 x5 = some (r, n', K', I', R') → cells + 0 ≤ 1 → slots + 0 ≤ 8 → zS (zOwn B K0 (B + n0)) D B n K I R s.heap H locs → lv_has ls 6 [(0, zrf B x0), (1, zrf B x1), (2, zrf B x2), (3, .int x3), (4, .int x4), (5, .int x5)] → W p l e ({ frames := 3, cells := 1, slots := 8, locals := 82 } : Room) s m args below meth c H locs cells slots (MQ below (zQi D (zOwn B K0 (B + n0)) r B n' K' I' R') args s 1 8 (zOwn B K0 (B + n0))) (F0 m 106 ls [])) {x0 : Option Nat} {x1 : Option Nat} {x2 : Option Nat} {x3 : Int32} {x5 : Int32} {cells slots : Nat} (hf : f_L_types_134 F k13 k106 n K I R x0 x1 x2 x3 x5 = some (r, n', K', I', R')) (b1 : cells + 0 ≤ 1) (b2 : slots + 0 ≤ 8) (hW : zS (zOwn B K0 (B + n0)) D B n K I R s.heap H locs) (hl : lv_has ls 6 [(0, zrf B x0), (1, zrf B x1), (2, zrf B x2), (3, .int x3), (5, .int x5)]) : W p l e ({ frames := 3, cells := 1, slots := 8, locals := 82 } : Room) s m args below meth c H locs cells slots (MQ below (zQi D (zOwn B K0 (B + n0)) r B n' K' I' R') args s 1 8 (zOwn B K0 (B + n0))) (F0 m 134 ls []) := by
  unfold f_L_types_134 at hf
  refine lv_iconst (v := 0) X.1 X.2.1 dL_types_134 (by decide) ?_
  exact w_L_types_135 X hr hlk hk13 hk106 hf (by (try dsimp only); omega) (by (try dsimp only); omega) hW hl
set_option maxRecDepth 100000 in
set_option maxHeartbeats 4000000 in
theorem wg_L_types_106 {F : Nat} {k13 : Nat → zK → zI → zR → Option Nat → Option Nat → Option Nat → Int32 → Int32 → Int32 → Option (Int32 × Nat × zK × zI × zR)} (X : zX p s m c cL_types 6 RL D) (hr : meth.sig.returnType = some .boolean) (hlk : meth.locks = false) (hk13 : ∀ (n : Nat) (K : zK) (I : zI) (R : zR) (x0 : Option Nat) (x1 : Option Nat) (x2 : Option Nat) (x3 : Int32) (x4 : Int32) (x5 : Int32) (cells slots : Nat) (H : Heap) (locs : List Loc) (ls : Array Slot), k13 n K I R x0 x1 x2 x3 x4 x5 = some (r, n', K', I', R') → cells + 0 ≤ 1 → slots + 0 ≤ 8 → zS (zOwn B K0 (B + n0)) D B n K I R s.heap H locs → lv_has ls 6 [(0, zrf B x0), (1, zrf B x1), (2, zrf B x2), (3, .int x3), (4, .int x4), (5, .int x5)] → W p l e ({ frames := 3, cells := 1, slots := 8, locals := 82 } : Room) s m args below meth c H locs cells slots (MQ below (zQi D (zOwn B K0 (B + n0)) r B n' K' I' R') args s 1 8 (zOwn B K0 (B + n0))) (F0 m 13 ls [])) {kself : Nat → zK → zI → zR → Option Nat → Option Nat → Option Nat → Int32 → Int32 → Int32 → Option (Int32 × Nat × zK × zI × zR)} (hkself : ∀ (n : Nat) (K : zK) (I : zI) (R : zR) (x0 : Option Nat) (x1 : Option Nat) (x2 : Option Nat) (x3 : Int32) (x4 : Int32) (x5 : Int32) (cells slots : Nat) (H : Heap) (locs : List Loc) (ls : Array Slot), kself n K I R x0 x1 x2 x3 x4 x5 = some (r, n', K', I', R') → cells + 0 ≤ 1 → slots + 0 ≤ 8 → zS (zOwn B K0 (B + n0)) D B n K I R s.heap H locs → lv_has ls 6 [(0, zrf B x0), (1, zrf B x1), (2, zrf B x2), (3, .int x3), (4, .int x4), (5, .int x5)] → W p l e ({ frames := 3, cells := 1, slots := 8, locals := 82 } : Room) s m args below meth c H locs cells slots (MQ below (zQi D (zOwn B K0 (B + n0)) r B n' K' I' R') args s 1 8 (zOwn B K0 (B + n0))) (F0 m 106 ls [])) {x0 : Option Nat} {x1 : Option Nat} {x2 : Option Nat} {x3 : Int32} {x4 : Int32} {x5 : Int32} {cells slots : Nat} (hf : g_L_types_106 F k13 kself n K I R x0 x1 x2 x3 x4 x5 = some (r, n', K', I', R')) (b1 : cells + 0 ≤ 1) (b2 : slots + 0 ≤ 8) (hW : zS (zOwn B K0 (B + n0)) D B n K I R s.heap H locs) (hl : lv_has ls 6 [(0, zrf B x0), (1, zrf B x1), (2, zrf B x2), (3, .int x3), (4, .int x4), (5, .int x5)]) : W p l e ({ frames := 3, cells := 1, slots := 8, locals := 82 } : Room) s m args below meth c H locs cells slots (MQ below (zQi D (zOwn B K0 (B + n0)) r B n' K' I' R') args s 1 8 (zOwn B K0 (B + n0))) (F0 m 106 ls []) := by
  unfold g_L_types_106 at hf
  refine lv_iload_n X.1 X.2.1 dL_types_106 rfl (lv_at hl 3 rfl) ?_
  refine lv_if_le (tgt := 150) X.1 X.2.1 dL_types_107 (by decide) (fun c15 => ?_) (fun c15 => ?_)
  · replace hf := zif_pos c15 hf
    exact w_L_types_150 X hr hlk hk13 hf (by (try dsimp only); omega) (by (try dsimp only); omega) hW hl
  · replace hf := zif_neg c15 hf
    refine ze_aload_n X.1 X.2.1 dL_types_110 rfl (lv_at hl 2 rfl) ?_
    refine lv_iload_n X.1 X.2.1 dL_types_111 rfl (lv_at hl 3 rfl) ?_
    obtain ⟨a16, rfl, k18, hg⟩ := zh_dr hf
    replace hf := hg
    refine ze_iald X hf hW k18 dL_types_112 (fun v19 hg => ?_)
    replace hf := hg
    refine lv_if_ne (tgt := 150) X.1 X.2.1 dL_types_113 (by decide) (fun c20 => ?_) (fun c20 => ?_)
    · replace hf := zif_neg c20 hf
      exact w_L_types_150 X hr hlk hk13 hf (by (try dsimp only); omega) (by (try dsimp only); omega) hW hl
    · replace hf := zif_pos c20 hf
      refine lv_iload X.1 X.2.1 dL_types_116 (lv_at hl 4 rfl) ?_
      refine lv_if_eq (tgt := 134) X.1 X.2.1 dL_types_118 (by decide) (fun c21 => ?_) (fun c21 => ?_)
      · replace hf := zif_pos c21 hf
        exact w_L_types_134 X hr hlk hk13 hkself hf (by (try dsimp only); omega) (by (try dsimp only); omega) hW (lv_sub hl [0, 1, 2, 3, 5] rfl)
      · replace hf := zif_neg c21 hf
        refine ze_aload_n X.1 X.2.1 dL_types_121 rfl (lv_at hl 0 rfl) ?_
        refine lv_bipush (v := 41) X.1 X.2.1 dL_types_122 (by decide) ?_
        obtain ⟨a22, rfl, k24, hg⟩ := zh_dr hf
        replace hf := hg
        obtain ⟨v25, I26, h27, hg⟩ := zh_bd2 hf
        replace hf := hg
        refine ze_aftI0 (ze_runV (As := [.int (41 : Int32)]) (rest := []) X 6 9 (c_X6_type l D B n k24 h27) vX6_type kml_L_9 hW k24 rfl rfl ⟨by decide, by decide⟩ rfl hl.1 rfl (Nat.le_of_ble_eq_true rfl) ⟨by show _ + 0 ≤ (1 : Nat); (try dsimp only); omega, by show _ + 0 ≤ (8 : Nat); (try dsimp only); omega⟩ dL_types_124) hW (fun H locs hV => ?_)
        replace hW := hV
        refine lv_if_le (tgt := 134) X.1 X.2.1 dL_types_127 (by decide) (fun c28 => ?_) (fun c28 => ?_)
        · replace hf := zif_pos c28 hf
          exact w_L_types_134 X hr hlk hk13 hkself hf (by (try dsimp only); omega) (by (try dsimp only); omega) hW (lv_sub hl [0, 1, 2, 3, 5] rfl)
        · replace hf := zif_neg c28 hf
          refine lv_iconst (v := 1) X.1 X.2.1 dL_types_130 (by decide) ?_
          refine lv_goto (tgt := 135) X.1 X.2.1 dL_types_131 (by decide) ?_
          exact w_L_types_135 X hr hlk hk13 hkself hf (by (try dsimp only); omega) (by (try dsimp only); omega) hW (lv_sub hl [0, 1, 2, 3, 5] rfl)
set_option maxRecDepth 100000 in
set_option maxHeartbeats 4000000 in
theorem w_L_types_106 {F : Nat} {k13 : Nat → zK → zI → zR → Option Nat → Option Nat → Option Nat → Int32 → Int32 → Int32 → Option (Int32 × Nat × zK × zI × zR)} (X : zX p s m c cL_types 6 RL D) (hr : meth.sig.returnType = some .boolean) (hlk : meth.locks = false) (hk13 : ∀ (n : Nat) (K : zK) (I : zI) (R : zR) (x0 : Option Nat) (x1 : Option Nat) (x2 : Option Nat) (x3 : Int32) (x4 : Int32) (x5 : Int32) (cells slots : Nat) (H : Heap) (locs : List Loc) (ls : Array Slot), k13 n K I R x0 x1 x2 x3 x4 x5 = some (r, n', K', I', R') → cells + 0 ≤ 1 → slots + 0 ≤ 8 → zS (zOwn B K0 (B + n0)) D B n K I R s.heap H locs → lv_has ls 6 [(0, zrf B x0), (1, zrf B x1), (2, zrf B x2), (3, .int x3), (4, .int x4), (5, .int x5)] → W p l e ({ frames := 3, cells := 1, slots := 8, locals := 82 } : Room) s m args below meth c H locs cells slots (MQ below (zQi D (zOwn B K0 (B + n0)) r B n' K' I' R') args s 1 8 (zOwn B K0 (B + n0))) (F0 m 13 ls [])) {t : Nat} {x0 : Option Nat} {x1 : Option Nat} {x2 : Option Nat} {x3 : Int32} {x4 : Int32} {x5 : Int32} {cells slots : Nat} (hf : f_L_types_106 F k13 t n K I R x0 x1 x2 x3 x4 x5 = some (r, n', K', I', R')) (b1 : cells + 0 ≤ 1) (b2 : slots + 0 ≤ 8) (hW : zS (zOwn B K0 (B + n0)) D B n K I R s.heap H locs) (hl : lv_has ls 6 [(0, zrf B x0), (1, zrf B x1), (2, zrf B x2), (3, .int x3), (4, .int x4), (5, .int x5)]) : W p l e ({ frames := 3, cells := 1, slots := 8, locals := 82 } : Room) s m args below meth c H locs cells slots (MQ below (zQi D (zOwn B K0 (B + n0)) r B n' K' I' R') args s 1 8 (zOwn B K0 (B + n0))) (F0 m 106 ls []) := by
  have key : ∀ t : Nat, ∀ (n : Nat) (K : zK) (I : zI) (R : zR) (x0 : Option Nat) (x1 : Option Nat) (x2 : Option Nat) (x3 : Int32) (x4 : Int32) (x5 : Int32) (cells slots : Nat) (H : Heap) (locs : List Loc) (ls : Array Slot), f_L_types_106 F k13 t n K I R x0 x1 x2 x3 x4 x5 = some (r, n', K', I', R') → cells + 0 ≤ 1 → slots + 0 ≤ 8 → zS (zOwn B K0 (B + n0)) D B n K I R s.heap H locs → lv_has ls 6 [(0, zrf B x0), (1, zrf B x1), (2, zrf B x2), (3, .int x3), (4, .int x4), (5, .int x5)] → W p l e ({ frames := 3, cells := 1, slots := 8, locals := 82 } : Room) s m args below meth c H locs cells slots (MQ below (zQi D (zOwn B K0 (B + n0)) r B n' K' I' R') args s 1 8 (zOwn B K0 (B + n0))) (F0 m 106 ls []) := by
    intro t
    induction t with
    | zero =>
      intro n K I R x0 x1 x2 x3 x4 x5 cells slots H locs ls hf b1 b2 hW hl
      cases hf
    | succ t ih =>
      intro n K I R x0 x1 x2 x3 x4 x5 cells slots H locs ls hf b1 b2 hW hl
      exact wg_L_types_106 X hr hlk hk13 ih hf b1 b2 hW hl
  exact key t _ _ _ _ _ _ _ _ _ _ _ _ _ _ _ hf b1 b2 hW hl
set_option maxRecDepth 100000 in
set_option maxHeartbeats 4000000 in
theorem w_L_types_80 {F : Nat} {k13 : Nat → zK → zI → zR → Option Nat → Option Nat → Option Nat → Int32 → Int32 → Int32 → Option (Int32 × Nat × zK × zI × zR)} (X : zX p s m c cL_types 6 RL D) (hr : meth.sig.returnType = some .boolean) (hlk : meth.locks = false) (hk13 : ∀ (n : Nat) (K : zK) (I : zI) (R : zR) (x0 : Option Nat) (x1 : Option Nat) (x2 : Option Nat) (x3 : Int32) (x4 : Int32) (x5 : Int32) (cells slots : Nat) (H : Heap) (locs : List Loc) (ls : Array Slot), k13 n K I R x0 x1 x2 x3 x4 x5 = some (r, n', K', I', R') → cells + 0 ≤ 1 → slots + 0 ≤ 8 → zS (zOwn B K0 (B + n0)) D B n K I R s.heap H locs → lv_has ls 6 [(0, zrf B x0), (1, zrf B x1), (2, zrf B x2), (3, .int x3), (4, .int x4), (5, .int x5)] → W p l e ({ frames := 3, cells := 1, slots := 8, locals := 82 } : Room) s m args below meth c H locs cells slots (MQ below (zQi D (zOwn B K0 (B + n0)) r B n' K' I' R') args s 1 8 (zOwn B K0 (B + n0))) (F0 m 13 ls [])) {x0 : Option Nat} {x1 : Option Nat} {x2 : Option Nat} {x3 : Int32} {x5 : Int32} {s0 : Int32} {cells slots : Nat} (hf : f_L_types_80 F k13 n K I R x0 x1 x2 x3 x5 s0 = some (r, n', K', I', R')) (b1 : cells + 0 ≤ 1) (b2 : slots + 0 ≤ 8) (hW : zS (zOwn B K0 (B + n0)) D B n K I R s.heap H locs) (hl : lv_has ls 6 [(0, zrf B x0), (1, zrf B x1), (2, zrf B x2), (3, .int x3), (5, .int x5)]) : W p l e ({ frames := 3, cells := 1, slots := 8, locals := 82 } : Room) s m args below meth c H locs cells slots (MQ below (zQi D (zOwn B K0 (B + n0)) r B n' K' I' R') args s 1 8 (zOwn B K0 (B + n0))) (F0 m 80 ls [.int s0]) := by
  unfold f_L_types_80 at hf
  refine lv_istore (lv' := [(4, .int s0), (0, zrf B x0), (1, zrf B x1), (2, zrf B x2), (3, .int x3), (5, .int x5)]) X.1 X.2.1 dL_types_80 hl (by decide) rfl (fun ls hk => ?_)
  replace hl := hk
  refine ze_iinc (lv' := [(3, .int (x3 + (1 : Int32))), (4, .int s0), (0, zrf B x0), (1, zrf B x1), (2, zrf B x2), (5, .int x5)]) (d := 1) X.1 X.2.1 dL_types_82 hl (k := 4) rfl (by decide) (by decide) (by first | rfl | (simp [zcat, zcat_i, zcat_r, zcat_l, zrf_some]; done) | (simp [zcat, zcat_i, zcat_r, zcat_l, zrf_some]; decide)) (fun ls hk => ?_)
  replace hl := hk
  refine ze_aload_n X.1 X.2.1 dL_types_85 rfl (lv_at hl 4 rfl) ?_
  refine lv_iload_n X.1 X.2.1 dL_types_86 rfl (lv_at hl 0 rfl) ?_
  refine ze_aload_n X.1 X.2.1 dL_types_87 rfl (lv_at hl 3 rfl) ?_
  refine lv_iconst (v := 2) X.1 X.2.1 dL_types_88 (by decide) ?_
  refine lv_iload X.1 X.2.1 dL_types_89 (lv_at hl 5 rfl) ?_
  refine lv_imul X.1 X.2.1 dL_types_91 ?_
  refine lv_iconst (v := 1) X.1 X.2.1 dL_types_92 (by decide) ?_
  refine lv_iadd X.1 X.2.1 dL_types_93 ?_
  obtain ⟨a29, rfl, k31, hg⟩ := zh_dr hf
  replace hf := hg
  refine ze_iald X hf hW k31 dL_types_94 (fun v32 hg => ?_)
  replace hf := hg
  obtain ⟨a33, rfl, k35, hg⟩ := zh_dr hf
  replace hf := hg
  refine ze_iast X hf hW k35 dL_types_95 (fun I36 H locs hg hV => ?_)
  replace hf := hg
  replace hW := hV
  refine lv_goto (tgt := 175) X.1 X.2.1 dL_types_96 (by decide) ?_
  exact w_L_types_175 X hr hlk hk13 hf (by (try dsimp only); omega) (by (try dsimp only); omega) hW (lv_sub hl [2, 3, 4, 0, 1, 5] rfl)
set_option maxRecDepth 100000 in
set_option maxHeartbeats 4000000 in
theorem w_L_types_79 {F : Nat} {k13 : Nat → zK → zI → zR → Option Nat → Option Nat → Option Nat → Int32 → Int32 → Int32 → Option (Int32 × Nat × zK × zI × zR)} (X : zX p s m c cL_types 6 RL D) (hr : meth.sig.returnType = some .boolean) (hlk : meth.locks = false) (hk13 : ∀ (n : Nat) (K : zK) (I : zI) (R : zR) (x0 : Option Nat) (x1 : Option Nat) (x2 : Option Nat) (x3 : Int32) (x4 : Int32) (x5 : Int32) (cells slots : Nat) (H : Heap) (locs : List Loc) (ls : Array Slot), k13 n K I R x0 x1 x2 x3 x4 x5 = some (r, n', K', I', R') → cells + 0 ≤ 1 → slots + 0 ≤ 8 → zS (zOwn B K0 (B + n0)) D B n K I R s.heap H locs → lv_has ls 6 [(0, zrf B x0), (1, zrf B x1), (2, zrf B x2), (3, .int x3), (4, .int x4), (5, .int x5)] → W p l e ({ frames := 3, cells := 1, slots := 8, locals := 82 } : Room) s m args below meth c H locs cells slots (MQ below (zQi D (zOwn B K0 (B + n0)) r B n' K' I' R') args s 1 8 (zOwn B K0 (B + n0))) (F0 m 13 ls [])) {x0 : Option Nat} {x1 : Option Nat} {x2 : Option Nat} {x3 : Int32} {x5 : Int32} {cells slots : Nat} (hf : f_L_types_79 F k13 n K I R x0 x1 x2 x3 x5 = some (r, n', K', I', R')) (b1 : cells + 0 ≤ 1) (b2 : slots + 0 ≤ 8) (hW : zS (zOwn B K0 (B + n0)) D B n K I R s.heap H locs) (hl : lv_has ls 6 [(0, zrf B x0), (1, zrf B x1), (2, zrf B x2), (3, .int x3), (5, .int x5)]) : W p l e ({ frames := 3, cells := 1, slots := 8, locals := 82 } : Room) s m args below meth c H locs cells slots (MQ below (zQi D (zOwn B K0 (B + n0)) r B n' K' I' R') args s 1 8 (zOwn B K0 (B + n0))) (F0 m 79 ls []) := by
  unfold f_L_types_79 at hf
  refine lv_iconst (v := 0) X.1 X.2.1 dL_types_79 (by decide) ?_
  exact w_L_types_80 X hr hlk hk13 hf (by (try dsimp only); omega) (by (try dsimp only); omega) hW hl
set_option maxRecDepth 100000 in
set_option maxHeartbeats 4000000 in
theorem w_L_types_48 {F : Nat} {k13 : Nat → zK → zI → zR → Option Nat → Option Nat → Option Nat → Int32 → Int32 → Int32 → Option (Int32 × Nat × zK × zI × zR)} (X : zX p s m c cL_types 6 RL D) (hr : meth.sig.returnType = some .boolean) (hlk : meth.locks = false) (hk13 : ∀ (n : Nat) (K : zK) (I : zI) (R : zR) (x0 : Option Nat) (x1 : Option Nat) (x2 : Option Nat) (x3 : Int32) (x4 : Int32) (x5 : Int32) (cells slots : Nat) (H : Heap) (locs : List Loc) (ls : Array Slot), k13 n K I R x0 x1 x2 x3 x4 x5 = some (r, n', K', I', R') → cells + 0 ≤ 1 → slots + 0 ≤ 8 → zS (zOwn B K0 (B + n0)) D B n K I R s.heap H locs → lv_has ls 6 [(0, zrf B x0), (1, zrf B x1), (2, zrf B x2), (3, .int x3), (4, .int x4), (5, .int x5)] → W p l e ({ frames := 3, cells := 1, slots := 8, locals := 82 } : Room) s m args below meth c H locs cells slots (MQ below (zQi D (zOwn B K0 (B + n0)) r B n' K' I' R') args s 1 8 (zOwn B K0 (B + n0))) (F0 m 13 ls [])) {x0 : Option Nat} {x1 : Option Nat} {x2 : Option Nat} {x3 : Int32} {x5 : Int32} {s0 : Int32} {cells slots : Nat} (hf : f_L_types_48 F k13 n K I R x0 x1 x2 x3 x5 s0 = some (r, n', K', I', R')) (b1 : cells + 0 ≤ 1) (b2 : slots + 0 ≤ 8) (hW : zS (zOwn B K0 (B + n0)) D B n K I R s.heap H locs) (hl : lv_has ls 6 [(0, zrf B x0), (1, zrf B x1), (2, zrf B x2), (3, .int x3), (5, .int x5)]) : W p l e ({ frames := 3, cells := 1, slots := 8, locals := 82 } : Room) s m args below meth c H locs cells slots (MQ below (zQi D (zOwn B K0 (B + n0)) r B n' K' I' R') args s 1 8 (zOwn B K0 (B + n0))) (F0 m 48 ls [.int s0]) := by
  unfold f_L_types_48 at hf
  refine lv_istore (lv' := [(4, .int s0), (0, zrf B x0), (1, zrf B x1), (2, zrf B x2), (3, .int x3), (5, .int x5)]) X.1 X.2.1 dL_types_48 hl (by decide) rfl (fun ls hk => ?_)
  replace hl := hk
  refine ze_aload_n X.1 X.2.1 dL_types_50 rfl (lv_at hl 2 rfl) ?_
  refine lv_iconst (v := 2) X.1 X.2.1 dL_types_51 (by decide) ?_
  refine lv_iload X.1 X.2.1 dL_types_52 (lv_at hl 5 rfl) ?_
  refine lv_imul X.1 X.2.1 dL_types_54 ?_
  refine lv_iconst (v := 1) X.1 X.2.1 dL_types_55 (by decide) ?_
  refine lv_iadd X.1 X.2.1 dL_types_56 ?_
  obtain ⟨a37, rfl, k39, hg⟩ := zh_dr hf
  replace hf := hg
  refine ze_iald X hf hW k39 dL_types_57 (fun v40 hg => ?_)
  replace hf := hg
  refine lv_if_le (tgt := 99) X.1 X.2.1 dL_types_58 (by decide) (fun c41 => ?_) (fun c41 => ?_)
  · replace hf := zif_pos c41 hf
    refine ze_aload_n X.1 X.2.1 dL_types_99 rfl (lv_at hl 3 rfl) ?_
    refine lv_iload_n X.1 X.2.1 dL_types_100 rfl (lv_at hl 4 rfl) ?_
    refine lv_dup2_11 X.1 X.2.1 dL_types_101 rfl (zcat _ _) ?_
    obtain ⟨a42, rfl, k44, hg⟩ := zh_dr hf
    replace hf := hg
    refine ze_iald X hf hW k44 dL_types_102 (fun v45 hg => ?_)
    replace hf := hg
    refine lv_iconst (v := 1) X.1 X.2.1 dL_types_103 (by decide) ?_
    refine lv_isub X.1 X.2.1 dL_types_104 ?_
    refine ze_iast X hf hW k44 dL_types_105 (fun I46 H locs hg hV => ?_)
    replace hf := hg
    replace hW := hV
    exact w_L_types_106 X hr hlk hk13 hf (by (try dsimp only); omega) (by (try dsimp only); omega) hW (lv_sub hl [1, 2, 3, 4, 0, 5] rfl)
  · replace hf := zif_neg c41 hf
    refine lv_iload X.1 X.2.1 dL_types_61 (lv_at hl 0 rfl) ?_
    refine lv_if_eq (tgt := 79) X.1 X.2.1 dL_types_63 (by decide) (fun c47 => ?_) (fun c47 => ?_)
    · replace hf := zif_pos c47 hf
      exact w_L_types_79 X hr hlk hk13 hf (by (try dsimp only); omega) (by (try dsimp only); omega) hW (lv_sub hl [1, 2, 3, 4, 5] rfl)
    · replace hf := zif_neg c47 hf
      refine ze_aload_n X.1 X.2.1 dL_types_66 rfl (lv_at hl 1 rfl) ?_
      refine lv_bipush (v := 40) X.1 X.2.1 dL_types_67 (by decide) ?_
      obtain ⟨a48, rfl, k50, hg⟩ := zh_dr hf
      replace hf := hg
      obtain ⟨v51, I52, h53, hg⟩ := zh_bd2 hf
      replace hf := hg
      refine ze_aftI0 (ze_runV (As := [.int (40 : Int32)]) (rest := []) X 6 9 (c_X6_type l D B n k50 h53) vX6_type kml_L_9 hW k50 rfl rfl ⟨by decide, by decide⟩ rfl hl.1 rfl (Nat.le_of_ble_eq_true rfl) ⟨by show _ + 0 ≤ (1 : Nat); (try dsimp only); omega, by show _ + 0 ≤ (8 : Nat); (try dsimp only); omega⟩ dL_types_69) hW (fun H locs hV => ?_)
      replace hW := hV
      refine lv_if_le (tgt := 79) X.1 X.2.1 dL_types_72 (by decide) (fun c54 => ?_) (fun c54 => ?_)
      · replace hf := zif_pos c54 hf
        exact w_L_types_79 X hr hlk hk13 hf (by (try dsimp only); omega) (by (try dsimp only); omega) hW (lv_sub hl [1, 2, 3, 4, 5] rfl)
      · replace hf := zif_neg c54 hf
        refine lv_iconst (v := 1) X.1 X.2.1 dL_types_75 (by decide) ?_
        refine lv_goto (tgt := 80) X.1 X.2.1 dL_types_76 (by decide) ?_
        exact w_L_types_80 X hr hlk hk13 hf (by (try dsimp only); omega) (by (try dsimp only); omega) hW (lv_sub hl [1, 2, 3, 4, 5] rfl)
set_option maxRecDepth 100000 in
set_option maxHeartbeats 4000000 in
theorem wg_L_types_13 {F : Nat}  (X : zX p s m c cL_types 6 RL D) (hr : meth.sig.returnType = some .boolean) (hlk : meth.locks = false)  {kself : Nat → zK → zI → zR → Option Nat → Option Nat → Option Nat → Int32 → Int32 → Int32 → Option (Int32 × Nat × zK × zI × zR)} (hkself : ∀ (n : Nat) (K : zK) (I : zI) (R : zR) (x0 : Option Nat) (x1 : Option Nat) (x2 : Option Nat) (x3 : Int32) (x4 : Int32) (x5 : Int32) (cells slots : Nat) (H : Heap) (locs : List Loc) (ls : Array Slot), kself n K I R x0 x1 x2 x3 x4 x5 = some (r, n', K', I', R') → cells + 0 ≤ 1 → slots + 0 ≤ 8 → zS (zOwn B K0 (B + n0)) D B n K I R s.heap H locs → lv_has ls 6 [(0, zrf B x0), (1, zrf B x1), (2, zrf B x2), (3, .int x3), (4, .int x4), (5, .int x5)] → W p l e ({ frames := 3, cells := 1, slots := 8, locals := 82 } : Room) s m args below meth c H locs cells slots (MQ below (zQi D (zOwn B K0 (B + n0)) r B n' K' I' R') args s 1 8 (zOwn B K0 (B + n0))) (F0 m 13 ls [])) {x0 : Option Nat} {x1 : Option Nat} {x2 : Option Nat} {x3 : Int32} {x4 : Int32} {x5 : Int32} {cells slots : Nat} (hf : g_L_types_13 F  kself n K I R x0 x1 x2 x3 x4 x5 = some (r, n', K', I', R')) (b1 : cells + 0 ≤ 1) (b2 : slots + 0 ≤ 8) (hW : zS (zOwn B K0 (B + n0)) D B n K I R s.heap H locs) (hl : lv_has ls 6 [(0, zrf B x0), (1, zrf B x1), (2, zrf B x2), (3, .int x3), (4, .int x4), (5, .int x5)]) : W p l e ({ frames := 3, cells := 1, slots := 8, locals := 82 } : Room) s m args below meth c H locs cells slots (MQ below (zQi D (zOwn B K0 (B + n0)) r B n' K' I' R') args s 1 8 (zOwn B K0 (B + n0))) (F0 m 13 ls []) := by
  unfold g_L_types_13 at hf
  refine lv_iload X.1 X.2.1 dL_types_13 (lv_at hl 5 rfl) ?_
  refine ze_aload_n X.1 X.2.1 dL_types_15 rfl (lv_at hl 1 rfl) ?_
  refine lv_bipush (v := 62) X.1 X.2.1 dL_types_16 (by decide) ?_
  obtain ⟨a55, rfl, k57, hg⟩ := zh_dr hf
  replace hf := hg
  refine ze_iald X hf hW k57 dL_types_18 (fun v58 hg => ?_)
  replace hf := hg
  refine lv_icmp_ge (tgt := 181) X.1 X.2.1 dL_types_19 (by decide) (fun c59 => ?_) (fun c59 => ?_)
  · replace hf := zif_pos c59 hf
    refine lv_iload X.1 X.2.1 dL_types_181 (lv_at hl 4 rfl) ?_
    obtain ⟨hv60, hg⟩ := zh_if hf
    replace hf := hg
    obtain ⟨rfl, rfl, rfl, rfl, rfl⟩ := zi5 hf
    exact ze_retZ X hr hlk hv60 hW (by (try dsimp only); omega) (by (try dsimp only); omega) dL_types_183
  · replace hf := zif_neg c59 hf
    refine lv_iload X.1 X.2.1 dL_types_22 (lv_at hl 4 rfl) ?_
    refine lv_if_eq (tgt := 181) X.1 X.2.1 dL_types_24 (by decide) (fun c61 => ?_) (fun c61 => ?_)
    · replace hf := zif_pos c61 hf
      refine lv_iload X.1 X.2.1 dL_types_181 (lv_at hl 4 rfl) ?_
      obtain ⟨hv62, hg⟩ := zh_if hf
      replace hf := hg
      obtain ⟨rfl, rfl, rfl, rfl, rfl⟩ := zi5 hf
      exact ze_retZ X hr hlk hv62 hW (by (try dsimp only); omega) (by (try dsimp only); omega) dL_types_183
    · replace hf := zif_neg c61 hf
      refine ze_aload_n X.1 X.2.1 dL_types_27 rfl (lv_at hl 0 rfl) ?_
      refine lv_bipush (v := 97) X.1 X.2.1 dL_types_28 (by decide) ?_
      refine lv_aload_n X.1 X.2.1 dL_types_30 rfl (lv_at hl 1 rfl) ?_
      refine lv_iconst (v := 2) X.1 X.2.1 dL_types_31 (by decide) ?_
      refine lv_iload X.1 X.2.1 dL_types_32 (lv_at hl 5 rfl) ?_
      refine lv_imul X.1 X.2.1 dL_types_34 ?_
      refine ze_iald X hf hW k57 dL_types_35 (fun v63 hg => ?_)
      replace hf := hg
      refine lv_iadd X.1 X.2.1 dL_types_36 ?_
      obtain ⟨a64, rfl, k66, hg⟩ := zh_dr hf
      replace hf := hg
      obtain ⟨v67, I68, h69, hg⟩ := zh_bd2 hf
      replace hf := hg
      refine ze_aftI0 (ze_runV (As := [.int ((97 : Int32) + v63)]) (rest := []) X 6 9 (c_X6_type l D B n k66 h69) vX6_type kml_L_9 hW k66 rfl rfl ⟨by decide, by decide⟩ rfl hl.1 rfl (Nat.le_of_ble_eq_true rfl) ⟨by show _ + 0 ≤ (1 : Nat); (try dsimp only); omega, by show _ + 0 ≤ (8 : Nat); (try dsimp only); omega⟩ dL_types_37) hW (fun H locs hV => ?_)
      replace hW := hV
      refine lv_if_le (tgt := 47) X.1 X.2.1 dL_types_40 (by decide) (fun c70 => ?_) (fun c70 => ?_)
      · replace hf := zif_pos c70 hf
        refine lv_iconst (v := 0) X.1 X.2.1 dL_types_47 (by decide) ?_
        exact w_L_types_48 X hr hlk hkself hf (by (try dsimp only); omega) (by (try dsimp only); omega) hW (lv_sub hl [0, 1, 2, 3, 5] rfl)
      · replace hf := zif_neg c70 hf
        refine lv_iconst (v := 1) X.1 X.2.1 dL_types_43 (by decide) ?_
        refine lv_goto (tgt := 48) X.1 X.2.1 dL_types_44 (by decide) ?_
        exact w_L_types_48 X hr hlk hkself hf (by (try dsimp only); omega) (by (try dsimp only); omega) hW (lv_sub hl [0, 1, 2, 3, 5] rfl)
set_option maxRecDepth 100000 in
set_option maxHeartbeats 4000000 in
theorem w_L_types_13 {F : Nat}  (X : zX p s m c cL_types 6 RL D) (hr : meth.sig.returnType = some .boolean) (hlk : meth.locks = false)  {t : Nat} {x0 : Option Nat} {x1 : Option Nat} {x2 : Option Nat} {x3 : Int32} {x4 : Int32} {x5 : Int32} {cells slots : Nat} (hf : f_L_types_13 F  t n K I R x0 x1 x2 x3 x4 x5 = some (r, n', K', I', R')) (b1 : cells + 0 ≤ 1) (b2 : slots + 0 ≤ 8) (hW : zS (zOwn B K0 (B + n0)) D B n K I R s.heap H locs) (hl : lv_has ls 6 [(0, zrf B x0), (1, zrf B x1), (2, zrf B x2), (3, .int x3), (4, .int x4), (5, .int x5)]) : W p l e ({ frames := 3, cells := 1, slots := 8, locals := 82 } : Room) s m args below meth c H locs cells slots (MQ below (zQi D (zOwn B K0 (B + n0)) r B n' K' I' R') args s 1 8 (zOwn B K0 (B + n0))) (F0 m 13 ls []) := by
  have key : ∀ t : Nat, ∀ (n : Nat) (K : zK) (I : zI) (R : zR) (x0 : Option Nat) (x1 : Option Nat) (x2 : Option Nat) (x3 : Int32) (x4 : Int32) (x5 : Int32) (cells slots : Nat) (H : Heap) (locs : List Loc) (ls : Array Slot), f_L_types_13 F  t n K I R x0 x1 x2 x3 x4 x5 = some (r, n', K', I', R') → cells + 0 ≤ 1 → slots + 0 ≤ 8 → zS (zOwn B K0 (B + n0)) D B n K I R s.heap H locs → lv_has ls 6 [(0, zrf B x0), (1, zrf B x1), (2, zrf B x2), (3, .int x3), (4, .int x4), (5, .int x5)] → W p l e ({ frames := 3, cells := 1, slots := 8, locals := 82 } : Room) s m args below meth c H locs cells slots (MQ below (zQi D (zOwn B K0 (B + n0)) r B n' K' I' R') args s 1 8 (zOwn B K0 (B + n0))) (F0 m 13 ls []) := by
    intro t
    induction t with
    | zero =>
      intro n K I R x0 x1 x2 x3 x4 x5 cells slots H locs ls hf b1 b2 hW hl
      cases hf
    | succ t ih =>
      intro n K I R x0 x1 x2 x3 x4 x5 cells slots H locs ls hf b1 b2 hW hl
      exact wg_L_types_13 X hr hlk  ih hf b1 b2 hW hl
  exact key t _ _ _ _ _ _ _ _ _ _ _ _ _ _ _ hf b1 b2 hW hl
set_option maxRecDepth 100000 in
set_option maxHeartbeats 4000000 in
theorem c_L_types (l : Launch) (D : zD) (B n : Nat) {F : Nat} {K : zK} {I : zI} {R : zR} {x0 : Option Nat} {x1 : Option Nat} {r : Int32} {n' : Nat} {K' : zK} {I' : zI} {R' : zR} (hf : f_L_types F n K I R x0 x1 = some (r, n', K', I', R')) : zM l yL_types cL_types 6 (some .boolean) ({ frames := 3, cells := 1, slots := 8, locals := 82 } : Room) D B n K I R [zrf B x0, zrf B x1] (zQi D (zOwn B K (B + n)) r B n' K' I' R') := by
  refine ze_entry (lv0 := [(0, zrf B x0), (1, zrf B x1)]) (by decide) (by simp [lg_sl, zcat, zcat_i, zcat_r, zcat_l]) (by simp [lv_args, zcat, zcat_i, zcat_r, zcat_l]) (fun p e s m below meth c X hr hlk hin hW ls hl => ?_)
  unfold f_L_types at hf
  have b1 : (0 : Nat) ≤ 0 := Nat.le_refl _
  refine lv_bipush (v := 8) X.1 X.2.1 dL_types_0 (by decide) ?_
  refine ze_nwI (N := 8) X hf kar_int (by decide) (by decide) (by decide) hW (by show _ ≤ (1 : Nat); (try dsimp only); omega) (by show _ ≤ (8 : Nat); (try dsimp only); omega) dL_types_2 (fun n71 K72 I73 H hg hV => ?_)
  replace hf := hg
  replace hW := hV
  refine lv_astore_n (i := 2) (lv' := [(2, .ref (B + n)), (0, zrf B x0), (1, zrf B x1)]) X.1 X.2.1 dL_types_4 rfl hl (by decide) (by first | rfl | (simp [zcat, zcat_i, zcat_r, zcat_l, zrf_some]; done) | (simp [zcat, zcat_i, zcat_r, zcat_l, zrf_some]; decide)) (fun ls hk => ?_)
  replace hl := hk
  refine lv_iconst (v := 0) X.1 X.2.1 dL_types_5 (by decide) ?_
  refine lv_istore_n (i := 3) (lv' := [(3, .int (0 : Int32)), (2, .ref (B + n)), (0, zrf B x0), (1, zrf B x1)]) X.1 X.2.1 dL_types_6 rfl hl (by decide) rfl (fun ls hk => ?_)
  replace hl := hk
  refine lv_iconst (v := 1) X.1 X.2.1 dL_types_7 (by decide) ?_
  refine lv_istore (lv' := [(4, .int (1 : Int32)), (3, .int (0 : Int32)), (2, .ref (B + n)), (0, zrf B x0), (1, zrf B x1)]) X.1 X.2.1 dL_types_8 hl (by decide) rfl (fun ls hk => ?_)
  replace hl := hk
  refine lv_iconst (v := 0) X.1 X.2.1 dL_types_10 (by decide) ?_
  refine lv_istore (lv' := [(5, .int (0 : Int32)), (4, .int (1 : Int32)), (3, .int (0 : Int32)), (2, .ref (B + n)), (0, zrf B x0), (1, zrf B x1)]) X.1 X.2.1 dL_types_11 hl (by decide) rfl (fun ls hk => ?_)
  replace hl := hk
  exact w_L_types_13 X hr hlk hf (by (try dsimp only); omega) (by (try dsimp only); omega) hW (lv_sub hl [4, 5, 3, 2, 1, 0] rfl)
end

/-! LeastPatternsLaw.puts(LLeastPatterns;I[I)Z -/
def f_L_puts (F : Nat) (n : Nat) (K : zK) (I : zI) (R : zR) (x0 : Option Nat) (x1 : Int32) (x2 : Option Nat) : Option (Int32 × Nat × zK × zI × zR) :=
  zbd (zdr K x0 16) fun a1 =>
  zbd2 (f_X6_clear F K I R a1) fun v4 I5 =>
  if v4 < (0 : Int32) then
    some ((0 : Int32), n, K, I5, R)
  else
    zbd5 (f_L_types F n K I5 R (some a1) x2) fun v8 n9 K10 I11 R12 =>
    if v8 = (0 : Int32) then
      some ((0 : Int32), n9, K10, I11, R12)
    else
      if (K10 a1).1 = 16 then
      zbd5 (f_X6_put F n9 K10 I11 R12 a1 x1) fun v16 n17 K18 I19 R20 =>
      zbd (zdr K18 x2 1) fun a22 =>
      zbd (zrd K18 I19 a22 (62 : Int32)) fun v25 =>
      if v16 = v25 then
        some ((1 : Int32), n17, K18, I19, R20)
      else
        some ((0 : Int32), n17, K18, I19, R20)
      else none
section
variable {p : Program} {l : Launch} {e : Env} {s : State} {m : MethodId} {args : Array Value} {below : List Frame} {meth : Method} {c : Code} {D : zD} {B n n0 n' fd ld : Nat} {K K0 K' : zK} {I I' : zI} {R R' : zR} {H : Heap} {locs : List Loc} {ls : Array Slot} {r : Int32}
set_option maxRecDepth 100000 in
set_option maxHeartbeats 4000000 in
theorem c_L_puts (l : Launch) (D : zD) (B n : Nat) {F : Nat} {K : zK} {I : zI} {R : zR} {x0 : Option Nat} {x1 : Int32} {x2 : Option Nat} {r : Int32} {n' : Nat} {K' : zK} {I' : zI} {R' : zR} (hf : f_L_puts F n K I R x0 x1 x2 = some (r, n', K', I', R')) : zM l yL_puts cL_puts 3 (some .boolean) ({ frames := 6, cells := 9, slots := 208, locals := 163 } : Room) D B n K I R [zrf B x0, .int x1, zrf B x2] (zQi D (zOwn B K (B + n)) r B n' K' I' R') := by
  refine ze_entry (lv0 := [(0, zrf B x0), (1, .int x1), (2, zrf B x2)]) (by decide) (by simp [lg_sl, zcat, zcat_i, zcat_r, zcat_l]) (by simp [lv_args, zcat, zcat_i, zcat_r, zcat_l]) (fun p e s m below meth c X hr hlk hin hW ls hl => ?_)
  unfold f_L_puts at hf
  have b1 : (0 : Nat) ≤ 0 := Nat.le_refl _
  refine ze_aload_n X.1 X.2.1 dL_puts_0 rfl (lv_at hl 0 rfl) ?_
  obtain ⟨a1, rfl, k3, hg⟩ := zh_dr hf
  replace hf := hg
  obtain ⟨v4, I5, h6, hg⟩ := zh_bd2 hf
  replace hf := hg
  refine ze_aftI0 (ze_runV (As := []) (rest := []) X 6 15 (c_X6_clear l D B n k3 h6) vX6_clear kml_L_15 hW k3 rfl rfl ⟨by decide, by decide⟩ rfl hl.1 rfl (Nat.le_of_ble_eq_true rfl) ⟨by show _ + 0 ≤ (9 : Nat); (try dsimp only); omega, by show _ + 0 ≤ (208 : Nat); (try dsimp only); omega⟩ dL_puts_1) hW (fun H locs hV => ?_)
  replace hW := hV
  refine lv_if_lt (tgt := 31) X.1 X.2.1 dL_puts_4 (by decide) (fun c7 => ?_) (fun c7 => ?_)
  · replace hf := zif_pos c7 hf
    refine lv_iconst (v := 0) X.1 X.2.1 dL_puts_31 (by decide) ?_
    obtain ⟨rfl, rfl, rfl, rfl, rfl⟩ := zi5 hf
    exact ze_retZ X hr hlk (by decide) hW (by (try dsimp only); omega) (by (try dsimp only); omega) dL_puts_32
  · replace hf := zif_neg c7 hf
    refine lv_aload_n X.1 X.2.1 dL_puts_7 rfl (lv_at hl 0 rfl) ?_
    refine ze_aload_n X.1 X.2.1 dL_puts_8 rfl (lv_at hl 2 rfl) ?_
    obtain ⟨v8, n9, K10, I11, R12, h13, hg⟩ := zh_bd5 hf
    replace hf := hg
    refine ze_aftI (ze_runS (As := [.ref (B + a1), zrf B x2]) (rest := []) X 19 (c_L_types l D B n h13) vL_types kml_L_19 hW ⟨by decide, by decide⟩ rfl hl.1 rfl (Nat.le_of_ble_eq_true rfl) ⟨by show _ + 1 ≤ (9 : Nat); (try dsimp only); omega, by show _ + 8 ≤ (208 : Nat); (try dsimp only); omega⟩ dL_puts_9) hW (fun H locs hV => ?_)
    replace hW := hV
    refine lv_if_eq (tgt := 31) X.1 X.2.1 dL_puts_12 (by decide) (fun c14 => ?_) (fun c14 => ?_)
    · replace hf := zif_pos c14 hf
      refine lv_iconst (v := 0) X.1 X.2.1 dL_puts_31 (by decide) ?_
      obtain ⟨rfl, rfl, rfl, rfl, rfl⟩ := zi5 hf
      exact ze_retZ X hr hlk (by decide) hW (by (try dsimp only); omega) (by (try dsimp only); omega) dL_puts_32
    · replace hf := zif_neg c14 hf
      refine lv_aload_n X.1 X.2.1 dL_puts_15 rfl (lv_at hl 0 rfl) ?_
      refine lv_iload_n X.1 X.2.1 dL_puts_16 rfl (lv_at hl 1 rfl) ?_
      obtain ⟨k15, hg⟩ := zh_if hf
      replace hf := hg
      obtain ⟨v16, n17, K18, I19, R20, h21, hg⟩ := zh_bd5 hf
      replace hf := hg
      refine ze_aftI (ze_runV (As := [.int x1]) (rest := []) X 6 25 (c_X6_put l D B n9 h21) vX6_put kml_L_25 hW k15 rfl rfl ⟨by decide, by decide⟩ rfl hl.1 rfl (Nat.le_of_ble_eq_true rfl) ⟨by show _ + 8 ≤ (9 : Nat); (try dsimp only); omega, by show _ + 200 ≤ (208 : Nat); (try dsimp only); omega⟩ dL_puts_17) hW (fun H locs hV => ?_)
      replace hW := hV
      refine ze_aload_n X.1 X.2.1 dL_puts_20 rfl (lv_at hl 2 rfl) ?_
      refine lv_bipush (v := 62) X.1 X.2.1 dL_puts_21 (by decide) ?_
      obtain ⟨a22, rfl, k24, hg⟩ := zh_dr hf
      replace hf := hg
      refine ze_iald X hf hW k24 dL_puts_23 (fun v25 hg => ?_)
      replace hf := hg
      refine lv_icmp_ne (tgt := 31) X.1 X.2.1 dL_puts_24 (by decide) (fun c26 => ?_) (fun c26 => ?_)
      · replace hf := zif_neg c26 hf
        refine lv_iconst (v := 0) X.1 X.2.1 dL_puts_31 (by decide) ?_
        obtain ⟨rfl, rfl, rfl, rfl, rfl⟩ := zi5 hf
        exact ze_retZ X hr hlk (by decide) hW (by (try dsimp only); omega) (by (try dsimp only); omega) dL_puts_32
      · replace hf := zif_pos c26 hf
        refine lv_iconst (v := 1) X.1 X.2.1 dL_puts_27 (by decide) ?_
        refine lv_goto (tgt := 32) X.1 X.2.1 dL_puts_28 (by decide) ?_
        obtain ⟨rfl, rfl, rfl, rfl, rfl⟩ := zi5 hf
        exact ze_retZ X hr hlk (by decide) hW (by (try dsimp only); omega) (by (try dsimp only); omega) dL_puts_32
end

/-! LeastPatternsLaw.joins(LLeastPatterns;I)Z -/
def f_L_joins_338 (F : Nat)  (z : Nat) (n : Nat) (K : zK) (I : zI) (R : zR) (x1 : Int32) (s0 : Int32) (s1 : Int32) : Option (Int32 × Nat × zK × zI × zR) :=
  if s0 = s1 then
    if x1 < (0 : Int32) then
      some ((0 : Int32), n, K, I, R)
    else
      some ((1 : Int32), n, K, I, R)
  else
    some ((0 : Int32), n, K, I, R)
def f_L_joins_319 (F : Nat)  (z : Nat) (n : Nat) (K : zK) (I : zI) (R : zR) (x0 : Option Nat) (x1 : Int32) (x4 : Int32) (s0 : Int32) (s1 : Int32) : Option (Int32 × Nat × zK × zI × zR) :=
  if s0 = s1 then
    zbd (zdr K x0 16) fun a4 =>
    zbd3 (f_X6_compare F K I R a4 (0 : Int32) (3 : Int32)) fun v7 I8 R9 =>
    if x4 = (0 : Int32) then
      f_L_joins_338 F z n K I8 R9 x1 v7 (0 : Int32)
    else
      f_L_joins_338 F z n K I8 R9 x1 v7 (2 : Int32)
  else
    some ((0 : Int32), n, K, I, R)
def f_L_joins_297 (F : Nat)  (z : Nat) (n : Nat) (K : zK) (I : zI) (R : zR) (x0 : Option Nat) (x1 : Int32) (x3 : Int32) (s0 : Int32) : Option (Int32 × Nat × zK × zI × zR) :=
  if x3 = (0 : Int32) then
    some ((0 : Int32), n, K, I, R)
  else
    zbd (zdr K x0 16) fun a13 =>
    zbd3 (f_X6_compare F K I R a13 (3 : Int32) (0 : Int32)) fun v16 I17 R18 =>
    if s0 = (0 : Int32) then
      f_L_joins_319 F z n K I17 R18 (some a13) x1 s0 v16 (0 : Int32)
    else
      f_L_joins_319 F z n K I17 R18 (some a13) x1 s0 v16 (1 : Int32)
def f_L_joins_283 (F : Nat)  (z : Nat) (n : Nat) (K : zK) (I : zI) (R : zR) (x0 : Option Nat) (x1 : Int32) (x3 : Int32) : Option (Int32 × Nat × zK × zI × zR) :=
  zbd (zdr K x0 16) fun a21 =>
  zbd3 (f_X6_covers F K I R a21 (0 : Int32) (3 : Int32)) fun v24 I25 R26 =>
  if v24 = (0 : Int32) then
    f_L_joins_297 F z n K I25 R26 (some a21) x1 x3 (1 : Int32)
  else
    f_L_joins_297 F z n K I25 R26 (some a21) x1 x3 (0 : Int32)
def f_L_joins_276 (F : Nat) (k176 : Nat → Nat → zK → zI → zR → Option Nat → Int32 → Int32 → Int32 → Option (Int32 × Nat × zK × zI × zR)) (z : Nat) (n : Nat) (K : zK) (I : zI) (R : zR) (x0 : Option Nat) (x1 : Int32) (x4 : Int32) (s0 : Int32) : Option (Int32 × Nat × zK × zI × zR) :=
  k176 z n K I R x0 x1 s0 (x4 + (1 : Int32))
def f_L_joins_275 (F : Nat) (k176 : Nat → Nat → zK → zI → zR → Option Nat → Int32 → Int32 → Int32 → Option (Int32 × Nat × zK × zI × zR)) (z : Nat) (n : Nat) (K : zK) (I : zI) (R : zR) (x0 : Option Nat) (x1 : Int32) (x4 : Int32) : Option (Int32 × Nat × zK × zI × zR) :=
  f_L_joins_276 F k176 z n K I R x0 x1 x4 (0 : Int32)
def g_L_joins_176 (F : Nat)  (kself : Nat → Nat → zK → zI → zR → Option Nat → Int32 → Int32 → Int32 → Option (Int32 × Nat × zK × zI × zR)) (z : Nat) (n : Nat) (K : zK) (I : zI) (R : zR) (x0 : Option Nat) (x1 : Int32) (x3 : Int32) (x4 : Int32) : Option (Int32 × Nat × zK × zI × zR) :=
  match z with
  | 0 => none
  | z + 1 =>
    if (10 : Int32) ≤ x4 then
      f_L_joins_283 F z n K I R x0 x1 x3
    else
      if x3 = (0 : Int32) then
        f_L_joins_283 F z n K I R x0 x1 x3
      else
        zbd (zdr K x0 16) fun a31 =>
        zbd3 (f_X6_filled F K I R a31 (3 : Int32) (0 : Int32) x4 (0 : Int32)) fun v34 I35 R36 =>
        zbd5 (f_X6_origin F n K I35 R36 a31 (0 : Int32) (1 : Int32) x4 (0 : Int32)) fun v38 n39 K40 I41 R42 =>
        if v34 = v38 then
          if (K40 a31).1 = 16 then
          zbd3 (f_X6_filled F K40 I41 R42 a31 (3 : Int32) (1 : Int32) x4 (0 : Int32)) fun v46 I47 R48 =>
          zbd5 (f_X6_origin F n39 K40 I47 R48 a31 (0 : Int32) (1 : Int32) x4 (2 : Int32)) fun v50 n51 K52 I53 R54 =>
          if v46 = v50 then
            if (K52 a31).1 = 16 then
            zbd3 (f_X6_filled F K52 I53 R54 a31 (3 : Int32) (0 : Int32) x4 (1 : Int32)) fun v58 I59 R60 =>
            zbd5 (f_X6_origin F n51 K52 I59 R60 a31 (0 : Int32) (1 : Int32) x4 (1 : Int32)) fun v62 n63 K64 I65 R66 =>
            if v58 = v62 then
              if (K64 a31).1 = 16 then
              zbd3 (f_X6_filled F K64 I65 R66 a31 (3 : Int32) (1 : Int32) x4 (1 : Int32)) fun v70 I71 R72 =>
              zbd5 (f_X6_origin F n63 K64 I71 R72 a31 (0 : Int32) (1 : Int32) x4 (3 : Int32)) fun v74 n75 K76 I77 R78 =>
              if v70 = v74 then
                f_L_joins_276 F kself z n75 K76 I77 R78 (some a31) x1 x4 (1 : Int32)
              else
                f_L_joins_275 F kself z n75 K76 I77 R78 (some a31) x1 x4
              else none
            else
              f_L_joins_275 F kself z n63 K64 I65 R66 (some a31) x1 x4
            else none
          else
            f_L_joins_275 F kself z n51 K52 I53 R54 (some a31) x1 x4
          else none
        else
          f_L_joins_275 F kself z n39 K40 I41 R42 (some a31) x1 x4
def f_L_joins_176 (F : Nat)  : Nat → Nat → Nat → zK → zI → zR → Option Nat → Int32 → Int32 → Int32 → Option (Int32 × Nat × zK × zI × zR)
  | 0, _, _, _, _, _, _, _, _, _ => none
  | t + 1, z, n, K, I, R, x0, x1, x3, x4 => g_L_joins_176 F  (f_L_joins_176 F  t) z n K I R x0 x1 x3 x4
def f_L_joins_172 (F : Nat)  (z : Nat) (n : Nat) (K : zK) (I : zI) (R : zR) (x0 : Option Nat) (x1 : Int32) (s0 : Int32) : Option (Int32 × Nat × zK × zI × zR) :=
  f_L_joins_176 F F z n K I R x0 x1 s0 (0 : Int32)
def f_L_joins_171 (F : Nat)  (z : Nat) (n : Nat) (K : zK) (I : zI) (R : zR) (x0 : Option Nat) (x1 : Int32) : Option (Int32 × Nat × zK × zI × zR) :=
  f_L_joins_172 F z n K I R x0 x1 (0 : Int32)
def f_L_joins_115 (F : Nat)  (z : Nat) (n : Nat) (K : zK) (I : zI) (R : zR) (x0 : Option Nat) (x1 : Int32) (s0 : Int32) : Option (Int32 × Nat × zK × zI × zR) :=
  if s0 = (0 : Int32) then
    f_L_joins_171 F z n K I R x0 x1
  else
    zbd (zdr K x0 16) fun a82 =>
    zbd5 (f_X6_join F n K I R a82 (0 : Int32) (0 : Int32) (4 : Int32)) fun v85 n86 K87 I88 R89 =>
    if (K87 a82).1 = 16 then
    zbd (f_X6_size F K87 I88 R89 a82 (0 : Int32) (0 : Int32)) fun v92 =>
    if v85 = v92 then
      zbd3 (f_X6_compare F K87 I88 R89 a82 (4 : Int32) (0 : Int32)) fun v95 I96 R97 =>
      if v95 = (0 : Int32) then
        zbd (f_X6_size F K87 I96 R97 a82 (4 : Int32) (2 : Int32)) fun v100 =>
        if v100 = (0 : Int32) then
          zbd3 (f_X6_covered F K87 I96 R97 a82 (3 : Int32)) fun v103 I104 R105 =>
          if (v103 &&& (27 : Int32)) = (27 : Int32) then
            f_L_joins_172 F z n86 K87 I104 R105 (some a82) x1 (1 : Int32)
          else
            f_L_joins_171 F z n86 K87 I104 R105 (some a82) x1
        else
          f_L_joins_171 F z n86 K87 I96 R97 (some a82) x1
      else
        f_L_joins_171 F z n86 K87 I96 R97 (some a82) x1
    else
      f_L_joins_171 F z n86 K87 I88 R89 (some a82) x1
    else none
def f_L_joins_114 (F : Nat)  (z : Nat) (n : Nat) (K : zK) (I : zI) (R : zR) (x0 : Option Nat) (x1 : Int32) : Option (Int32 × Nat × zK × zI × zR) :=
  f_L_joins_115 F z n K I R x0 x1 (0 : Int32)
def f_L_joins (F : Nat) (n : Nat) (K : zK) (I : zI) (R : zR) (x0 : Option Nat) (x1 : Int32) : Option (Int32 × Nat × zK × zI × zR) :=
  zbd (zdr K x0 16) fun a108 =>
  zbd5 (f_X6_join F n K I R a108 (0 : Int32) (1 : Int32) (3 : Int32)) fun v111 n112 K113 I114 R115 =>
  if v111 = (-3 : Int32) then
    if (K113 a108).1 = 16 then
    zbd5 (f_X6_join F n112 K113 I114 R115 a108 (1 : Int32) (0 : Int32) (4 : Int32)) fun v154 n155 K156 I157 R158 =>
    if v154 = (-3 : Int32) then
      if (K156 a108).1 = 16 then
      zbd (f_X6_node F K156 I157 R158 a108 (3 : Int32) (0 : Int32) (0 : Int32)) fun v162 =>
      if v162 = (-2 : Int32) then
        some ((1 : Int32), n155, K156, I157, R158)
      else
        some ((0 : Int32), n155, K156, I157, R158)
      else none
    else
      some ((0 : Int32), n155, K156, I157, R158)
    else none
  else
    if v111 ≤ (0 : Int32) then
      f_L_joins_114 F 11 n112 K113 I114 R115 (some a108) x1
    else
      if (K113 a108).1 = 16 then
      zbd3 (f_X6_covers F K113 I114 R115 a108 (3 : Int32) (0 : Int32)) fun v120 I121 R122 =>
      if v120 = (1 : Int32) then
        zbd3 (f_X6_covers F K113 I121 R122 a108 (3 : Int32) (1 : Int32)) fun v125 I126 R127 =>
        if v125 = (1 : Int32) then
          zbd5 (f_X6_join F n112 K113 I126 R127 a108 (1 : Int32) (0 : Int32) (4 : Int32)) fun v130 n131 K132 I133 R134 =>
          if v130 = v111 then
            if (K132 a108).1 = 16 then
            zbd3 (f_X6_compare F K132 I133 R134 a108 (3 : Int32) (4 : Int32)) fun v138 I139 R140 =>
            if v138 = (0 : Int32) then
              zbd3 (f_X6_isLeast F K132 I139 R140 a108 (3 : Int32) (0 : Int32) (1 : Int32)) fun v143 I144 R145 =>
              if v143 = (1 : Int32) then
                zbd3 (f_X6_isLeast F K132 I144 R145 a108 (4 : Int32) (0 : Int32) (1 : Int32)) fun v148 I149 R150 =>
                if v148 = (1 : Int32) then
                  f_L_joins_115 F 11 n131 K132 I149 R150 (some a108) x1 (1 : Int32)
                else
                  f_L_joins_114 F 11 n131 K132 I149 R150 (some a108) x1
              else
                f_L_joins_114 F 11 n131 K132 I144 R145 (some a108) x1
            else
              f_L_joins_114 F 11 n131 K132 I139 R140 (some a108) x1
            else none
          else
            f_L_joins_114 F 11 n131 K132 I133 R134 (some a108) x1
        else
          f_L_joins_114 F 11 n112 K113 I126 R127 (some a108) x1
      else
        f_L_joins_114 F 11 n112 K113 I121 R122 (some a108) x1
      else none
section
variable {p : Program} {l : Launch} {e : Env} {s : State} {m : MethodId} {args : Array Value} {below : List Frame} {meth : Method} {c : Code} {D : zD} {B n n0 n' fd ld : Nat} {K K0 K' : zK} {I I' : zI} {R R' : zR} {H : Heap} {locs : List Loc} {ls : Array Slot} {r : Int32}
set_option maxRecDepth 100000 in
set_option maxHeartbeats 4000000 in
theorem w_L_joins_338 {F : Nat}  (X : zX p s m c cL_joins 5 RL D) (hr : meth.sig.returnType = some .boolean) (hlk : meth.locks = false)  {z : Nat} {x1 : Int32} {s0 : Int32} {s1 : Int32} {cells slots : Nat} (hf : f_L_joins_338 F  z n K I R x1 s0 s1 = some (r, n', K', I', R')) (b1 : cells + 0 ≤ 188) (b2 : slots + 0 ≤ 4700) (hW : zS (zOwn B K0 (B + n0)) D B n K I R s.heap H locs) (hl : lv_has ls 5 [(1, .int x1)]) : W p l e ({ frames := 83, cells := 188, slots := 4700, locals := 4075 } : Room) s m args below meth c H locs cells slots (MQ below (zQi D (zOwn B K0 (B + n0)) r B n' K' I' R') args s 188 4700 (zOwn B K0 (B + n0))) (F0 m 338 ls [.int s1, .int s0]) := by
  unfold f_L_joins_338 at hf
  refine lv_icmp_ne (tgt := 349) X.1 X.2.1 dL_joins_338 (by decide) (fun c1 => ?_) (fun c1 => ?_)
  · replace hf := zif_neg c1 hf
    refine lv_iconst (v := 0) X.1 X.2.1 dL_joins_349 (by decide) ?_
    obtain ⟨rfl, rfl, rfl, rfl, rfl⟩ := zi5 hf
    exact ze_retZ X hr hlk (by decide) hW (by (try dsimp only); omega) (by (try dsimp only); omega) dL_joins_350
  · replace hf := zif_pos c1 hf
    refine lv_iload_n X.1 X.2.1 dL_joins_341 rfl (lv_at hl 0 rfl) ?_
    refine lv_if_lt (tgt := 349) X.1 X.2.1 dL_joins_342 (by decide) (fun c2 => ?_) (fun c2 => ?_)
    · replace hf := zif_pos c2 hf
      refine lv_iconst (v := 0) X.1 X.2.1 dL_joins_349 (by decide) ?_
      obtain ⟨rfl, rfl, rfl, rfl, rfl⟩ := zi5 hf
      exact ze_retZ X hr hlk (by decide) hW (by (try dsimp only); omega) (by (try dsimp only); omega) dL_joins_350
    · replace hf := zif_neg c2 hf
      refine lv_iconst (v := 1) X.1 X.2.1 dL_joins_345 (by decide) ?_
      refine lv_goto (tgt := 350) X.1 X.2.1 dL_joins_346 (by decide) ?_
      obtain ⟨rfl, rfl, rfl, rfl, rfl⟩ := zi5 hf
      exact ze_retZ X hr hlk (by decide) hW (by (try dsimp only); omega) (by (try dsimp only); omega) dL_joins_350
set_option maxRecDepth 100000 in
set_option maxHeartbeats 4000000 in
theorem w_L_joins_319 {F : Nat}  (X : zX p s m c cL_joins 5 RL D) (hr : meth.sig.returnType = some .boolean) (hlk : meth.locks = false)  {z : Nat} {x0 : Option Nat} {x1 : Int32} {x4 : Int32} {s0 : Int32} {s1 : Int32} {cells slots : Nat} (hf : f_L_joins_319 F  z n K I R x0 x1 x4 s0 s1 = some (r, n', K', I', R')) (b1 : cells + 0 ≤ 188) (b2 : slots + 0 ≤ 4700) (hW : zS (zOwn B K0 (B + n0)) D B n K I R s.heap H locs) (hl : lv_has ls 5 [(0, zrf B x0), (1, .int x1), (4, .int x4)]) : W p l e ({ frames := 83, cells := 188, slots := 4700, locals := 4075 } : Room) s m args below meth c H locs cells slots (MQ below (zQi D (zOwn B K0 (B + n0)) r B n' K' I' R') args s 188 4700 (zOwn B K0 (B + n0))) (F0 m 319 ls [.int s1, .int s0]) := by
  unfold f_L_joins_319 at hf
  refine lv_icmp_ne (tgt := 349) X.1 X.2.1 dL_joins_319 (by decide) (fun c3 => ?_) (fun c3 => ?_)
  · replace hf := zif_neg c3 hf
    refine lv_iconst (v := 0) X.1 X.2.1 dL_joins_349 (by decide) ?_
    obtain ⟨rfl, rfl, rfl, rfl, rfl⟩ := zi5 hf
    exact ze_retZ X hr hlk (by decide) hW (by (try dsimp only); omega) (by (try dsimp only); omega) dL_joins_350
  · replace hf := zif_pos c3 hf
    refine ze_aload_n X.1 X.2.1 dL_joins_322 rfl (lv_at hl 0 rfl) ?_
    refine lv_iconst (v := 0) X.1 X.2.1 dL_joins_323 (by decide) ?_
    refine lv_iconst (v := 3) X.1 X.2.1 dL_joins_324 (by decide) ?_
    obtain ⟨a4, rfl, k6, hg⟩ := zh_dr hf
    replace hf := hg
    obtain ⟨v7, I8, R9, h10, hg⟩ := zh_bd3 hf
    replace hf := hg
    refine ze_aftI0 (ze_runV (As := [.int (0 : Int32), .int (3 : Int32)]) (rest := []) X 6 43 (c_X6_compare l D B n k6 h10) vX6_compare kml_L_43 hW k6 rfl rfl ⟨by decide, by decide⟩ rfl hl.1 rfl (Nat.le_of_ble_eq_true rfl) ⟨by show _ + 0 ≤ (188 : Nat); (try dsimp only); omega, by show _ + 0 ≤ (4700 : Nat); (try dsimp only); omega⟩ dL_joins_325) hW (fun H locs hV => ?_)
    replace hW := hV
    refine lv_iload X.1 X.2.1 dL_joins_328 (lv_at hl 2 rfl) ?_
    refine lv_if_eq (tgt := 337) X.1 X.2.1 dL_joins_330 (by decide) (fun c11 => ?_) (fun c11 => ?_)
    · replace hf := zif_pos c11 hf
      refine lv_iconst (v := 0) X.1 X.2.1 dL_joins_337 (by decide) ?_
      exact w_L_joins_338 X hr hlk hf (by (try dsimp only); omega) (by (try dsimp only); omega) hW (lv_sub hl [1] rfl)
    · replace hf := zif_neg c11 hf
      refine lv_iconst (v := 2) X.1 X.2.1 dL_joins_333 (by decide) ?_
      refine lv_goto (tgt := 338) X.1 X.2.1 dL_joins_334 (by decide) ?_
      exact w_L_joins_338 X hr hlk hf (by (try dsimp only); omega) (by (try dsimp only); omega) hW (lv_sub hl [1] rfl)
set_option maxRecDepth 100000 in
set_option maxHeartbeats 4000000 in
theorem w_L_joins_297 {F : Nat}  (X : zX p s m c cL_joins 5 RL D) (hr : meth.sig.returnType = some .boolean) (hlk : meth.locks = false)  {z : Nat} {x0 : Option Nat} {x1 : Int32} {x3 : Int32} {s0 : Int32} {cells slots : Nat} (hf : f_L_joins_297 F  z n K I R x0 x1 x3 s0 = some (r, n', K', I', R')) (b1 : cells + 0 ≤ 188) (b2 : slots + 0 ≤ 4700) (hW : zS (zOwn B K0 (B + n0)) D B n K I R s.heap H locs) (hl : lv_has ls 5 [(0, zrf B x0), (1, .int x1), (3, .int x3)]) : W p l e ({ frames := 83, cells := 188, slots := 4700, locals := 4075 } : Room) s m args below meth c H locs cells slots (MQ below (zQi D (zOwn B K0 (B + n0)) r B n' K' I' R') args s 188 4700 (zOwn B K0 (B + n0))) (F0 m 297 ls [.int s0]) := by
  unfold f_L_joins_297 at hf
  refine lv_istore (lv' := [(4, .int s0), (0, zrf B x0), (1, .int x1), (3, .int x3)]) X.1 X.2.1 dL_joins_297 hl (by decide) rfl (fun ls hk => ?_)
  replace hl := hk
  refine lv_iload_n X.1 X.2.1 dL_joins_299 rfl (lv_at hl 3 rfl) ?_
  refine lv_if_eq (tgt := 349) X.1 X.2.1 dL_joins_300 (by decide) (fun c12 => ?_) (fun c12 => ?_)
  · replace hf := zif_pos c12 hf
    refine lv_iconst (v := 0) X.1 X.2.1 dL_joins_349 (by decide) ?_
    obtain ⟨rfl, rfl, rfl, rfl, rfl⟩ := zi5 hf
    exact ze_retZ X hr hlk (by decide) hW (by (try dsimp only); omega) (by (try dsimp only); omega) dL_joins_350
  · replace hf := zif_neg c12 hf
    refine ze_aload_n X.1 X.2.1 dL_joins_303 rfl (lv_at hl 1 rfl) ?_
    refine lv_iconst (v := 3) X.1 X.2.1 dL_joins_304 (by decide) ?_
    refine lv_iconst (v := 0) X.1 X.2.1 dL_joins_305 (by decide) ?_
    obtain ⟨a13, rfl, k15, hg⟩ := zh_dr hf
    replace hf := hg
    obtain ⟨v16, I17, R18, h19, hg⟩ := zh_bd3 hf
    replace hf := hg
    refine ze_aftI0 (ze_runV (As := [.int (3 : Int32), .int (0 : Int32)]) (rest := []) X 6 43 (c_X6_compare l D B n k15 h19) vX6_compare kml_L_43 hW k15 rfl rfl ⟨by decide, by decide⟩ rfl hl.1 rfl (Nat.le_of_ble_eq_true rfl) ⟨by show _ + 0 ≤ (188 : Nat); (try dsimp only); omega, by show _ + 0 ≤ (4700 : Nat); (try dsimp only); omega⟩ dL_joins_306) hW (fun H locs hV => ?_)
    replace hW := hV
    refine lv_iload X.1 X.2.1 dL_joins_309 (lv_at hl 0 rfl) ?_
    refine lv_if_eq (tgt := 318) X.1 X.2.1 dL_joins_311 (by decide) (fun c20 => ?_) (fun c20 => ?_)
    · replace hf := zif_pos c20 hf
      refine lv_iconst (v := 0) X.1 X.2.1 dL_joins_318 (by decide) ?_
      exact w_L_joins_319 X hr hlk hf (by (try dsimp only); omega) (by (try dsimp only); omega) hW (lv_sub hl [1, 2, 0] rfl)
    · replace hf := zif_neg c20 hf
      refine lv_iconst (v := 1) X.1 X.2.1 dL_joins_314 (by decide) ?_
      refine lv_goto (tgt := 319) X.1 X.2.1 dL_joins_315 (by decide) ?_
      exact w_L_joins_319 X hr hlk hf (by (try dsimp only); omega) (by (try dsimp only); omega) hW (lv_sub hl [1, 2, 0] rfl)
set_option maxRecDepth 100000 in
set_option maxHeartbeats 4000000 in
theorem w_L_joins_283 {F : Nat}  (X : zX p s m c cL_joins 5 RL D) (hr : meth.sig.returnType = some .boolean) (hlk : meth.locks = false)  {z : Nat} {x0 : Option Nat} {x1 : Int32} {x3 : Int32} {cells slots : Nat} (hf : f_L_joins_283 F  z n K I R x0 x1 x3 = some (r, n', K', I', R')) (b1 : cells + 0 ≤ 188) (b2 : slots + 0 ≤ 4700) (hW : zS (zOwn B K0 (B + n0)) D B n K I R s.heap H locs) (hl : lv_has ls 5 [(0, zrf B x0), (1, .int x1), (3, .int x3)]) : W p l e ({ frames := 83, cells := 188, slots := 4700, locals := 4075 } : Room) s m args below meth c H locs cells slots (MQ below (zQi D (zOwn B K0 (B + n0)) r B n' K' I' R') args s 188 4700 (zOwn B K0 (B + n0))) (F0 m 283 ls []) := by
  unfold f_L_joins_283 at hf
  refine ze_aload_n X.1 X.2.1 dL_joins_283 rfl (lv_at hl 0 rfl) ?_
  refine lv_iconst (v := 0) X.1 X.2.1 dL_joins_284 (by decide) ?_
  refine lv_iconst (v := 3) X.1 X.2.1 dL_joins_285 (by decide) ?_
  obtain ⟨a21, rfl, k23, hg⟩ := zh_dr hf
  replace hf := hg
  obtain ⟨v24, I25, R26, h27, hg⟩ := zh_bd3 hf
  replace hf := hg
  refine ze_aftI0 (ze_runV (As := [.int (0 : Int32), .int (3 : Int32)]) (rest := []) X 6 39 (c_X6_covers l D B n k23 h27) vX6_covers kml_L_39 hW k23 rfl rfl ⟨by decide, by decide⟩ rfl hl.1 rfl (Nat.le_of_ble_eq_true rfl) ⟨by show _ + 0 ≤ (188 : Nat); (try dsimp only); omega, by show _ + 0 ≤ (4700 : Nat); (try dsimp only); omega⟩ dL_joins_286) hW (fun H locs hV => ?_)
  replace hW := hV
  refine lv_if_ne (tgt := 296) X.1 X.2.1 dL_joins_289 (by decide) (fun c28 => ?_) (fun c28 => ?_)
  · replace hf := zif_neg c28 hf
    refine lv_iconst (v := 0) X.1 X.2.1 dL_joins_296 (by decide) ?_
    exact w_L_joins_297 X hr hlk hf (by (try dsimp only); omega) (by (try dsimp only); omega) hW hl
  · replace hf := zif_pos c28 hf
    refine lv_iconst (v := 1) X.1 X.2.1 dL_joins_292 (by decide) ?_
    refine lv_goto (tgt := 297) X.1 X.2.1 dL_joins_293 (by decide) ?_
    exact w_L_joins_297 X hr hlk hf (by (try dsimp only); omega) (by (try dsimp only); omega) hW hl
set_option maxRecDepth 100000 in
set_option maxHeartbeats 4000000 in
theorem w_L_joins_276 {F : Nat} {k176 : Nat → Nat → zK → zI → zR → Option Nat → Int32 → Int32 → Int32 → Option (Int32 × Nat × zK × zI × zR)} (X : zX p s m c cL_joins 5 RL D) (hr : meth.sig.returnType = some .boolean) (hlk : meth.locks = false) (hk176 : ∀ (z : Nat) (n : Nat) (K : zK) (I : zI) (R : zR) (x0 : Option Nat) (x1 : Int32) (x3 : Int32) (x4 : Int32) (cells slots : Nat) (H : Heap) (locs : List Loc) (ls : Array Slot), k176 z n K I R x0 x1 x3 x4 = some (r, n', K', I', R') → cells + 0 + 16 * z ≤ 188 → slots + 0 + 400 * z ≤ 4700 → zS (zOwn B K0 (B + n0)) D B n K I R s.heap H locs → lv_has ls 5 [(0, zrf B x0), (1, .int x1), (3, .int x3), (4, .int x4)] → W p l e ({ frames := 83, cells := 188, slots := 4700, locals := 4075 } : Room) s m args below meth c H locs cells slots (MQ below (zQi D (zOwn B K0 (B + n0)) r B n' K' I' R') args s 188 4700 (zOwn B K0 (B + n0))) (F0 m 176 ls [])) {z : Nat} {x0 : Option Nat} {x1 : Int32} {x4 : Int32} {s0 : Int32} {cells slots : Nat} (hf : f_L_joins_276 F k176 z n K I R x0 x1 x4 s0 = some (r, n', K', I', R')) (b1 : cells + 0 + 16 * z ≤ 188) (b2 : slots + 0 + 400 * z ≤ 4700) (hW : zS (zOwn B K0 (B + n0)) D B n K I R s.heap H locs) (hl : lv_has ls 5 [(0, zrf B x0), (1, .int x1), (4, .int x4)]) : W p l e ({ frames := 83, cells := 188, slots := 4700, locals := 4075 } : Room) s m args below meth c H locs cells slots (MQ below (zQi D (zOwn B K0 (B + n0)) r B n' K' I' R') args s 188 4700 (zOwn B K0 (B + n0))) (F0 m 276 ls [.int s0]) := by
  unfold f_L_joins_276 at hf
  refine lv_istore_n (i := 3) (lv' := [(3, .int s0), (0, zrf B x0), (1, .int x1), (4, .int x4)]) X.1 X.2.1 dL_joins_276 rfl hl (by decide) rfl (fun ls hk => ?_)
  replace hl := hk
  refine ze_iinc (lv' := [(4, .int (x4 + (1 : Int32))), (3, .int s0), (0, zrf B x0), (1, .int x1)]) (d := 1) X.1 X.2.1 dL_joins_277 hl (k := 3) rfl (by decide) (by decide) rfl (fun ls hk => ?_)
  replace hl := hk
  refine lv_goto (tgt := 176) X.1 X.2.1 dL_joins_280 (by decide) ?_
  exact hk176 _ _ _ _ _ _ _ _ _ _ _ _ _ _ hf (by (try dsimp only); omega) (by (try dsimp only); omega) hW (lv_sub hl [2, 3, 1, 0] rfl)
set_option maxRecDepth 100000 in
set_option maxHeartbeats 4000000 in
theorem w_L_joins_275 {F : Nat} {k176 : Nat → Nat → zK → zI → zR → Option Nat → Int32 → Int32 → Int32 → Option (Int32 × Nat × zK × zI × zR)} (X : zX p s m c cL_joins 5 RL D) (hr : meth.sig.returnType = some .boolean) (hlk : meth.locks = false) (hk176 : ∀ (z : Nat) (n : Nat) (K : zK) (I : zI) (R : zR) (x0 : Option Nat) (x1 : Int32) (x3 : Int32) (x4 : Int32) (cells slots : Nat) (H : Heap) (locs : List Loc) (ls : Array Slot), k176 z n K I R x0 x1 x3 x4 = some (r, n', K', I', R') → cells + 0 + 16 * z ≤ 188 → slots + 0 + 400 * z ≤ 4700 → zS (zOwn B K0 (B + n0)) D B n K I R s.heap H locs → lv_has ls 5 [(0, zrf B x0), (1, .int x1), (3, .int x3), (4, .int x4)] → W p l e ({ frames := 83, cells := 188, slots := 4700, locals := 4075 } : Room) s m args below meth c H locs cells slots (MQ below (zQi D (zOwn B K0 (B + n0)) r B n' K' I' R') args s 188 4700 (zOwn B K0 (B + n0))) (F0 m 176 ls [])) {z : Nat} {x0 : Option Nat} {x1 : Int32} {x4 : Int32} {cells slots : Nat} (hf : f_L_joins_275 F k176 z n K I R x0 x1 x4 = some (r, n', K', I', R')) (b1 : cells + 0 + 16 * z ≤ 188) (b2 : slots + 0 + 400 * z ≤ 4700) (hW : zS (zOwn B K0 (B + n0)) D B n K I R s.heap H locs) (hl : lv_has ls 5 [(0, zrf B x0), (1, .int x1), (4, .int x4)]) : W p l e ({ frames := 83, cells := 188, slots := 4700, locals := 4075 } : Room) s m args below meth c H locs cells slots (MQ below (zQi D (zOwn B K0 (B + n0)) r B n' K' I' R') args s 188 4700 (zOwn B K0 (B + n0))) (F0 m 275 ls []) := by
  unfold f_L_joins_275 at hf
  refine lv_iconst (v := 0) X.1 X.2.1 dL_joins_275 (by decide) ?_
  exact w_L_joins_276 X hr hlk hk176 hf (by (try dsimp only); omega) (by (try dsimp only); omega) hW hl
set_option maxRecDepth 100000 in
set_option maxHeartbeats 4000000 in
theorem wg_L_joins_176 {F : Nat}  (X : zX p s m c cL_joins 5 RL D) (hr : meth.sig.returnType = some .boolean) (hlk : meth.locks = false)  {kself : Nat → Nat → zK → zI → zR → Option Nat → Int32 → Int32 → Int32 → Option (Int32 × Nat × zK × zI × zR)} (hkself : ∀ (z : Nat) (n : Nat) (K : zK) (I : zI) (R : zR) (x0 : Option Nat) (x1 : Int32) (x3 : Int32) (x4 : Int32) (cells slots : Nat) (H : Heap) (locs : List Loc) (ls : Array Slot), kself z n K I R x0 x1 x3 x4 = some (r, n', K', I', R') → cells + 0 + 16 * z ≤ 188 → slots + 0 + 400 * z ≤ 4700 → zS (zOwn B K0 (B + n0)) D B n K I R s.heap H locs → lv_has ls 5 [(0, zrf B x0), (1, .int x1), (3, .int x3), (4, .int x4)] → W p l e ({ frames := 83, cells := 188, slots := 4700, locals := 4075 } : Room) s m args below meth c H locs cells slots (MQ below (zQi D (zOwn B K0 (B + n0)) r B n' K' I' R') args s 188 4700 (zOwn B K0 (B + n0))) (F0 m 176 ls [])) {z : Nat} {x0 : Option Nat} {x1 : Int32} {x3 : Int32} {x4 : Int32} {cells slots : Nat} (hf : g_L_joins_176 F  kself z n K I R x0 x1 x3 x4 = some (r, n', K', I', R')) (b1 : cells + 0 + 16 * z ≤ 188) (b2 : slots + 0 + 400 * z ≤ 4700) (hW : zS (zOwn B K0 (B + n0)) D B n K I R s.heap H locs) (hl : lv_has ls 5 [(0, zrf B x0), (1, .int x1), (3, .int x3), (4, .int x4)]) : W p l e ({ frames := 83, cells := 188, slots := 4700, locals := 4075 } : Room) s m args below meth c H locs cells slots (MQ below (zQi D (zOwn B K0 (B + n0)) r B n' K' I' R') args s 188 4700 (zOwn B K0 (B + n0))) (F0 m 176 ls []) := by
  unfold g_L_joins_176 at hf
  cases z with
  | zero => cases hf
  | succ z =>
  refine lv_iload X.1 X.2.1 dL_joins_176 (lv_at hl 3 rfl) ?_
  refine lv_bipush (v := 10) X.1 X.2.1 dL_joins_178 (by decide) ?_
  refine lv_icmp_ge (tgt := 283) X.1 X.2.1 dL_joins_180 (by decide) (fun c29 => ?_) (fun c29 => ?_)
  · replace hf := zif_pos c29 hf
    exact w_L_joins_283 X hr hlk hf (by (try dsimp only); omega) (by (try dsimp only); omega) hW (lv_sub hl [0, 1, 2] rfl)
  · replace hf := zif_neg c29 hf
    refine lv_iload_n X.1 X.2.1 dL_joins_183 rfl (lv_at hl 2 rfl) ?_
    refine lv_if_eq (tgt := 283) X.1 X.2.1 dL_joins_184 (by decide) (fun c30 => ?_) (fun c30 => ?_)
    · replace hf := zif_pos c30 hf
      exact w_L_joins_283 X hr hlk hf (by (try dsimp only); omega) (by (try dsimp only); omega) hW (lv_sub hl [0, 1, 2] rfl)
    · replace hf := zif_neg c30 hf
      refine ze_aload_n X.1 X.2.1 dL_joins_187 rfl (lv_at hl 0 rfl) ?_
      refine lv_iconst (v := 3) X.1 X.2.1 dL_joins_188 (by decide) ?_
      refine lv_iconst (v := 0) X.1 X.2.1 dL_joins_189 (by decide) ?_
      refine lv_iload X.1 X.2.1 dL_joins_190 (lv_at hl 3 rfl) ?_
      refine lv_iconst (v := 0) X.1 X.2.1 dL_joins_192 (by decide) ?_
      obtain ⟨a31, rfl, k33, hg⟩ := zh_dr hf
      replace hf := hg
      obtain ⟨v34, I35, R36, h37, hg⟩ := zh_bd3 hf
      replace hf := hg
      refine ze_aftI0 (ze_runV (As := [.int (3 : Int32), .int (0 : Int32), .int x4, .int (0 : Int32)]) (rest := []) X 6 55 (c_X6_filled l D B n k33 h37) vX6_filled kml_L_55 hW k33 rfl rfl ⟨by decide, by decide⟩ rfl hl.1 rfl (Nat.le_of_ble_eq_true rfl) ⟨by show _ + 0 ≤ (188 : Nat); (try dsimp only); omega, by show _ + 0 ≤ (4700 : Nat); (try dsimp only); omega⟩ dL_joins_193) hW (fun H locs hV => ?_)
      replace hW := hV
      refine lv_aload_n X.1 X.2.1 dL_joins_196 rfl (lv_at hl 0 rfl) ?_
      refine lv_iconst (v := 0) X.1 X.2.1 dL_joins_197 (by decide) ?_
      refine lv_iconst (v := 1) X.1 X.2.1 dL_joins_198 (by decide) ?_
      refine lv_iload X.1 X.2.1 dL_joins_199 (lv_at hl 3 rfl) ?_
      refine lv_iconst (v := 0) X.1 X.2.1 dL_joins_201 (by decide) ?_
      obtain ⟨v38, n39, K40, I41, R42, h43, hg⟩ := zh_bd5 hf
      replace hf := hg
      refine ze_aftI (ze_runV (As := [.int (0 : Int32), .int (1 : Int32), .int x4, .int (0 : Int32)]) (rest := [.int v34]) X 6 59 (c_X6_origin l D B n h43) vX6_origin kml_L_59 hW k33 rfl rfl ⟨by decide, by decide⟩ rfl hl.1 rfl (Nat.le_of_ble_eq_true rfl) ⟨by show _ + 4 ≤ (188 : Nat); (try dsimp only); omega, by show _ + 100 ≤ (4700 : Nat); (try dsimp only); omega⟩ dL_joins_202) hW (fun H locs hV => ?_)
      replace hW := hV
      refine lv_icmp_ne (tgt := 275) X.1 X.2.1 dL_joins_205 (by decide) (fun c44 => ?_) (fun c44 => ?_)
      · replace hf := zif_neg c44 hf
        exact w_L_joins_275 X hr hlk hkself hf (by (try dsimp only); omega) (by (try dsimp only); omega) hW (lv_sub hl [0, 1, 3] rfl)
      · replace hf := zif_pos c44 hf
        refine lv_aload_n X.1 X.2.1 dL_joins_208 rfl (lv_at hl 0 rfl) ?_
        refine lv_iconst (v := 3) X.1 X.2.1 dL_joins_209 (by decide) ?_
        refine lv_iconst (v := 1) X.1 X.2.1 dL_joins_210 (by decide) ?_
        refine lv_iload X.1 X.2.1 dL_joins_211 (lv_at hl 3 rfl) ?_
        refine lv_iconst (v := 0) X.1 X.2.1 dL_joins_213 (by decide) ?_
        obtain ⟨k45, hg⟩ := zh_if hf
        replace hf := hg
        obtain ⟨v46, I47, R48, h49, hg⟩ := zh_bd3 hf
        replace hf := hg
        refine ze_aftI0 (ze_runV (As := [.int (3 : Int32), .int (1 : Int32), .int x4, .int (0 : Int32)]) (rest := []) X 6 55 (c_X6_filled l D B n39 k45 h49) vX6_filled kml_L_55 hW k45 rfl rfl ⟨by decide, by decide⟩ rfl hl.1 rfl (Nat.le_of_ble_eq_true rfl) ⟨by show _ + 0 ≤ (188 : Nat); (try dsimp only); omega, by show _ + 0 ≤ (4700 : Nat); (try dsimp only); omega⟩ dL_joins_214) hW (fun H locs hV => ?_)
        replace hW := hV
        refine lv_aload_n X.1 X.2.1 dL_joins_217 rfl (lv_at hl 0 rfl) ?_
        refine lv_iconst (v := 0) X.1 X.2.1 dL_joins_218 (by decide) ?_
        refine lv_iconst (v := 1) X.1 X.2.1 dL_joins_219 (by decide) ?_
        refine lv_iload X.1 X.2.1 dL_joins_220 (lv_at hl 3 rfl) ?_
        refine lv_iconst (v := 2) X.1 X.2.1 dL_joins_222 (by decide) ?_
        obtain ⟨v50, n51, K52, I53, R54, h55, hg⟩ := zh_bd5 hf
        replace hf := hg
        refine ze_aftI (ze_runV (As := [.int (0 : Int32), .int (1 : Int32), .int x4, .int (2 : Int32)]) (rest := [.int v46]) X 6 59 (c_X6_origin l D B n39 h55) vX6_origin kml_L_59 hW k45 rfl rfl ⟨by decide, by decide⟩ rfl hl.1 rfl (Nat.le_of_ble_eq_true rfl) ⟨by show _ + 4 ≤ (188 : Nat); (try dsimp only); omega, by show _ + 100 ≤ (4700 : Nat); (try dsimp only); omega⟩ dL_joins_223) hW (fun H locs hV => ?_)
        replace hW := hV
        refine lv_icmp_ne (tgt := 275) X.1 X.2.1 dL_joins_226 (by decide) (fun c56 => ?_) (fun c56 => ?_)
        · replace hf := zif_neg c56 hf
          exact w_L_joins_275 X hr hlk hkself hf (by (try dsimp only); omega) (by (try dsimp only); omega) hW (lv_sub hl [0, 1, 3] rfl)
        · replace hf := zif_pos c56 hf
          refine lv_aload_n X.1 X.2.1 dL_joins_229 rfl (lv_at hl 0 rfl) ?_
          refine lv_iconst (v := 3) X.1 X.2.1 dL_joins_230 (by decide) ?_
          refine lv_iconst (v := 0) X.1 X.2.1 dL_joins_231 (by decide) ?_
          refine lv_iload X.1 X.2.1 dL_joins_232 (lv_at hl 3 rfl) ?_
          refine lv_iconst (v := 1) X.1 X.2.1 dL_joins_234 (by decide) ?_
          obtain ⟨k57, hg⟩ := zh_if hf
          replace hf := hg
          obtain ⟨v58, I59, R60, h61, hg⟩ := zh_bd3 hf
          replace hf := hg
          refine ze_aftI0 (ze_runV (As := [.int (3 : Int32), .int (0 : Int32), .int x4, .int (1 : Int32)]) (rest := []) X 6 55 (c_X6_filled l D B n51 k57 h61) vX6_filled kml_L_55 hW k57 rfl rfl ⟨by decide, by decide⟩ rfl hl.1 rfl (Nat.le_of_ble_eq_true rfl) ⟨by show _ + 0 ≤ (188 : Nat); (try dsimp only); omega, by show _ + 0 ≤ (4700 : Nat); (try dsimp only); omega⟩ dL_joins_235) hW (fun H locs hV => ?_)
          replace hW := hV
          refine lv_aload_n X.1 X.2.1 dL_joins_238 rfl (lv_at hl 0 rfl) ?_
          refine lv_iconst (v := 0) X.1 X.2.1 dL_joins_239 (by decide) ?_
          refine lv_iconst (v := 1) X.1 X.2.1 dL_joins_240 (by decide) ?_
          refine lv_iload X.1 X.2.1 dL_joins_241 (lv_at hl 3 rfl) ?_
          refine lv_iconst (v := 1) X.1 X.2.1 dL_joins_243 (by decide) ?_
          obtain ⟨v62, n63, K64, I65, R66, h67, hg⟩ := zh_bd5 hf
          replace hf := hg
          refine ze_aftI (ze_runV (As := [.int (0 : Int32), .int (1 : Int32), .int x4, .int (1 : Int32)]) (rest := [.int v58]) X 6 59 (c_X6_origin l D B n51 h67) vX6_origin kml_L_59 hW k57 rfl rfl ⟨by decide, by decide⟩ rfl hl.1 rfl (Nat.le_of_ble_eq_true rfl) ⟨by show _ + 4 ≤ (188 : Nat); (try dsimp only); omega, by show _ + 100 ≤ (4700 : Nat); (try dsimp only); omega⟩ dL_joins_244) hW (fun H locs hV => ?_)
          replace hW := hV
          refine lv_icmp_ne (tgt := 275) X.1 X.2.1 dL_joins_247 (by decide) (fun c68 => ?_) (fun c68 => ?_)
          · replace hf := zif_neg c68 hf
            exact w_L_joins_275 X hr hlk hkself hf (by (try dsimp only); omega) (by (try dsimp only); omega) hW (lv_sub hl [0, 1, 3] rfl)
          · replace hf := zif_pos c68 hf
            refine lv_aload_n X.1 X.2.1 dL_joins_250 rfl (lv_at hl 0 rfl) ?_
            refine lv_iconst (v := 3) X.1 X.2.1 dL_joins_251 (by decide) ?_
            refine lv_iconst (v := 1) X.1 X.2.1 dL_joins_252 (by decide) ?_
            refine lv_iload X.1 X.2.1 dL_joins_253 (lv_at hl 3 rfl) ?_
            refine lv_iconst (v := 1) X.1 X.2.1 dL_joins_255 (by decide) ?_
            obtain ⟨k69, hg⟩ := zh_if hf
            replace hf := hg
            obtain ⟨v70, I71, R72, h73, hg⟩ := zh_bd3 hf
            replace hf := hg
            refine ze_aftI0 (ze_runV (As := [.int (3 : Int32), .int (1 : Int32), .int x4, .int (1 : Int32)]) (rest := []) X 6 55 (c_X6_filled l D B n63 k69 h73) vX6_filled kml_L_55 hW k69 rfl rfl ⟨by decide, by decide⟩ rfl hl.1 rfl (Nat.le_of_ble_eq_true rfl) ⟨by show _ + 0 ≤ (188 : Nat); (try dsimp only); omega, by show _ + 0 ≤ (4700 : Nat); (try dsimp only); omega⟩ dL_joins_256) hW (fun H locs hV => ?_)
            replace hW := hV
            refine lv_aload_n X.1 X.2.1 dL_joins_259 rfl (lv_at hl 0 rfl) ?_
            refine lv_iconst (v := 0) X.1 X.2.1 dL_joins_260 (by decide) ?_
            refine lv_iconst (v := 1) X.1 X.2.1 dL_joins_261 (by decide) ?_
            refine lv_iload X.1 X.2.1 dL_joins_262 (lv_at hl 3 rfl) ?_
            refine lv_iconst (v := 3) X.1 X.2.1 dL_joins_264 (by decide) ?_
            obtain ⟨v74, n75, K76, I77, R78, h79, hg⟩ := zh_bd5 hf
            replace hf := hg
            refine ze_aftI (ze_runV (As := [.int (0 : Int32), .int (1 : Int32), .int x4, .int (3 : Int32)]) (rest := [.int v70]) X 6 59 (c_X6_origin l D B n63 h79) vX6_origin kml_L_59 hW k69 rfl rfl ⟨by decide, by decide⟩ rfl hl.1 rfl (Nat.le_of_ble_eq_true rfl) ⟨by show _ + 4 ≤ (188 : Nat); (try dsimp only); omega, by show _ + 100 ≤ (4700 : Nat); (try dsimp only); omega⟩ dL_joins_265) hW (fun H locs hV => ?_)
            replace hW := hV
            refine lv_icmp_ne (tgt := 275) X.1 X.2.1 dL_joins_268 (by decide) (fun c80 => ?_) (fun c80 => ?_)
            · replace hf := zif_neg c80 hf
              exact w_L_joins_275 X hr hlk hkself hf (by (try dsimp only); omega) (by (try dsimp only); omega) hW (lv_sub hl [0, 1, 3] rfl)
            · replace hf := zif_pos c80 hf
              refine lv_iconst (v := 1) X.1 X.2.1 dL_joins_271 (by decide) ?_
              refine lv_goto (tgt := 276) X.1 X.2.1 dL_joins_272 (by decide) ?_
              exact w_L_joins_276 X hr hlk hkself hf (by (try dsimp only); omega) (by (try dsimp only); omega) hW (lv_sub hl [0, 1, 3] rfl)
set_option maxRecDepth 100000 in
set_option maxHeartbeats 4000000 in
theorem w_L_joins_176 {F : Nat}  (X : zX p s m c cL_joins 5 RL D) (hr : meth.sig.returnType = some .boolean) (hlk : meth.locks = false)  {t : Nat} {z : Nat} {x0 : Option Nat} {x1 : Int32} {x3 : Int32} {x4 : Int32} {cells slots : Nat} (hf : f_L_joins_176 F  t z n K I R x0 x1 x3 x4 = some (r, n', K', I', R')) (b1 : cells + 0 + 16 * z ≤ 188) (b2 : slots + 0 + 400 * z ≤ 4700) (hW : zS (zOwn B K0 (B + n0)) D B n K I R s.heap H locs) (hl : lv_has ls 5 [(0, zrf B x0), (1, .int x1), (3, .int x3), (4, .int x4)]) : W p l e ({ frames := 83, cells := 188, slots := 4700, locals := 4075 } : Room) s m args below meth c H locs cells slots (MQ below (zQi D (zOwn B K0 (B + n0)) r B n' K' I' R') args s 188 4700 (zOwn B K0 (B + n0))) (F0 m 176 ls []) := by
  have key : ∀ t : Nat, ∀ (z : Nat) (n : Nat) (K : zK) (I : zI) (R : zR) (x0 : Option Nat) (x1 : Int32) (x3 : Int32) (x4 : Int32) (cells slots : Nat) (H : Heap) (locs : List Loc) (ls : Array Slot), f_L_joins_176 F  t z n K I R x0 x1 x3 x4 = some (r, n', K', I', R') → cells + 0 + 16 * z ≤ 188 → slots + 0 + 400 * z ≤ 4700 → zS (zOwn B K0 (B + n0)) D B n K I R s.heap H locs → lv_has ls 5 [(0, zrf B x0), (1, .int x1), (3, .int x3), (4, .int x4)] → W p l e ({ frames := 83, cells := 188, slots := 4700, locals := 4075 } : Room) s m args below meth c H locs cells slots (MQ below (zQi D (zOwn B K0 (B + n0)) r B n' K' I' R') args s 188 4700 (zOwn B K0 (B + n0))) (F0 m 176 ls []) := by
    intro t
    induction t with
    | zero =>
      intro z n K I R x0 x1 x3 x4 cells slots H locs ls hf b1 b2 hW hl
      cases hf
    | succ t ih =>
      intro z n K I R x0 x1 x3 x4 cells slots H locs ls hf b1 b2 hW hl
      exact wg_L_joins_176 X hr hlk  ih hf b1 b2 hW hl
  exact key t _ _ _ _ _ _ _ _ _ _ _ _ _ _ hf b1 b2 hW hl
set_option maxRecDepth 100000 in
set_option maxHeartbeats 4000000 in
theorem w_L_joins_172 {F : Nat}  (X : zX p s m c cL_joins 5 RL D) (hr : meth.sig.returnType = some .boolean) (hlk : meth.locks = false)  {z : Nat} {x0 : Option Nat} {x1 : Int32} {s0 : Int32} {cells slots : Nat} (hf : f_L_joins_172 F  z n K I R x0 x1 s0 = some (r, n', K', I', R')) (b1 : cells + 0 + 16 * z ≤ 188) (b2 : slots + 0 + 400 * z ≤ 4700) (hW : zS (zOwn B K0 (B + n0)) D B n K I R s.heap H locs) (hl : lv_has ls 5 [(0, zrf B x0), (1, .int x1)]) : W p l e ({ frames := 83, cells := 188, slots := 4700, locals := 4075 } : Room) s m args below meth c H locs cells slots (MQ below (zQi D (zOwn B K0 (B + n0)) r B n' K' I' R') args s 188 4700 (zOwn B K0 (B + n0))) (F0 m 172 ls [.int s0]) := by
  unfold f_L_joins_172 at hf
  refine lv_istore_n (i := 3) (lv' := [(3, .int s0), (0, zrf B x0), (1, .int x1)]) X.1 X.2.1 dL_joins_172 rfl hl (by decide) rfl (fun ls hk => ?_)
  replace hl := hk
  refine lv_iconst (v := 0) X.1 X.2.1 dL_joins_173 (by decide) ?_
  refine lv_istore (lv' := [(4, .int (0 : Int32)), (3, .int s0), (0, zrf B x0), (1, .int x1)]) X.1 X.2.1 dL_joins_174 hl (by decide) rfl (fun ls hk => ?_)
  replace hl := hk
  exact w_L_joins_176 X hr hlk hf (by (try dsimp only); omega) (by (try dsimp only); omega) hW (lv_sub hl [2, 3, 1, 0] rfl)
set_option maxRecDepth 100000 in
set_option maxHeartbeats 4000000 in
theorem w_L_joins_171 {F : Nat}  (X : zX p s m c cL_joins 5 RL D) (hr : meth.sig.returnType = some .boolean) (hlk : meth.locks = false)  {z : Nat} {x0 : Option Nat} {x1 : Int32} {cells slots : Nat} (hf : f_L_joins_171 F  z n K I R x0 x1 = some (r, n', K', I', R')) (b1 : cells + 0 + 16 * z ≤ 188) (b2 : slots + 0 + 400 * z ≤ 4700) (hW : zS (zOwn B K0 (B + n0)) D B n K I R s.heap H locs) (hl : lv_has ls 5 [(0, zrf B x0), (1, .int x1)]) : W p l e ({ frames := 83, cells := 188, slots := 4700, locals := 4075 } : Room) s m args below meth c H locs cells slots (MQ below (zQi D (zOwn B K0 (B + n0)) r B n' K' I' R') args s 188 4700 (zOwn B K0 (B + n0))) (F0 m 171 ls []) := by
  unfold f_L_joins_171 at hf
  refine lv_iconst (v := 0) X.1 X.2.1 dL_joins_171 (by decide) ?_
  exact w_L_joins_172 X hr hlk hf (by (try dsimp only); omega) (by (try dsimp only); omega) hW hl
set_option maxRecDepth 100000 in
set_option maxHeartbeats 4000000 in
theorem w_L_joins_115 {F : Nat}  (X : zX p s m c cL_joins 5 RL D) (hr : meth.sig.returnType = some .boolean) (hlk : meth.locks = false)  {z : Nat} {x0 : Option Nat} {x1 : Int32} {s0 : Int32} {cells slots : Nat} (hf : f_L_joins_115 F  z n K I R x0 x1 s0 = some (r, n', K', I', R')) (b1 : cells + 4 + 16 * z ≤ 188) (b2 : slots + 100 + 400 * z ≤ 4700) (hW : zS (zOwn B K0 (B + n0)) D B n K I R s.heap H locs) (hl : lv_has ls 5 [(0, zrf B x0), (1, .int x1)]) : W p l e ({ frames := 83, cells := 188, slots := 4700, locals := 4075 } : Room) s m args below meth c H locs cells slots (MQ below (zQi D (zOwn B K0 (B + n0)) r B n' K' I' R') args s 188 4700 (zOwn B K0 (B + n0))) (F0 m 115 ls [.int s0]) := by
  unfold f_L_joins_115 at hf
  refine lv_istore_n (i := 3) (lv' := [(3, .int s0), (0, zrf B x0), (1, .int x1)]) X.1 X.2.1 dL_joins_115 rfl hl (by decide) rfl (fun ls hk => ?_)
  replace hl := hk
  refine lv_iload_n X.1 X.2.1 dL_joins_116 rfl (lv_at hl 0 rfl) ?_
  refine lv_if_eq (tgt := 171) X.1 X.2.1 dL_joins_117 (by decide) (fun c81 => ?_) (fun c81 => ?_)
  · replace hf := zif_pos c81 hf
    exact w_L_joins_171 X hr hlk hf (by (try dsimp only); omega) (by (try dsimp only); omega) hW (lv_sub hl [1, 2] rfl)
  · replace hf := zif_neg c81 hf
    refine ze_aload_n X.1 X.2.1 dL_joins_120 rfl (lv_at hl 1 rfl) ?_
    refine lv_iconst (v := 0) X.1 X.2.1 dL_joins_121 (by decide) ?_
    refine lv_iconst (v := 0) X.1 X.2.1 dL_joins_122 (by decide) ?_
    refine lv_iconst (v := 4) X.1 X.2.1 dL_joins_123 (by decide) ?_
    obtain ⟨a82, rfl, k84, hg⟩ := zh_dr hf
    replace hf := hg
    obtain ⟨v85, n86, K87, I88, R89, h90, hg⟩ := zh_bd5 hf
    replace hf := hg
    refine ze_aftI (ze_runV (As := [.int (0 : Int32), .int (0 : Int32), .int (4 : Int32)]) (rest := []) X 6 32 (c_X6_join l D B n h90) vX6_join kml_L_32 hW k84 rfl rfl ⟨by decide, by decide⟩ rfl hl.1 rfl (Nat.le_of_ble_eq_true rfl) ⟨by show _ + 4 ≤ (188 : Nat); (try dsimp only); omega, by show _ + 100 ≤ (4700 : Nat); (try dsimp only); omega⟩ dL_joins_124) hW (fun H locs hV => ?_)
    replace hW := hV
    refine lv_aload_n X.1 X.2.1 dL_joins_127 rfl (lv_at hl 1 rfl) ?_
    refine lv_iconst (v := 0) X.1 X.2.1 dL_joins_128 (by decide) ?_
    refine lv_iconst (v := 0) X.1 X.2.1 dL_joins_129 (by decide) ?_
    obtain ⟨k91, hg⟩ := zh_if hf
    replace hf := hg
    obtain ⟨v92, h93, hg⟩ := zh_bd hf
    replace hf := hg
    refine ze_aftI0 (ze_runV (As := [.int (0 : Int32), .int (0 : Int32)]) (rest := [.int v85]) X 6 49 (c_X6_size l D B n86 k91 h93) vX6_size kml_L_49 hW k91 rfl rfl ⟨by decide, by decide⟩ rfl hl.1 rfl (Nat.le_of_ble_eq_true rfl) ⟨by show _ + 0 ≤ (188 : Nat); (try dsimp only); omega, by show _ + 0 ≤ (4700 : Nat); (try dsimp only); omega⟩ dL_joins_130) hW (fun H locs hV => ?_)
    replace hW := hV
    refine lv_icmp_ne (tgt := 171) X.1 X.2.1 dL_joins_133 (by decide) (fun c94 => ?_) (fun c94 => ?_)
    · replace hf := zif_neg c94 hf
      exact w_L_joins_171 X hr hlk hf (by (try dsimp only); omega) (by (try dsimp only); omega) hW (lv_sub hl [1, 2] rfl)
    · replace hf := zif_pos c94 hf
      refine lv_aload_n X.1 X.2.1 dL_joins_136 rfl (lv_at hl 1 rfl) ?_
      refine lv_iconst (v := 4) X.1 X.2.1 dL_joins_137 (by decide) ?_
      refine lv_iconst (v := 0) X.1 X.2.1 dL_joins_138 (by decide) ?_
      obtain ⟨v95, I96, R97, h98, hg⟩ := zh_bd3 hf
      replace hf := hg
      refine ze_aftI0 (ze_runV (As := [.int (4 : Int32), .int (0 : Int32)]) (rest := []) X 6 43 (c_X6_compare l D B n86 k91 h98) vX6_compare kml_L_43 hW k91 rfl rfl ⟨by decide, by decide⟩ rfl hl.1 rfl (Nat.le_of_ble_eq_true rfl) ⟨by show _ + 0 ≤ (188 : Nat); (try dsimp only); omega, by show _ + 0 ≤ (4700 : Nat); (try dsimp only); omega⟩ dL_joins_139) hW (fun H locs hV => ?_)
      replace hW := hV
      refine lv_if_ne (tgt := 171) X.1 X.2.1 dL_joins_142 (by decide) (fun c99 => ?_) (fun c99 => ?_)
      · replace hf := zif_neg c99 hf
        exact w_L_joins_171 X hr hlk hf (by (try dsimp only); omega) (by (try dsimp only); omega) hW (lv_sub hl [1, 2] rfl)
      · replace hf := zif_pos c99 hf
        refine lv_aload_n X.1 X.2.1 dL_joins_145 rfl (lv_at hl 1 rfl) ?_
        refine lv_iconst (v := 4) X.1 X.2.1 dL_joins_146 (by decide) ?_
        refine lv_iconst (v := 2) X.1 X.2.1 dL_joins_147 (by decide) ?_
        obtain ⟨v100, h101, hg⟩ := zh_bd hf
        replace hf := hg
        refine ze_aftI0 (ze_runV (As := [.int (4 : Int32), .int (2 : Int32)]) (rest := []) X 6 49 (c_X6_size l D B n86 k91 h101) vX6_size kml_L_49 hW k91 rfl rfl ⟨by decide, by decide⟩ rfl hl.1 rfl (Nat.le_of_ble_eq_true rfl) ⟨by show _ + 0 ≤ (188 : Nat); (try dsimp only); omega, by show _ + 0 ≤ (4700 : Nat); (try dsimp only); omega⟩ dL_joins_148) hW (fun H locs hV => ?_)
        replace hW := hV
        refine lv_if_ne (tgt := 171) X.1 X.2.1 dL_joins_151 (by decide) (fun c102 => ?_) (fun c102 => ?_)
        · replace hf := zif_neg c102 hf
          exact w_L_joins_171 X hr hlk hf (by (try dsimp only); omega) (by (try dsimp only); omega) hW (lv_sub hl [1, 2] rfl)
        · replace hf := zif_pos c102 hf
          refine lv_aload_n X.1 X.2.1 dL_joins_154 rfl (lv_at hl 1 rfl) ?_
          refine lv_iconst (v := 3) X.1 X.2.1 dL_joins_155 (by decide) ?_
          obtain ⟨v103, I104, R105, h106, hg⟩ := zh_bd3 hf
          replace hf := hg
          refine ze_aftI0 (ze_runV (As := [.int (3 : Int32)]) (rest := []) X 6 52 (c_X6_covered l D B n86 k91 h106) vX6_covered kml_L_52 hW k91 rfl rfl ⟨by decide, by decide⟩ rfl hl.1 rfl (Nat.le_of_ble_eq_true rfl) ⟨by show _ + 0 ≤ (188 : Nat); (try dsimp only); omega, by show _ + 0 ≤ (4700 : Nat); (try dsimp only); omega⟩ dL_joins_156) hW (fun H locs hV => ?_)
          replace hW := hV
          refine lv_bipush (v := 27) X.1 X.2.1 dL_joins_159 (by decide) ?_
          refine lv_iand X.1 X.2.1 dL_joins_161 ?_
          refine lv_bipush (v := 27) X.1 X.2.1 dL_joins_162 (by decide) ?_
          refine lv_icmp_ne (tgt := 171) X.1 X.2.1 dL_joins_164 (by decide) (fun c107 => ?_) (fun c107 => ?_)
          · replace hf := zif_neg c107 hf
            exact w_L_joins_171 X hr hlk hf (by (try dsimp only); omega) (by (try dsimp only); omega) hW (lv_sub hl [1, 2] rfl)
          · replace hf := zif_pos c107 hf
            refine lv_iconst (v := 1) X.1 X.2.1 dL_joins_167 (by decide) ?_
            refine lv_goto (tgt := 172) X.1 X.2.1 dL_joins_168 (by decide) ?_
            exact w_L_joins_172 X hr hlk hf (by (try dsimp only); omega) (by (try dsimp only); omega) hW (lv_sub hl [1, 2] rfl)
set_option maxRecDepth 100000 in
set_option maxHeartbeats 4000000 in
theorem w_L_joins_114 {F : Nat}  (X : zX p s m c cL_joins 5 RL D) (hr : meth.sig.returnType = some .boolean) (hlk : meth.locks = false)  {z : Nat} {x0 : Option Nat} {x1 : Int32} {cells slots : Nat} (hf : f_L_joins_114 F  z n K I R x0 x1 = some (r, n', K', I', R')) (b1 : cells + 4 + 16 * z ≤ 188) (b2 : slots + 100 + 400 * z ≤ 4700) (hW : zS (zOwn B K0 (B + n0)) D B n K I R s.heap H locs) (hl : lv_has ls 5 [(0, zrf B x0), (1, .int x1)]) : W p l e ({ frames := 83, cells := 188, slots := 4700, locals := 4075 } : Room) s m args below meth c H locs cells slots (MQ below (zQi D (zOwn B K0 (B + n0)) r B n' K' I' R') args s 188 4700 (zOwn B K0 (B + n0))) (F0 m 114 ls []) := by
  unfold f_L_joins_114 at hf
  refine lv_iconst (v := 0) X.1 X.2.1 dL_joins_114 (by decide) ?_
  exact w_L_joins_115 X hr hlk hf (by (try dsimp only); omega) (by (try dsimp only); omega) hW hl
set_option maxRecDepth 100000 in
set_option maxHeartbeats 4000000 in
theorem c_L_joins (l : Launch) (D : zD) (B n : Nat) {F : Nat} {K : zK} {I : zI} {R : zR} {x0 : Option Nat} {x1 : Int32} {r : Int32} {n' : Nat} {K' : zK} {I' : zI} {R' : zR} (hf : f_L_joins F n K I R x0 x1 = some (r, n', K', I', R')) : zM l yL_joins cL_joins 5 (some .boolean) ({ frames := 83, cells := 188, slots := 4700, locals := 4075 } : Room) D B n K I R [zrf B x0, .int x1] (zQi D (zOwn B K (B + n)) r B n' K' I' R') := by
  refine ze_entry (lv0 := [(0, zrf B x0), (1, .int x1)]) (by decide) (by simp [lg_sl, zcat, zcat_i, zcat_r, zcat_l]) (by simp [lv_args, zcat, zcat_i, zcat_r, zcat_l]) (fun p e s m below meth c X hr hlk hin hW ls hl => ?_)
  unfold f_L_joins at hf
  have b1 : (0 : Nat) ≤ 0 := Nat.le_refl _
  refine ze_aload_n X.1 X.2.1 dL_joins_0 rfl (lv_at hl 0 rfl) ?_
  refine lv_iconst (v := 0) X.1 X.2.1 dL_joins_1 (by decide) ?_
  refine lv_iconst (v := 1) X.1 X.2.1 dL_joins_2 (by decide) ?_
  refine lv_iconst (v := 3) X.1 X.2.1 dL_joins_3 (by decide) ?_
  obtain ⟨a108, rfl, k110, hg⟩ := zh_dr hf
  replace hf := hg
  obtain ⟨v111, n112, K113, I114, R115, h116, hg⟩ := zh_bd5 hf
  replace hf := hg
  refine ze_aftI (ze_runV (As := [.int (0 : Int32), .int (1 : Int32), .int (3 : Int32)]) (rest := []) X 6 32 (c_X6_join l D B n h116) vX6_join kml_L_32 hW k110 rfl rfl ⟨by decide, by decide⟩ rfl hl.1 rfl (Nat.le_of_ble_eq_true rfl) ⟨by show _ + 4 ≤ (188 : Nat); (try dsimp only); omega, by show _ + 100 ≤ (4700 : Nat); (try dsimp only); omega⟩ dL_joins_4) hW (fun H locs hV => ?_)
  replace hW := hV
  refine lv_istore_n (i := 2) (lv' := [(2, .int v111), (0, .ref (B + a108)), (1, .int x1)]) X.1 X.2.1 dL_joins_7 rfl hl (by decide) rfl (fun ls hk => ?_)
  replace hl := hk
  refine lv_iload_n X.1 X.2.1 dL_joins_8 rfl (lv_at hl 0 rfl) ?_
  refine lv_bipush (v := -3) X.1 X.2.1 dL_joins_9 (by decide) ?_
  refine lv_icmp_ne (tgt := 44) X.1 X.2.1 dL_joins_11 (by decide) (fun c117 => ?_) (fun c117 => ?_)
  · replace hf := zif_neg c117 hf
    refine lv_iload_n X.1 X.2.1 dL_joins_44 rfl (lv_at hl 0 rfl) ?_
    refine lv_if_le (tgt := 114) X.1 X.2.1 dL_joins_45 (by decide) (fun c118 => ?_) (fun c118 => ?_)
    · replace hf := zif_pos c118 hf
      exact w_L_joins_114 X hr hlk hf (by (try dsimp only); omega) (by (try dsimp only); omega) hW (lv_sub hl [1, 2] rfl)
    · replace hf := zif_neg c118 hf
      refine lv_aload_n X.1 X.2.1 dL_joins_48 rfl (lv_at hl 1 rfl) ?_
      refine lv_iconst (v := 3) X.1 X.2.1 dL_joins_49 (by decide) ?_
      refine lv_iconst (v := 0) X.1 X.2.1 dL_joins_50 (by decide) ?_
      obtain ⟨k119, hg⟩ := zh_if hf
      replace hf := hg
      obtain ⟨v120, I121, R122, h123, hg⟩ := zh_bd3 hf
      replace hf := hg
      refine ze_aftI0 (ze_runV (As := [.int (3 : Int32), .int (0 : Int32)]) (rest := []) X 6 39 (c_X6_covers l D B n112 k119 h123) vX6_covers kml_L_39 hW k119 rfl rfl ⟨by decide, by decide⟩ rfl hl.1 rfl (Nat.le_of_ble_eq_true rfl) ⟨by show _ + 0 ≤ (188 : Nat); (try dsimp only); omega, by show _ + 0 ≤ (4700 : Nat); (try dsimp only); omega⟩ dL_joins_51) hW (fun H locs hV => ?_)
      replace hW := hV
      refine lv_iconst (v := 1) X.1 X.2.1 dL_joins_54 (by decide) ?_
      refine lv_icmp_ne (tgt := 114) X.1 X.2.1 dL_joins_55 (by decide) (fun c124 => ?_) (fun c124 => ?_)
      · replace hf := zif_neg c124 hf
        exact w_L_joins_114 X hr hlk hf (by (try dsimp only); omega) (by (try dsimp only); omega) hW (lv_sub hl [1, 2] rfl)
      · replace hf := zif_pos c124 hf
        refine lv_aload_n X.1 X.2.1 dL_joins_58 rfl (lv_at hl 1 rfl) ?_
        refine lv_iconst (v := 3) X.1 X.2.1 dL_joins_59 (by decide) ?_
        refine lv_iconst (v := 1) X.1 X.2.1 dL_joins_60 (by decide) ?_
        obtain ⟨v125, I126, R127, h128, hg⟩ := zh_bd3 hf
        replace hf := hg
        refine ze_aftI0 (ze_runV (As := [.int (3 : Int32), .int (1 : Int32)]) (rest := []) X 6 39 (c_X6_covers l D B n112 k119 h128) vX6_covers kml_L_39 hW k119 rfl rfl ⟨by decide, by decide⟩ rfl hl.1 rfl (Nat.le_of_ble_eq_true rfl) ⟨by show _ + 0 ≤ (188 : Nat); (try dsimp only); omega, by show _ + 0 ≤ (4700 : Nat); (try dsimp only); omega⟩ dL_joins_61) hW (fun H locs hV => ?_)
        replace hW := hV
        refine lv_iconst (v := 1) X.1 X.2.1 dL_joins_64 (by decide) ?_
        refine lv_icmp_ne (tgt := 114) X.1 X.2.1 dL_joins_65 (by decide) (fun c129 => ?_) (fun c129 => ?_)
        · replace hf := zif_neg c129 hf
          exact w_L_joins_114 X hr hlk hf (by (try dsimp only); omega) (by (try dsimp only); omega) hW (lv_sub hl [1, 2] rfl)
        · replace hf := zif_pos c129 hf
          refine lv_aload_n X.1 X.2.1 dL_joins_68 rfl (lv_at hl 1 rfl) ?_
          refine lv_iconst (v := 1) X.1 X.2.1 dL_joins_69 (by decide) ?_
          refine lv_iconst (v := 0) X.1 X.2.1 dL_joins_70 (by decide) ?_
          refine lv_iconst (v := 4) X.1 X.2.1 dL_joins_71 (by decide) ?_
          obtain ⟨v130, n131, K132, I133, R134, h135, hg⟩ := zh_bd5 hf
          replace hf := hg
          refine ze_aftI (ze_runV (As := [.int (1 : Int32), .int (0 : Int32), .int (4 : Int32)]) (rest := []) X 6 32 (c_X6_join l D B n112 h135) vX6_join kml_L_32 hW k119 rfl rfl ⟨by decide, by decide⟩ rfl hl.1 rfl (Nat.le_of_ble_eq_true rfl) ⟨by show _ + 4 ≤ (188 : Nat); (try dsimp only); omega, by show _ + 100 ≤ (4700 : Nat); (try dsimp only); omega⟩ dL_joins_72) hW (fun H locs hV => ?_)
          replace hW := hV
          refine lv_iload_n X.1 X.2.1 dL_joins_75 rfl (lv_at hl 0 rfl) ?_
          refine lv_icmp_ne (tgt := 114) X.1 X.2.1 dL_joins_76 (by decide) (fun c136 => ?_) (fun c136 => ?_)
          · replace hf := zif_neg c136 hf
            exact w_L_joins_114 X hr hlk hf (by (try dsimp only); omega) (by (try dsimp only); omega) hW (lv_sub hl [1, 2] rfl)
          · replace hf := zif_pos c136 hf
            refine lv_aload_n X.1 X.2.1 dL_joins_79 rfl (lv_at hl 1 rfl) ?_
            refine lv_iconst (v := 3) X.1 X.2.1 dL_joins_80 (by decide) ?_
            refine lv_iconst (v := 4) X.1 X.2.1 dL_joins_81 (by decide) ?_
            obtain ⟨k137, hg⟩ := zh_if hf
            replace hf := hg
            obtain ⟨v138, I139, R140, h141, hg⟩ := zh_bd3 hf
            replace hf := hg
            refine ze_aftI0 (ze_runV (As := [.int (3 : Int32), .int (4 : Int32)]) (rest := []) X 6 43 (c_X6_compare l D B n131 k137 h141) vX6_compare kml_L_43 hW k137 rfl rfl ⟨by decide, by decide⟩ rfl hl.1 rfl (Nat.le_of_ble_eq_true rfl) ⟨by show _ + 0 ≤ (188 : Nat); (try dsimp only); omega, by show _ + 0 ≤ (4700 : Nat); (try dsimp only); omega⟩ dL_joins_82) hW (fun H locs hV => ?_)
            replace hW := hV
            refine lv_if_ne (tgt := 114) X.1 X.2.1 dL_joins_85 (by decide) (fun c142 => ?_) (fun c142 => ?_)
            · replace hf := zif_neg c142 hf
              exact w_L_joins_114 X hr hlk hf (by (try dsimp only); omega) (by (try dsimp only); omega) hW (lv_sub hl [1, 2] rfl)
            · replace hf := zif_pos c142 hf
              refine lv_aload_n X.1 X.2.1 dL_joins_88 rfl (lv_at hl 1 rfl) ?_
              refine lv_iconst (v := 3) X.1 X.2.1 dL_joins_89 (by decide) ?_
              refine lv_iconst (v := 0) X.1 X.2.1 dL_joins_90 (by decide) ?_
              refine lv_iconst (v := 1) X.1 X.2.1 dL_joins_91 (by decide) ?_
              obtain ⟨v143, I144, R145, h146, hg⟩ := zh_bd3 hf
              replace hf := hg
              refine ze_aftI0 (ze_runV (As := [.int (3 : Int32), .int (0 : Int32), .int (1 : Int32)]) (rest := []) X 6 46 (c_X6_isLeast l D B n131 k137 h146) vX6_isLeast kml_L_46 hW k137 rfl rfl ⟨by decide, by decide⟩ rfl hl.1 rfl (Nat.le_of_ble_eq_true rfl) ⟨by show _ + 0 ≤ (188 : Nat); (try dsimp only); omega, by show _ + 0 ≤ (4700 : Nat); (try dsimp only); omega⟩ dL_joins_92) hW (fun H locs hV => ?_)
              replace hW := hV
              refine lv_iconst (v := 1) X.1 X.2.1 dL_joins_95 (by decide) ?_
              refine lv_icmp_ne (tgt := 114) X.1 X.2.1 dL_joins_96 (by decide) (fun c147 => ?_) (fun c147 => ?_)
              · replace hf := zif_neg c147 hf
                exact w_L_joins_114 X hr hlk hf (by (try dsimp only); omega) (by (try dsimp only); omega) hW (lv_sub hl [1, 2] rfl)
              · replace hf := zif_pos c147 hf
                refine lv_aload_n X.1 X.2.1 dL_joins_99 rfl (lv_at hl 1 rfl) ?_
                refine lv_iconst (v := 4) X.1 X.2.1 dL_joins_100 (by decide) ?_
                refine lv_iconst (v := 0) X.1 X.2.1 dL_joins_101 (by decide) ?_
                refine lv_iconst (v := 1) X.1 X.2.1 dL_joins_102 (by decide) ?_
                obtain ⟨v148, I149, R150, h151, hg⟩ := zh_bd3 hf
                replace hf := hg
                refine ze_aftI0 (ze_runV (As := [.int (4 : Int32), .int (0 : Int32), .int (1 : Int32)]) (rest := []) X 6 46 (c_X6_isLeast l D B n131 k137 h151) vX6_isLeast kml_L_46 hW k137 rfl rfl ⟨by decide, by decide⟩ rfl hl.1 rfl (Nat.le_of_ble_eq_true rfl) ⟨by show _ + 0 ≤ (188 : Nat); (try dsimp only); omega, by show _ + 0 ≤ (4700 : Nat); (try dsimp only); omega⟩ dL_joins_103) hW (fun H locs hV => ?_)
                replace hW := hV
                refine lv_iconst (v := 1) X.1 X.2.1 dL_joins_106 (by decide) ?_
                refine lv_icmp_ne (tgt := 114) X.1 X.2.1 dL_joins_107 (by decide) (fun c152 => ?_) (fun c152 => ?_)
                · replace hf := zif_neg c152 hf
                  exact w_L_joins_114 X hr hlk hf (by (try dsimp only); omega) (by (try dsimp only); omega) hW (lv_sub hl [1, 2] rfl)
                · replace hf := zif_pos c152 hf
                  refine lv_iconst (v := 1) X.1 X.2.1 dL_joins_110 (by decide) ?_
                  refine lv_goto (tgt := 115) X.1 X.2.1 dL_joins_111 (by decide) ?_
                  exact w_L_joins_115 X hr hlk hf (by (try dsimp only); omega) (by (try dsimp only); omega) hW (lv_sub hl [1, 2] rfl)
  · replace hf := zif_pos c117 hf
    refine lv_aload_n X.1 X.2.1 dL_joins_14 rfl (lv_at hl 1 rfl) ?_
    refine lv_iconst (v := 1) X.1 X.2.1 dL_joins_15 (by decide) ?_
    refine lv_iconst (v := 0) X.1 X.2.1 dL_joins_16 (by decide) ?_
    refine lv_iconst (v := 4) X.1 X.2.1 dL_joins_17 (by decide) ?_
    obtain ⟨k153, hg⟩ := zh_if hf
    replace hf := hg
    obtain ⟨v154, n155, K156, I157, R158, h159, hg⟩ := zh_bd5 hf
    replace hf := hg
    refine ze_aftI (ze_runV (As := [.int (1 : Int32), .int (0 : Int32), .int (4 : Int32)]) (rest := []) X 6 32 (c_X6_join l D B n112 h159) vX6_join kml_L_32 hW k153 rfl rfl ⟨by decide, by decide⟩ rfl hl.1 rfl (Nat.le_of_ble_eq_true rfl) ⟨by show _ + 4 ≤ (188 : Nat); (try dsimp only); omega, by show _ + 100 ≤ (4700 : Nat); (try dsimp only); omega⟩ dL_joins_18) hW (fun H locs hV => ?_)
    replace hW := hV
    refine lv_bipush (v := -3) X.1 X.2.1 dL_joins_21 (by decide) ?_
    refine lv_icmp_ne (tgt := 42) X.1 X.2.1 dL_joins_23 (by decide) (fun c160 => ?_) (fun c160 => ?_)
    · replace hf := zif_neg c160 hf
      refine lv_iconst (v := 0) X.1 X.2.1 dL_joins_42 (by decide) ?_
      obtain ⟨rfl, rfl, rfl, rfl, rfl⟩ := zi5 hf
      exact ze_retZ X hr hlk (by decide) hW (by (try dsimp only); omega) (by (try dsimp only); omega) dL_joins_43
    · replace hf := zif_pos c160 hf
      refine lv_aload_n X.1 X.2.1 dL_joins_26 rfl (lv_at hl 1 rfl) ?_
      refine lv_iconst (v := 3) X.1 X.2.1 dL_joins_27 (by decide) ?_
      refine lv_iconst (v := 0) X.1 X.2.1 dL_joins_28 (by decide) ?_
      refine lv_iconst (v := 0) X.1 X.2.1 dL_joins_29 (by decide) ?_
      obtain ⟨k161, hg⟩ := zh_if hf
      replace hf := hg
      obtain ⟨v162, h163, hg⟩ := zh_bd hf
      replace hf := hg
      refine ze_aftI0 (ze_runV (As := [.int (3 : Int32), .int (0 : Int32), .int (0 : Int32)]) (rest := []) X 6 36 (c_X6_node l D B n155 k161 h163) vX6_node kml_L_36 hW k161 rfl rfl ⟨by decide, by decide⟩ rfl hl.1 rfl (Nat.le_of_ble_eq_true rfl) ⟨by show _ + 0 ≤ (188 : Nat); (try dsimp only); omega, by show _ + 0 ≤ (4700 : Nat); (try dsimp only); omega⟩ dL_joins_30) hW (fun H locs hV => ?_)
      replace hW := hV
      refine lv_bipush (v := -2) X.1 X.2.1 dL_joins_33 (by decide) ?_
      refine lv_icmp_ne (tgt := 42) X.1 X.2.1 dL_joins_35 (by decide) (fun c164 => ?_) (fun c164 => ?_)
      · replace hf := zif_neg c164 hf
        refine lv_iconst (v := 0) X.1 X.2.1 dL_joins_42 (by decide) ?_
        obtain ⟨rfl, rfl, rfl, rfl, rfl⟩ := zi5 hf
        exact ze_retZ X hr hlk (by decide) hW (by (try dsimp only); omega) (by (try dsimp only); omega) dL_joins_43
      · replace hf := zif_pos c164 hf
        refine lv_iconst (v := 1) X.1 X.2.1 dL_joins_38 (by decide) ?_
        refine lv_goto (tgt := 43) X.1 X.2.1 dL_joins_39 (by decide) ?_
        obtain ⟨rfl, rfl, rfl, rfl, rfl⟩ := zi5 hf
        exact ze_retZ X hr hlk (by decide) hW (by (try dsimp only); omega) (by (try dsimp only); omega) dL_joins_43
end

/-! LeastPatternsLaw.all(LLeastPatterns;)Z -/
def f_L_all_56 (F : Nat)  (n : Nat) (K : zK) (I : zI) (R : zR) : Option (Int32 × Nat × zK × zI × zR) :=
  some ((1 : Int32), n, K, I, R)
def f_L_all_44 (F : Nat)  (n : Nat) (K : zK) (I : zI) (R : zR) (x1 : Int32) (x3 : Int32) : Option (Int32 × Nat × zK × zI × zR) :=
  if x1 = (-3 : Int32) then
    f_L_all_56 F n K I R
  else
    if x3 = (-3 : Int32) then
      f_L_all_56 F n K I R
    else
      some ((0 : Int32), n, K, I, R)
def f_L_all_35 (F : Nat)  (n : Nat) (K : zK) (I : zI) (R : zR) (x0 : Option Nat) (x1 : Int32) (s0 : Int32) : Option (Int32 × Nat × zK × zI × zR) :=
  if x1 < (0 : Int32) then
    f_L_all_44 F n K I R x1 s0
  else
    if (0 : Int32) ≤ s0 then
      if x1 = s0 then
        zbd (zdr K x0 16) fun a6 =>
        zbd3 (f_X6_compare F K I R a6 (5 : Int32) (7 : Int32)) fun v9 I10 R11 =>
        if v9 = (0 : Int32) then
          zbd3 (f_X6_covers F K I10 R11 a6 (5 : Int32) (0 : Int32)) fun v14 I15 R16 =>
          if v14 = (1 : Int32) then
            zbd3 (f_X6_covers F K I15 R16 a6 (5 : Int32) (1 : Int32)) fun v19 I20 R21 =>
            if v19 = (1 : Int32) then
              zbd3 (f_X6_covers F K I20 R21 a6 (5 : Int32) (2 : Int32)) fun v24 I25 R26 =>
              if v24 = (1 : Int32) then
                zbd3 (f_X6_covers F K I25 R26 a6 (5 : Int32) (6 : Int32)) fun v29 I30 R31 =>
                if v29 = (1 : Int32) then
                  some ((1 : Int32), n, K, I30, R31)
                else
                  some ((0 : Int32), n, K, I30, R31)
              else
                some ((0 : Int32), n, K, I25, R26)
            else
              some ((0 : Int32), n, K, I20, R21)
          else
            some ((0 : Int32), n, K, I15, R16)
        else
          some ((0 : Int32), n, K, I10, R11)
      else
        some ((0 : Int32), n, K, I, R)
    else
      f_L_all_44 F n K I R x1 s0
def f_L_all (F : Nat) (n : Nat) (K : zK) (I : zI) (R : zR) (x0 : Option Nat) : Option (Int32 × Nat × zK × zI × zR) :=
  zbd (zdr K x0 16) fun a34 =>
  zbd5 (f_X6_joinAll F n K I R a34 (7 : Int32) (5 : Int32)) fun v37 n38 K39 I40 R41 =>
  if (K39 a34).1 = 16 then
  zbd5 (f_X6_join F n38 K39 I40 R41 a34 (2 : Int32) (1 : Int32) (6 : Int32)) fun v44 n45 K46 I47 R48 =>
  if (0 : Int32) ≤ v44 then
    if (K46 a34).1 = 16 then
    zbd5 (f_X6_join F n45 K46 I47 R48 a34 (6 : Int32) (0 : Int32) (7 : Int32)) fun v52 n53 K54 I55 R56 =>
    f_L_all_35 F n53 K54 I55 R56 (some a34) v37 v52
    else none
  else
    f_L_all_35 F n45 K46 I47 R48 (some a34) v37 (-3 : Int32)
  else none
section
variable {p : Program} {l : Launch} {e : Env} {s : State} {m : MethodId} {args : Array Value} {below : List Frame} {meth : Method} {c : Code} {D : zD} {B n n0 n' fd ld : Nat} {K K0 K' : zK} {I I' : zI} {R R' : zR} {H : Heap} {locs : List Loc} {ls : Array Slot} {r : Int32}
set_option maxRecDepth 100000 in
set_option maxHeartbeats 4000000 in
theorem w_L_all_56 {F : Nat}  (X : zX p s m c cL_all 4 RL D) (hr : meth.sig.returnType = some .boolean) (hlk : meth.locks = false)   {cells slots : Nat} (hf : f_L_all_56 F  n K I R = some (r, n', K', I', R')) (b1 : cells + 0 ≤ 44) (b2 : slots + 0 ≤ 1100) (hW : zS (zOwn B K0 (B + n0)) D B n K I R s.heap H locs) (hl : lv_has ls 4 []) : W p l e ({ frames := 83, cells := 44, slots := 1100, locals := 4074 } : Room) s m args below meth c H locs cells slots (MQ below (zQi D (zOwn B K0 (B + n0)) r B n' K' I' R') args s 44 1100 (zOwn B K0 (B + n0))) (F0 m 56 ls []) := by
  unfold f_L_all_56 at hf
  refine lv_iconst (v := 1) X.1 X.2.1 dL_all_56 (by decide) ?_
  refine lv_goto (tgt := 61) X.1 X.2.1 dL_all_57 (by decide) ?_
  obtain ⟨rfl, rfl, rfl, rfl, rfl⟩ := zi5 hf
  exact ze_retZ X hr hlk (by decide) hW (by (try dsimp only); omega) (by (try dsimp only); omega) dL_all_61
set_option maxRecDepth 100000 in
set_option maxHeartbeats 4000000 in
theorem w_L_all_44 {F : Nat}  (X : zX p s m c cL_all 4 RL D) (hr : meth.sig.returnType = some .boolean) (hlk : meth.locks = false)  {x1 : Int32} {x3 : Int32} {cells slots : Nat} (hf : f_L_all_44 F  n K I R x1 x3 = some (r, n', K', I', R')) (b1 : cells + 0 ≤ 44) (b2 : slots + 0 ≤ 1100) (hW : zS (zOwn B K0 (B + n0)) D B n K I R s.heap H locs) (hl : lv_has ls 4 [(1, .int x1), (3, .int x3)]) : W p l e ({ frames := 83, cells := 44, slots := 1100, locals := 4074 } : Room) s m args below meth c H locs cells slots (MQ below (zQi D (zOwn B K0 (B + n0)) r B n' K' I' R') args s 44 1100 (zOwn B K0 (B + n0))) (F0 m 44 ls []) := by
  unfold f_L_all_44 at hf
  refine lv_iload_n X.1 X.2.1 dL_all_44 rfl (lv_at hl 0 rfl) ?_
  refine lv_bipush (v := -3) X.1 X.2.1 dL_all_45 (by decide) ?_
  refine lv_icmp_eq (tgt := 56) X.1 X.2.1 dL_all_47 (by decide) (fun c1 => ?_) (fun c1 => ?_)
  · replace hf := zif_pos c1 hf
    exact w_L_all_56 X hr hlk hf (by (try dsimp only); omega) (by (try dsimp only); omega) hW (lv_sub hl [] rfl)
  · replace hf := zif_neg c1 hf
    refine lv_iload_n X.1 X.2.1 dL_all_50 rfl (lv_at hl 1 rfl) ?_
    refine lv_bipush (v := -3) X.1 X.2.1 dL_all_51 (by decide) ?_
    refine lv_icmp_ne (tgt := 60) X.1 X.2.1 dL_all_53 (by decide) (fun c2 => ?_) (fun c2 => ?_)
    · replace hf := zif_neg c2 hf
      refine lv_iconst (v := 0) X.1 X.2.1 dL_all_60 (by decide) ?_
      obtain ⟨rfl, rfl, rfl, rfl, rfl⟩ := zi5 hf
      exact ze_retZ X hr hlk (by decide) hW (by (try dsimp only); omega) (by (try dsimp only); omega) dL_all_61
    · replace hf := zif_pos c2 hf
      exact w_L_all_56 X hr hlk hf (by (try dsimp only); omega) (by (try dsimp only); omega) hW (lv_sub hl [] rfl)
set_option maxRecDepth 100000 in
set_option maxHeartbeats 4000000 in
theorem w_L_all_35 {F : Nat}  (X : zX p s m c cL_all 4 RL D) (hr : meth.sig.returnType = some .boolean) (hlk : meth.locks = false)  {x0 : Option Nat} {x1 : Int32} {s0 : Int32} {cells slots : Nat} (hf : f_L_all_35 F  n K I R x0 x1 s0 = some (r, n', K', I', R')) (b1 : cells + 0 ≤ 44) (b2 : slots + 0 ≤ 1100) (hW : zS (zOwn B K0 (B + n0)) D B n K I R s.heap H locs) (hl : lv_has ls 4 [(0, zrf B x0), (1, .int x1)]) : W p l e ({ frames := 83, cells := 44, slots := 1100, locals := 4074 } : Room) s m args below meth c H locs cells slots (MQ below (zQi D (zOwn B K0 (B + n0)) r B n' K' I' R') args s 44 1100 (zOwn B K0 (B + n0))) (F0 m 35 ls [.int s0]) := by
  unfold f_L_all_35 at hf
  refine lv_istore_n (i := 3) (lv' := [(3, .int s0), (0, zrf B x0), (1, .int x1)]) X.1 X.2.1 dL_all_35 rfl hl (by decide) rfl (fun ls hk => ?_)
  replace hl := hk
  refine lv_iload_n X.1 X.2.1 dL_all_36 rfl (lv_at hl 2 rfl) ?_
  refine lv_if_lt (tgt := 44) X.1 X.2.1 dL_all_37 (by decide) (fun c3 => ?_) (fun c3 => ?_)
  · replace hf := zif_pos c3 hf
    exact w_L_all_44 X hr hlk hf (by (try dsimp only); omega) (by (try dsimp only); omega) hW (lv_sub hl [2, 0] rfl)
  · replace hf := zif_neg c3 hf
    refine lv_iload_n X.1 X.2.1 dL_all_40 rfl (lv_at hl 0 rfl) ?_
    refine lv_if_ge (tgt := 62) X.1 X.2.1 dL_all_41 (by decide) (fun c4 => ?_) (fun c4 => ?_)
    · replace hf := zif_pos c4 hf
      refine lv_iload_n X.1 X.2.1 dL_all_62 rfl (lv_at hl 2 rfl) ?_
      refine lv_iload_n X.1 X.2.1 dL_all_63 rfl (lv_at hl 0 rfl) ?_
      refine lv_icmp_ne (tgt := 122) X.1 X.2.1 dL_all_64 (by decide) (fun c5 => ?_) (fun c5 => ?_)
      · replace hf := zif_neg c5 hf
        refine lv_iconst (v := 0) X.1 X.2.1 dL_all_122 (by decide) ?_
        obtain ⟨rfl, rfl, rfl, rfl, rfl⟩ := zi5 hf
        exact ze_retZ X hr hlk (by decide) hW (by (try dsimp only); omega) (by (try dsimp only); omega) dL_all_123
      · replace hf := zif_pos c5 hf
        refine ze_aload_n X.1 X.2.1 dL_all_67 rfl (lv_at hl 1 rfl) ?_
        refine lv_iconst (v := 5) X.1 X.2.1 dL_all_68 (by decide) ?_
        refine lv_bipush (v := 7) X.1 X.2.1 dL_all_69 (by decide) ?_
        obtain ⟨a6, rfl, k8, hg⟩ := zh_dr hf
        replace hf := hg
        obtain ⟨v9, I10, R11, h12, hg⟩ := zh_bd3 hf
        replace hf := hg
        refine ze_aftI0 (ze_runV (As := [.int (5 : Int32), .int (7 : Int32)]) (rest := []) X 6 43 (c_X6_compare l D B n k8 h12) vX6_compare kml_L_43 hW k8 rfl rfl ⟨by decide, by decide⟩ rfl hl.1 rfl (Nat.le_of_ble_eq_true rfl) ⟨by show _ + 0 ≤ (44 : Nat); (try dsimp only); omega, by show _ + 0 ≤ (1100 : Nat); (try dsimp only); omega⟩ dL_all_71) hW (fun H locs hV => ?_)
        replace hW := hV
        refine lv_if_ne (tgt := 122) X.1 X.2.1 dL_all_74 (by decide) (fun c13 => ?_) (fun c13 => ?_)
        · replace hf := zif_neg c13 hf
          refine lv_iconst (v := 0) X.1 X.2.1 dL_all_122 (by decide) ?_
          obtain ⟨rfl, rfl, rfl, rfl, rfl⟩ := zi5 hf
          exact ze_retZ X hr hlk (by decide) hW (by (try dsimp only); omega) (by (try dsimp only); omega) dL_all_123
        · replace hf := zif_pos c13 hf
          refine lv_aload_n X.1 X.2.1 dL_all_77 rfl (lv_at hl 1 rfl) ?_
          refine lv_iconst (v := 5) X.1 X.2.1 dL_all_78 (by decide) ?_
          refine lv_iconst (v := 0) X.1 X.2.1 dL_all_79 (by decide) ?_
          obtain ⟨v14, I15, R16, h17, hg⟩ := zh_bd3 hf
          replace hf := hg
          refine ze_aftI0 (ze_runV (As := [.int (5 : Int32), .int (0 : Int32)]) (rest := []) X 6 39 (c_X6_covers l D B n k8 h17) vX6_covers kml_L_39 hW k8 rfl rfl ⟨by decide, by decide⟩ rfl hl.1 rfl (Nat.le_of_ble_eq_true rfl) ⟨by show _ + 0 ≤ (44 : Nat); (try dsimp only); omega, by show _ + 0 ≤ (1100 : Nat); (try dsimp only); omega⟩ dL_all_80) hW (fun H locs hV => ?_)
          replace hW := hV
          refine lv_iconst (v := 1) X.1 X.2.1 dL_all_83 (by decide) ?_
          refine lv_icmp_ne (tgt := 122) X.1 X.2.1 dL_all_84 (by decide) (fun c18 => ?_) (fun c18 => ?_)
          · replace hf := zif_neg c18 hf
            refine lv_iconst (v := 0) X.1 X.2.1 dL_all_122 (by decide) ?_
            obtain ⟨rfl, rfl, rfl, rfl, rfl⟩ := zi5 hf
            exact ze_retZ X hr hlk (by decide) hW (by (try dsimp only); omega) (by (try dsimp only); omega) dL_all_123
          · replace hf := zif_pos c18 hf
            refine lv_aload_n X.1 X.2.1 dL_all_87 rfl (lv_at hl 1 rfl) ?_
            refine lv_iconst (v := 5) X.1 X.2.1 dL_all_88 (by decide) ?_
            refine lv_iconst (v := 1) X.1 X.2.1 dL_all_89 (by decide) ?_
            obtain ⟨v19, I20, R21, h22, hg⟩ := zh_bd3 hf
            replace hf := hg
            refine ze_aftI0 (ze_runV (As := [.int (5 : Int32), .int (1 : Int32)]) (rest := []) X 6 39 (c_X6_covers l D B n k8 h22) vX6_covers kml_L_39 hW k8 rfl rfl ⟨by decide, by decide⟩ rfl hl.1 rfl (Nat.le_of_ble_eq_true rfl) ⟨by show _ + 0 ≤ (44 : Nat); (try dsimp only); omega, by show _ + 0 ≤ (1100 : Nat); (try dsimp only); omega⟩ dL_all_90) hW (fun H locs hV => ?_)
            replace hW := hV
            refine lv_iconst (v := 1) X.1 X.2.1 dL_all_93 (by decide) ?_
            refine lv_icmp_ne (tgt := 122) X.1 X.2.1 dL_all_94 (by decide) (fun c23 => ?_) (fun c23 => ?_)
            · replace hf := zif_neg c23 hf
              refine lv_iconst (v := 0) X.1 X.2.1 dL_all_122 (by decide) ?_
              obtain ⟨rfl, rfl, rfl, rfl, rfl⟩ := zi5 hf
              exact ze_retZ X hr hlk (by decide) hW (by (try dsimp only); omega) (by (try dsimp only); omega) dL_all_123
            · replace hf := zif_pos c23 hf
              refine lv_aload_n X.1 X.2.1 dL_all_97 rfl (lv_at hl 1 rfl) ?_
              refine lv_iconst (v := 5) X.1 X.2.1 dL_all_98 (by decide) ?_
              refine lv_iconst (v := 2) X.1 X.2.1 dL_all_99 (by decide) ?_
              obtain ⟨v24, I25, R26, h27, hg⟩ := zh_bd3 hf
              replace hf := hg
              refine ze_aftI0 (ze_runV (As := [.int (5 : Int32), .int (2 : Int32)]) (rest := []) X 6 39 (c_X6_covers l D B n k8 h27) vX6_covers kml_L_39 hW k8 rfl rfl ⟨by decide, by decide⟩ rfl hl.1 rfl (Nat.le_of_ble_eq_true rfl) ⟨by show _ + 0 ≤ (44 : Nat); (try dsimp only); omega, by show _ + 0 ≤ (1100 : Nat); (try dsimp only); omega⟩ dL_all_100) hW (fun H locs hV => ?_)
              replace hW := hV
              refine lv_iconst (v := 1) X.1 X.2.1 dL_all_103 (by decide) ?_
              refine lv_icmp_ne (tgt := 122) X.1 X.2.1 dL_all_104 (by decide) (fun c28 => ?_) (fun c28 => ?_)
              · replace hf := zif_neg c28 hf
                refine lv_iconst (v := 0) X.1 X.2.1 dL_all_122 (by decide) ?_
                obtain ⟨rfl, rfl, rfl, rfl, rfl⟩ := zi5 hf
                exact ze_retZ X hr hlk (by decide) hW (by (try dsimp only); omega) (by (try dsimp only); omega) dL_all_123
              · replace hf := zif_pos c28 hf
                refine lv_aload_n X.1 X.2.1 dL_all_107 rfl (lv_at hl 1 rfl) ?_
                refine lv_iconst (v := 5) X.1 X.2.1 dL_all_108 (by decide) ?_
                refine lv_bipush (v := 6) X.1 X.2.1 dL_all_109 (by decide) ?_
                obtain ⟨v29, I30, R31, h32, hg⟩ := zh_bd3 hf
                replace hf := hg
                refine ze_aftI0 (ze_runV (As := [.int (5 : Int32), .int (6 : Int32)]) (rest := []) X 6 39 (c_X6_covers l D B n k8 h32) vX6_covers kml_L_39 hW k8 rfl rfl ⟨by decide, by decide⟩ rfl hl.1 rfl (Nat.le_of_ble_eq_true rfl) ⟨by show _ + 0 ≤ (44 : Nat); (try dsimp only); omega, by show _ + 0 ≤ (1100 : Nat); (try dsimp only); omega⟩ dL_all_111) hW (fun H locs hV => ?_)
                replace hW := hV
                refine lv_iconst (v := 1) X.1 X.2.1 dL_all_114 (by decide) ?_
                refine lv_icmp_ne (tgt := 122) X.1 X.2.1 dL_all_115 (by decide) (fun c33 => ?_) (fun c33 => ?_)
                · replace hf := zif_neg c33 hf
                  refine lv_iconst (v := 0) X.1 X.2.1 dL_all_122 (by decide) ?_
                  obtain ⟨rfl, rfl, rfl, rfl, rfl⟩ := zi5 hf
                  exact ze_retZ X hr hlk (by decide) hW (by (try dsimp only); omega) (by (try dsimp only); omega) dL_all_123
                · replace hf := zif_pos c33 hf
                  refine lv_iconst (v := 1) X.1 X.2.1 dL_all_118 (by decide) ?_
                  refine lv_goto (tgt := 123) X.1 X.2.1 dL_all_119 (by decide) ?_
                  obtain ⟨rfl, rfl, rfl, rfl, rfl⟩ := zi5 hf
                  exact ze_retZ X hr hlk (by decide) hW (by (try dsimp only); omega) (by (try dsimp only); omega) dL_all_123
    · replace hf := zif_neg c4 hf
      exact w_L_all_44 X hr hlk hf (by (try dsimp only); omega) (by (try dsimp only); omega) hW (lv_sub hl [2, 0] rfl)
set_option maxRecDepth 100000 in
set_option maxHeartbeats 4000000 in
theorem c_L_all (l : Launch) (D : zD) (B n : Nat) {F : Nat} {K : zK} {I : zI} {R : zR} {x0 : Option Nat} {r : Int32} {n' : Nat} {K' : zK} {I' : zI} {R' : zR} (hf : f_L_all F n K I R x0 = some (r, n', K', I', R')) : zM l yL_all cL_all 4 (some .boolean) ({ frames := 83, cells := 44, slots := 1100, locals := 4074 } : Room) D B n K I R [zrf B x0] (zQi D (zOwn B K (B + n)) r B n' K' I' R') := by
  refine ze_entry (lv0 := [(0, zrf B x0)]) (by decide) (by simp [lg_sl, zcat, zcat_i, zcat_r, zcat_l]) (by simp [lv_args, zcat, zcat_i, zcat_r, zcat_l]) (fun p e s m below meth c X hr hlk hin hW ls hl => ?_)
  unfold f_L_all at hf
  have b1 : (0 : Nat) ≤ 0 := Nat.le_refl _
  refine ze_aload_n X.1 X.2.1 dL_all_0 rfl (lv_at hl 0 rfl) ?_
  refine lv_bipush (v := 7) X.1 X.2.1 dL_all_1 (by decide) ?_
  refine lv_iconst (v := 5) X.1 X.2.1 dL_all_3 (by decide) ?_
  obtain ⟨a34, rfl, k36, hg⟩ := zh_dr hf
  replace hf := hg
  obtain ⟨v37, n38, K39, I40, R41, h42, hg⟩ := zh_bd5 hf
  replace hf := hg
  refine ze_aftI (ze_runV (As := [.int (7 : Int32), .int (5 : Int32)]) (rest := []) X 6 62 (c_X6_joinAll l D B n h42) vX6_joinAll kml_L_62 hW k36 rfl rfl ⟨by decide, by decide⟩ rfl hl.1 rfl (Nat.le_of_ble_eq_true rfl) ⟨by show _ + 36 ≤ (44 : Nat); (try dsimp only); omega, by show _ + 900 ≤ (1100 : Nat); (try dsimp only); omega⟩ dL_all_4) hW (fun H locs hV => ?_)
  replace hW := hV
  refine lv_istore_n (i := 1) (lv' := [(1, .int v37), (0, .ref (B + a34))]) X.1 X.2.1 dL_all_7 rfl hl (by decide) rfl (fun ls hk => ?_)
  replace hl := hk
  refine lv_aload_n X.1 X.2.1 dL_all_8 rfl (lv_at hl 1 rfl) ?_
  refine lv_iconst (v := 2) X.1 X.2.1 dL_all_9 (by decide) ?_
  refine lv_iconst (v := 1) X.1 X.2.1 dL_all_10 (by decide) ?_
  refine lv_bipush (v := 6) X.1 X.2.1 dL_all_11 (by decide) ?_
  obtain ⟨k43, hg⟩ := zh_if hf
  replace hf := hg
  obtain ⟨v44, n45, K46, I47, R48, h49, hg⟩ := zh_bd5 hf
  replace hf := hg
  refine ze_aftI (ze_runV (As := [.int (2 : Int32), .int (1 : Int32), .int (6 : Int32)]) (rest := []) X 6 32 (c_X6_join l D B n38 h49) vX6_join kml_L_32 hW k43 rfl rfl ⟨by decide, by decide⟩ rfl hl.1 rfl (Nat.le_of_ble_eq_true rfl) ⟨by show _ + 4 ≤ (44 : Nat); (try dsimp only); omega, by show _ + 100 ≤ (1100 : Nat); (try dsimp only); omega⟩ dL_all_13) hW (fun H locs hV => ?_)
  replace hW := hV
  refine lv_istore_n (i := 2) (lv' := [(2, .int v44), (1, .int v37), (0, .ref (B + a34))]) X.1 X.2.1 dL_all_16 rfl hl (by decide) rfl (fun ls hk => ?_)
  replace hl := hk
  refine lv_iload_n X.1 X.2.1 dL_all_17 rfl (lv_at hl 0 rfl) ?_
  refine lv_if_ge (tgt := 26) X.1 X.2.1 dL_all_18 (by decide) (fun c50 => ?_) (fun c50 => ?_)
  · replace hf := zif_pos c50 hf
    refine lv_aload_n X.1 X.2.1 dL_all_26 rfl (lv_at hl 2 rfl) ?_
    refine lv_bipush (v := 6) X.1 X.2.1 dL_all_27 (by decide) ?_
    refine lv_iconst (v := 0) X.1 X.2.1 dL_all_29 (by decide) ?_
    refine lv_bipush (v := 7) X.1 X.2.1 dL_all_30 (by decide) ?_
    obtain ⟨k51, hg⟩ := zh_if hf
    replace hf := hg
    obtain ⟨v52, n53, K54, I55, R56, h57, hg⟩ := zh_bd5 hf
    replace hf := hg
    refine ze_aftI (ze_runV (As := [.int (6 : Int32), .int (0 : Int32), .int (7 : Int32)]) (rest := []) X 6 32 (c_X6_join l D B n45 h57) vX6_join kml_L_32 hW k51 rfl rfl ⟨by decide, by decide⟩ rfl hl.1 rfl (Nat.le_of_ble_eq_true rfl) ⟨by show _ + 4 ≤ (44 : Nat); (try dsimp only); omega, by show _ + 100 ≤ (1100 : Nat); (try dsimp only); omega⟩ dL_all_32) hW (fun H locs hV => ?_)
    replace hW := hV
    exact w_L_all_35 X hr hlk hf (by (try dsimp only); omega) (by (try dsimp only); omega) hW (lv_sub hl [2, 1] rfl)
  · replace hf := zif_neg c50 hf
    refine lv_bipush (v := -3) X.1 X.2.1 dL_all_21 (by decide) ?_
    refine lv_goto (tgt := 35) X.1 X.2.1 dL_all_23 (by decide) ?_
    exact w_L_all_35 X hr hlk hf (by (try dsimp only); omega) (by (try dsimp only); omega) hW (lv_sub hl [2, 1] rfl)
end

/-! LeastPatternsLaw.rules(LLeastPatterns;)Z -/
def f_L_rules_71 (F : Nat)  (n : Nat) (K : zK) (I : zI) (R : zR) (x0 : Option Nat) (s0 : Int32) : Option (Int32 × Nat × zK × zI × zR) :=
  zbd (zdr K x0 16) fun a1 =>
  zbd3 (f_X6_covers F K I R a1 (0 : Int32) (2 : Int32)) fun v4 I5 R6 =>
  if v4 = (0 : Int32) then
    if s0 = (0 : Int32) then
      some ((0 : Int32), n, K, I5, R6)
    else
      zbd5 (f_X6_apply F n K I5 R6 a1 (0 : Int32) (1 : Int32) (2 : Int32) (5 : Int32)) fun v11 n12 K13 I14 R15 =>
      if v11 = (-2 : Int32) then
        some ((1 : Int32), n12, K13, I14, R15)
      else
        some ((0 : Int32), n12, K13, I14, R15)
  else
    if s0 = 0 ∨ s0 = 1 then
    some (s0, n, K, I5, R6)
    else
    none
def f_L_rules_70 (F : Nat)  (n : Nat) (K : zK) (I : zI) (R : zR) (x0 : Option Nat) : Option (Int32 × Nat × zK × zI × zR) :=
  f_L_rules_71 F n K I R x0 (0 : Int32)
def f_L_rules (F : Nat) (n : Nat) (K : zK) (I : zI) (R : zR) (x0 : Option Nat) : Option (Int32 × Nat × zK × zI × zR) :=
  zbd (zdr K x0 16) fun a18 =>
  zbd5 (f_X6_learn F n K I R a18 (0 : Int32) (1 : Int32) (0 : Int32) (1 : Int32) (6 : Int32) (7 : Int32)) fun v21 n22 K23 I24 R25 =>
  if v21 = (1 : Int32) then
    if (K23 a18).1 = 16 then
    zbd3 (f_X6_compare F K23 I24 R25 a18 (6 : Int32) (0 : Int32)) fun v29 I30 R31 =>
    if v29 = (0 : Int32) then
      zbd3 (f_X6_compare F K23 I30 R31 a18 (7 : Int32) (1 : Int32)) fun v34 I35 R36 =>
      if v34 = (0 : Int32) then
        zbd5 (f_X6_apply F n22 K23 I35 R36 a18 (6 : Int32) (7 : Int32) (0 : Int32) (5 : Int32)) fun v39 n40 K41 I42 R43 =>
        if (K41 a18).1 = 16 then
        zbd (f_X6_size F K41 I42 R43 a18 (1 : Int32) (0 : Int32)) fun v46 =>
        if v39 = v46 then
          zbd3 (f_X6_compare F K41 I42 R43 a18 (5 : Int32) (1 : Int32)) fun v49 I50 R51 =>
          if v49 = (0 : Int32) then
            f_L_rules_71 F n40 K41 I50 R51 (some a18) (1 : Int32)
          else
            f_L_rules_70 F n40 K41 I50 R51 (some a18)
        else
          f_L_rules_70 F n40 K41 I42 R43 (some a18)
        else none
      else
        f_L_rules_70 F n22 K23 I35 R36 (some a18)
    else
      f_L_rules_70 F n22 K23 I30 R31 (some a18)
    else none
  else
    f_L_rules_70 F n22 K23 I24 R25 (some a18)
section
variable {p : Program} {l : Launch} {e : Env} {s : State} {m : MethodId} {args : Array Value} {below : List Frame} {meth : Method} {c : Code} {D : zD} {B n n0 n' fd ld : Nat} {K K0 K' : zK} {I I' : zI} {R R' : zR} {H : Heap} {locs : List Loc} {ls : Array Slot} {r : Int32}
set_option maxRecDepth 100000 in
set_option maxHeartbeats 4000000 in
theorem w_L_rules_71 {F : Nat}  (X : zX p s m c cL_rules 3 RL D) (hr : meth.sig.returnType = some .boolean) (hlk : meth.locks = false)  {x0 : Option Nat} {s0 : Int32} {cells slots : Nat} (hf : f_L_rules_71 F  n K I R x0 s0 = some (r, n', K', I', R')) (b1 : cells + 4 ≤ 16) (b2 : slots + 100 ≤ 400) (hW : zS (zOwn B K0 (B + n0)) D B n K I R s.heap H locs) (hl : lv_has ls 3 [(0, zrf B x0)]) : W p l e ({ frames := 83, cells := 16, slots := 400, locals := 4081 } : Room) s m args below meth c H locs cells slots (MQ below (zQi D (zOwn B K0 (B + n0)) r B n' K' I' R') args s 16 400 (zOwn B K0 (B + n0))) (F0 m 71 ls [.int s0]) := by
  unfold f_L_rules_71 at hf
  refine lv_istore_n (i := 2) (lv' := [(2, .int s0), (0, zrf B x0)]) X.1 X.2.1 dL_rules_71 rfl hl (by decide) rfl (fun ls hk => ?_)
  replace hl := hk
  refine ze_aload_n X.1 X.2.1 dL_rules_72 rfl (lv_at hl 1 rfl) ?_
  refine lv_iconst (v := 0) X.1 X.2.1 dL_rules_73 (by decide) ?_
  refine lv_iconst (v := 2) X.1 X.2.1 dL_rules_74 (by decide) ?_
  obtain ⟨a1, rfl, k3, hg⟩ := zh_dr hf
  replace hf := hg
  obtain ⟨v4, I5, R6, h7, hg⟩ := zh_bd3 hf
  replace hf := hg
  refine ze_aftI0 (ze_runV (As := [.int (0 : Int32), .int (2 : Int32)]) (rest := []) X 6 39 (c_X6_covers l D B n k3 h7) vX6_covers kml_L_39 hW k3 rfl rfl ⟨by decide, by decide⟩ rfl hl.1 rfl (Nat.le_of_ble_eq_true rfl) ⟨by show _ + 0 ≤ (16 : Nat); (try dsimp only); omega, by show _ + 0 ≤ (400 : Nat); (try dsimp only); omega⟩ dL_rules_75) hW (fun H locs hV => ?_)
  replace hW := hV
  refine lv_if_ne (tgt := 104) X.1 X.2.1 dL_rules_78 (by decide) (fun c8 => ?_) (fun c8 => ?_)
  · replace hf := zif_neg c8 hf
    refine lv_iload_n X.1 X.2.1 dL_rules_104 rfl (lv_at hl 0 rfl) ?_
    obtain ⟨hv9, hg⟩ := zh_if hf
    replace hf := hg
    obtain ⟨rfl, rfl, rfl, rfl, rfl⟩ := zi5 hf
    exact ze_retZ X hr hlk hv9 hW (by (try dsimp only); omega) (by (try dsimp only); omega) dL_rules_105
  · replace hf := zif_pos c8 hf
    refine lv_iload_n X.1 X.2.1 dL_rules_81 rfl (lv_at hl 0 rfl) ?_
    refine lv_if_eq (tgt := 102) X.1 X.2.1 dL_rules_82 (by decide) (fun c10 => ?_) (fun c10 => ?_)
    · replace hf := zif_pos c10 hf
      refine lv_iconst (v := 0) X.1 X.2.1 dL_rules_102 (by decide) ?_
      refine lv_istore_n (i := 2) (lv' := [(2, .int (0 : Int32)), (0, .ref (B + a1))]) X.1 X.2.1 dL_rules_103 rfl hl (by decide) rfl (fun ls hk => ?_)
      replace hl := hk
      refine lv_iload_n X.1 X.2.1 dL_rules_104 rfl (lv_at hl 0 rfl) ?_
      obtain ⟨rfl, rfl, rfl, rfl, rfl⟩ := zi5 hf
      exact ze_retZ X hr hlk (by decide) hW (by (try dsimp only); omega) (by (try dsimp only); omega) dL_rules_105
    · replace hf := zif_neg c10 hf
      refine lv_aload_n X.1 X.2.1 dL_rules_85 rfl (lv_at hl 1 rfl) ?_
      refine lv_iconst (v := 0) X.1 X.2.1 dL_rules_86 (by decide) ?_
      refine lv_iconst (v := 1) X.1 X.2.1 dL_rules_87 (by decide) ?_
      refine lv_iconst (v := 2) X.1 X.2.1 dL_rules_88 (by decide) ?_
      refine lv_iconst (v := 5) X.1 X.2.1 dL_rules_89 (by decide) ?_
      obtain ⟨v11, n12, K13, I14, R15, h16, hg⟩ := zh_bd5 hf
      replace hf := hg
      refine ze_aftI (ze_runV (As := [.int (0 : Int32), .int (1 : Int32), .int (2 : Int32), .int (5 : Int32)]) (rest := []) X 6 69 (c_X6_apply l D B n h16) vX6_apply kml_L_69 hW k3 rfl rfl ⟨by decide, by decide⟩ rfl hl.1 rfl (Nat.le_of_ble_eq_true rfl) ⟨by show _ + 4 ≤ (16 : Nat); (try dsimp only); omega, by show _ + 100 ≤ (400 : Nat); (try dsimp only); omega⟩ dL_rules_90) hW (fun H locs hV => ?_)
      replace hW := hV
      refine lv_bipush (v := -2) X.1 X.2.1 dL_rules_93 (by decide) ?_
      refine lv_icmp_ne (tgt := 102) X.1 X.2.1 dL_rules_95 (by decide) (fun c17 => ?_) (fun c17 => ?_)
      · replace hf := zif_neg c17 hf
        refine lv_iconst (v := 0) X.1 X.2.1 dL_rules_102 (by decide) ?_
        refine lv_istore_n (i := 2) (lv' := [(2, .int (0 : Int32)), (0, .ref (B + a1))]) X.1 X.2.1 dL_rules_103 rfl hl (by decide) rfl (fun ls hk => ?_)
        replace hl := hk
        refine lv_iload_n X.1 X.2.1 dL_rules_104 rfl (lv_at hl 0 rfl) ?_
        obtain ⟨rfl, rfl, rfl, rfl, rfl⟩ := zi5 hf
        exact ze_retZ X hr hlk (by decide) hW (by (try dsimp only); omega) (by (try dsimp only); omega) dL_rules_105
      · replace hf := zif_pos c17 hf
        refine lv_iconst (v := 1) X.1 X.2.1 dL_rules_98 (by decide) ?_
        refine lv_goto (tgt := 103) X.1 X.2.1 dL_rules_99 (by decide) ?_
        refine lv_istore_n (i := 2) (lv' := [(2, .int (1 : Int32)), (0, .ref (B + a1))]) X.1 X.2.1 dL_rules_103 rfl hl (by decide) rfl (fun ls hk => ?_)
        replace hl := hk
        refine lv_iload_n X.1 X.2.1 dL_rules_104 rfl (lv_at hl 0 rfl) ?_
        obtain ⟨rfl, rfl, rfl, rfl, rfl⟩ := zi5 hf
        exact ze_retZ X hr hlk (by decide) hW (by (try dsimp only); omega) (by (try dsimp only); omega) dL_rules_105
set_option maxRecDepth 100000 in
set_option maxHeartbeats 4000000 in
theorem w_L_rules_70 {F : Nat}  (X : zX p s m c cL_rules 3 RL D) (hr : meth.sig.returnType = some .boolean) (hlk : meth.locks = false)  {x0 : Option Nat} {cells slots : Nat} (hf : f_L_rules_70 F  n K I R x0 = some (r, n', K', I', R')) (b1 : cells + 4 ≤ 16) (b2 : slots + 100 ≤ 400) (hW : zS (zOwn B K0 (B + n0)) D B n K I R s.heap H locs) (hl : lv_has ls 3 [(0, zrf B x0)]) : W p l e ({ frames := 83, cells := 16, slots := 400, locals := 4081 } : Room) s m args below meth c H locs cells slots (MQ below (zQi D (zOwn B K0 (B + n0)) r B n' K' I' R') args s 16 400 (zOwn B K0 (B + n0))) (F0 m 70 ls []) := by
  unfold f_L_rules_70 at hf
  refine lv_iconst (v := 0) X.1 X.2.1 dL_rules_70 (by decide) ?_
  exact w_L_rules_71 X hr hlk hf (by (try dsimp only); omega) (by (try dsimp only); omega) hW hl
set_option maxRecDepth 100000 in
set_option maxHeartbeats 4000000 in
theorem c_L_rules (l : Launch) (D : zD) (B n : Nat) {F : Nat} {K : zK} {I : zI} {R : zR} {x0 : Option Nat} {r : Int32} {n' : Nat} {K' : zK} {I' : zI} {R' : zR} (hf : f_L_rules F n K I R x0 = some (r, n', K', I', R')) : zM l yL_rules cL_rules 3 (some .boolean) ({ frames := 83, cells := 16, slots := 400, locals := 4081 } : Room) D B n K I R [zrf B x0] (zQi D (zOwn B K (B + n)) r B n' K' I' R') := by
  refine ze_entry (lv0 := [(0, zrf B x0)]) (by decide) (by simp [lg_sl, zcat, zcat_i, zcat_r, zcat_l]) (by simp [lv_args, zcat, zcat_i, zcat_r, zcat_l]) (fun p e s m below meth c X hr hlk hin hW ls hl => ?_)
  unfold f_L_rules at hf
  have b1 : (0 : Nat) ≤ 0 := Nat.le_refl _
  refine ze_aload_n X.1 X.2.1 dL_rules_0 rfl (lv_at hl 0 rfl) ?_
  refine lv_iconst (v := 0) X.1 X.2.1 dL_rules_1 (by decide) ?_
  refine lv_iconst (v := 1) X.1 X.2.1 dL_rules_2 (by decide) ?_
  refine lv_iconst (v := 0) X.1 X.2.1 dL_rules_3 (by decide) ?_
  refine lv_iconst (v := 1) X.1 X.2.1 dL_rules_4 (by decide) ?_
  refine lv_bipush (v := 6) X.1 X.2.1 dL_rules_5 (by decide) ?_
  refine lv_bipush (v := 7) X.1 X.2.1 dL_rules_7 (by decide) ?_
  obtain ⟨a18, rfl, k20, hg⟩ := zh_dr hf
  replace hf := hg
  obtain ⟨v21, n22, K23, I24, R25, h26, hg⟩ := zh_bd5 hf
  replace hf := hg
  refine ze_aftI (ze_runV (As := [.int (0 : Int32), .int (1 : Int32), .int (0 : Int32), .int (1 : Int32), .int (6 : Int32), .int (7 : Int32)]) (rest := []) X 6 65 (c_X6_learn l D B n h26) vX6_learn kml_L_65 hW k20 rfl rfl ⟨by decide, by decide⟩ rfl hl.1 rfl (Nat.le_of_ble_eq_true rfl) ⟨by show _ + 8 ≤ (16 : Nat); (try dsimp only); omega, by show _ + 200 ≤ (400 : Nat); (try dsimp only); omega⟩ dL_rules_9) hW (fun H locs hV => ?_)
  replace hW := hV
  refine lv_istore_n (i := 1) (lv' := [(1, .int v21), (0, .ref (B + a18))]) X.1 X.2.1 dL_rules_12 rfl hl (by decide) rfl (fun ls hk => ?_)
  replace hl := hk
  refine lv_iload_n X.1 X.2.1 dL_rules_13 rfl (lv_at hl 0 rfl) ?_
  refine lv_iconst (v := 1) X.1 X.2.1 dL_rules_14 (by decide) ?_
  refine lv_icmp_ne (tgt := 70) X.1 X.2.1 dL_rules_15 (by decide) (fun c27 => ?_) (fun c27 => ?_)
  · replace hf := zif_neg c27 hf
    exact w_L_rules_70 X hr hlk hf (by (try dsimp only); omega) (by (try dsimp only); omega) hW (lv_sub hl [1] rfl)
  · replace hf := zif_pos c27 hf
    refine lv_aload_n X.1 X.2.1 dL_rules_18 rfl (lv_at hl 1 rfl) ?_
    refine lv_bipush (v := 6) X.1 X.2.1 dL_rules_19 (by decide) ?_
    refine lv_iconst (v := 0) X.1 X.2.1 dL_rules_21 (by decide) ?_
    obtain ⟨k28, hg⟩ := zh_if hf
    replace hf := hg
    obtain ⟨v29, I30, R31, h32, hg⟩ := zh_bd3 hf
    replace hf := hg
    refine ze_aftI0 (ze_runV (As := [.int (6 : Int32), .int (0 : Int32)]) (rest := []) X 6 43 (c_X6_compare l D B n22 k28 h32) vX6_compare kml_L_43 hW k28 rfl rfl ⟨by decide, by decide⟩ rfl hl.1 rfl (Nat.le_of_ble_eq_true rfl) ⟨by show _ + 0 ≤ (16 : Nat); (try dsimp only); omega, by show _ + 0 ≤ (400 : Nat); (try dsimp only); omega⟩ dL_rules_22) hW (fun H locs hV => ?_)
    replace hW := hV
    refine lv_if_ne (tgt := 70) X.1 X.2.1 dL_rules_25 (by decide) (fun c33 => ?_) (fun c33 => ?_)
    · replace hf := zif_neg c33 hf
      exact w_L_rules_70 X hr hlk hf (by (try dsimp only); omega) (by (try dsimp only); omega) hW (lv_sub hl [1] rfl)
    · replace hf := zif_pos c33 hf
      refine lv_aload_n X.1 X.2.1 dL_rules_28 rfl (lv_at hl 1 rfl) ?_
      refine lv_bipush (v := 7) X.1 X.2.1 dL_rules_29 (by decide) ?_
      refine lv_iconst (v := 1) X.1 X.2.1 dL_rules_31 (by decide) ?_
      obtain ⟨v34, I35, R36, h37, hg⟩ := zh_bd3 hf
      replace hf := hg
      refine ze_aftI0 (ze_runV (As := [.int (7 : Int32), .int (1 : Int32)]) (rest := []) X 6 43 (c_X6_compare l D B n22 k28 h37) vX6_compare kml_L_43 hW k28 rfl rfl ⟨by decide, by decide⟩ rfl hl.1 rfl (Nat.le_of_ble_eq_true rfl) ⟨by show _ + 0 ≤ (16 : Nat); (try dsimp only); omega, by show _ + 0 ≤ (400 : Nat); (try dsimp only); omega⟩ dL_rules_32) hW (fun H locs hV => ?_)
      replace hW := hV
      refine lv_if_ne (tgt := 70) X.1 X.2.1 dL_rules_35 (by decide) (fun c38 => ?_) (fun c38 => ?_)
      · replace hf := zif_neg c38 hf
        exact w_L_rules_70 X hr hlk hf (by (try dsimp only); omega) (by (try dsimp only); omega) hW (lv_sub hl [1] rfl)
      · replace hf := zif_pos c38 hf
        refine lv_aload_n X.1 X.2.1 dL_rules_38 rfl (lv_at hl 1 rfl) ?_
        refine lv_bipush (v := 6) X.1 X.2.1 dL_rules_39 (by decide) ?_
        refine lv_bipush (v := 7) X.1 X.2.1 dL_rules_41 (by decide) ?_
        refine lv_iconst (v := 0) X.1 X.2.1 dL_rules_43 (by decide) ?_
        refine lv_iconst (v := 5) X.1 X.2.1 dL_rules_44 (by decide) ?_
        obtain ⟨v39, n40, K41, I42, R43, h44, hg⟩ := zh_bd5 hf
        replace hf := hg
        refine ze_aftI (ze_runV (As := [.int (6 : Int32), .int (7 : Int32), .int (0 : Int32), .int (5 : Int32)]) (rest := []) X 6 69 (c_X6_apply l D B n22 h44) vX6_apply kml_L_69 hW k28 rfl rfl ⟨by decide, by decide⟩ rfl hl.1 rfl (Nat.le_of_ble_eq_true rfl) ⟨by show _ + 4 ≤ (16 : Nat); (try dsimp only); omega, by show _ + 100 ≤ (400 : Nat); (try dsimp only); omega⟩ dL_rules_45) hW (fun H locs hV => ?_)
        replace hW := hV
        refine lv_aload_n X.1 X.2.1 dL_rules_48 rfl (lv_at hl 1 rfl) ?_
        refine lv_iconst (v := 1) X.1 X.2.1 dL_rules_49 (by decide) ?_
        refine lv_iconst (v := 0) X.1 X.2.1 dL_rules_50 (by decide) ?_
        obtain ⟨k45, hg⟩ := zh_if hf
        replace hf := hg
        obtain ⟨v46, h47, hg⟩ := zh_bd hf
        replace hf := hg
        refine ze_aftI0 (ze_runV (As := [.int (1 : Int32), .int (0 : Int32)]) (rest := [.int v39]) X 6 49 (c_X6_size l D B n40 k45 h47) vX6_size kml_L_49 hW k45 rfl rfl ⟨by decide, by decide⟩ rfl hl.1 rfl (Nat.le_of_ble_eq_true rfl) ⟨by show _ + 0 ≤ (16 : Nat); (try dsimp only); omega, by show _ + 0 ≤ (400 : Nat); (try dsimp only); omega⟩ dL_rules_51) hW (fun H locs hV => ?_)
        replace hW := hV
        refine lv_icmp_ne (tgt := 70) X.1 X.2.1 dL_rules_54 (by decide) (fun c48 => ?_) (fun c48 => ?_)
        · replace hf := zif_neg c48 hf
          exact w_L_rules_70 X hr hlk hf (by (try dsimp only); omega) (by (try dsimp only); omega) hW (lv_sub hl [1] rfl)
        · replace hf := zif_pos c48 hf
          refine lv_aload_n X.1 X.2.1 dL_rules_57 rfl (lv_at hl 1 rfl) ?_
          refine lv_iconst (v := 5) X.1 X.2.1 dL_rules_58 (by decide) ?_
          refine lv_iconst (v := 1) X.1 X.2.1 dL_rules_59 (by decide) ?_
          obtain ⟨v49, I50, R51, h52, hg⟩ := zh_bd3 hf
          replace hf := hg
          refine ze_aftI0 (ze_runV (As := [.int (5 : Int32), .int (1 : Int32)]) (rest := []) X 6 43 (c_X6_compare l D B n40 k45 h52) vX6_compare kml_L_43 hW k45 rfl rfl ⟨by decide, by decide⟩ rfl hl.1 rfl (Nat.le_of_ble_eq_true rfl) ⟨by show _ + 0 ≤ (16 : Nat); (try dsimp only); omega, by show _ + 0 ≤ (400 : Nat); (try dsimp only); omega⟩ dL_rules_60) hW (fun H locs hV => ?_)
          replace hW := hV
          refine lv_if_ne (tgt := 70) X.1 X.2.1 dL_rules_63 (by decide) (fun c53 => ?_) (fun c53 => ?_)
          · replace hf := zif_neg c53 hf
            exact w_L_rules_70 X hr hlk hf (by (try dsimp only); omega) (by (try dsimp only); omega) hW (lv_sub hl [1] rfl)
          · replace hf := zif_pos c53 hf
            refine lv_iconst (v := 1) X.1 X.2.1 dL_rules_66 (by decide) ?_
            refine lv_goto (tgt := 71) X.1 X.2.1 dL_rules_67 (by decide) ?_
            exact w_L_rules_71 X hr hlk hf (by (try dsimp only); omega) (by (try dsimp only); omega) hW (lv_sub hl [1] rfl)
end

/-! LeastPatternsLaw.undoes(LLeastPatterns;)Z -/
def f_L_undoes (F : Nat) (K : zK) (I : zI) (R : zR) (x0 : Option Nat) : Option (Int32 × zI × zR) :=
  zbd (zdr K x0 16) fun a1 =>
  zbd (f_X6_size F K I R a1 (0 : Int32) (0 : Int32)) fun v4 =>
  zbd (f_X6_told F K I R a1 (2 : Int32)) fun v6 =>
  zbd3 (f_X6_empty F K I R a1 (0 : Int32)) fun v8 I9 R10 =>
  if v8 = v4 then
    zbd3 (f_X6_covers F K I9 R10 a1 (0 : Int32) (1 : Int32)) fun v13 I14 R15 =>
    if v13 = (-2 : Int32) then
      zbd3 (f_X6_set F K I14 R15 a1 (2 : Int32) (7 : Int32)) fun v18 I19 R20 =>
      if v18 = v6 then
        zbd3 (f_X6_undo F K I19 R20 a1) fun v23 I24 R25 =>
        if v23 < (0 : Int32) then
          some ((0 : Int32), I24, R25)
        else
          zbd (f_X6_told F K I24 R25 a1 (2 : Int32)) fun v28 =>
          if v28 = v6 then
            zbd3 (f_X6_undo F K I24 R25 a1) fun v31 I32 R33 =>
            if v31 < (0 : Int32) then
              some ((0 : Int32), I32, R33)
            else
              zbd (f_X6_size F K I32 R33 a1 (0 : Int32) (0 : Int32)) fun v36 =>
              if v36 = v4 then
                some ((1 : Int32), I32, R33)
              else
                some ((0 : Int32), I32, R33)
          else
            some ((0 : Int32), I24, R25)
      else
        some ((0 : Int32), I19, R20)
    else
      some ((0 : Int32), I14, R15)
  else
    some ((0 : Int32), I9, R10)
section
variable {p : Program} {l : Launch} {e : Env} {s : State} {m : MethodId} {args : Array Value} {below : List Frame} {meth : Method} {c : Code} {D : zD} {B n n0 n' fd ld : Nat} {K K0 K' : zK} {I I' : zI} {R R' : zR} {H : Heap} {locs : List Loc} {ls : Array Slot} {r : Int32}
set_option maxRecDepth 100000 in
set_option maxHeartbeats 4000000 in
theorem c_L_undoes (l : Launch) (D : zD) (B n : Nat) {F : Nat} {K : zK} {I : zI} {R : zR} {x0 : Option Nat} {r : Int32} {I' : zI} {R' : zR} (hf : f_L_undoes F K I R x0 = some (r, I', R')) : zM l yL_undoes cL_undoes 3 (some .boolean) ({ frames := 7, cells := 0, slots := 0, locals := 183 } : Room) D B n K I R [zrf B x0] (zQi D (zOwn B K (B + n)) r B n K I' R') := by
  refine ze_entry (lv0 := [(0, zrf B x0)]) (by decide) (by simp [lg_sl, zcat, zcat_i, zcat_r, zcat_l]) (by simp [lv_args, zcat, zcat_i, zcat_r, zcat_l]) (fun p e s m below meth c X hr hlk hin hW ls hl => ?_)
  unfold f_L_undoes at hf
  refine ze_aload_n X.1 X.2.1 dL_undoes_0 rfl (lv_at hl 0 rfl) ?_
  refine lv_iconst (v := 0) X.1 X.2.1 dL_undoes_1 (by decide) ?_
  refine lv_iconst (v := 0) X.1 X.2.1 dL_undoes_2 (by decide) ?_
  obtain ⟨a1, rfl, k3, hg⟩ := zh_dr hf
  replace hf := hg
  obtain ⟨v4, h5, hg⟩ := zh_bd hf
  replace hf := hg
  refine ze_aftI0 (ze_runV (As := [.int (0 : Int32), .int (0 : Int32)]) (rest := []) X 6 49 (c_X6_size l D B n k3 h5) vX6_size kml_L_49 hW k3 rfl rfl ⟨by decide, by decide⟩ rfl hl.1 rfl (Nat.le_of_ble_eq_true rfl) ⟨Nat.le_refl _, Nat.le_refl _⟩ dL_undoes_3) hW (fun H locs hV => ?_)
  replace hW := hV
  refine lv_istore_n (i := 1) (lv' := [(1, .int v4), (0, .ref (B + a1))]) X.1 X.2.1 dL_undoes_6 rfl hl (by decide) rfl (fun ls hk => ?_)
  replace hl := hk
  refine lv_aload_n X.1 X.2.1 dL_undoes_7 rfl (lv_at hl 1 rfl) ?_
  refine lv_iconst (v := 2) X.1 X.2.1 dL_undoes_8 (by decide) ?_
  obtain ⟨v6, h7, hg⟩ := zh_bd hf
  replace hf := hg
  refine ze_aftI0 (ze_runV (As := [.int (2 : Int32)]) (rest := []) X 6 72 (c_X6_told l D B n k3 h7) vX6_told kml_L_72 hW k3 rfl rfl ⟨by decide, by decide⟩ rfl hl.1 rfl (Nat.le_of_ble_eq_true rfl) ⟨Nat.le_refl _, Nat.le_refl _⟩ dL_undoes_9) hW (fun H locs hV => ?_)
  replace hW := hV
  refine lv_istore_n (i := 2) (lv' := [(2, .int v6), (1, .int v4), (0, .ref (B + a1))]) X.1 X.2.1 dL_undoes_12 rfl hl (by decide) rfl (fun ls hk => ?_)
  replace hl := hk
  refine lv_aload_n X.1 X.2.1 dL_undoes_13 rfl (lv_at hl 2 rfl) ?_
  refine lv_iconst (v := 0) X.1 X.2.1 dL_undoes_14 (by decide) ?_
  obtain ⟨v8, I9, R10, h11, hg⟩ := zh_bd3 hf
  replace hf := hg
  refine ze_aftI0 (ze_runV (As := [.int (0 : Int32)]) (rest := []) X 6 75 (c_X6_empty l D B n k3 h11) vX6_empty kml_L_75 hW k3 rfl rfl ⟨by decide, by decide⟩ rfl hl.1 rfl (Nat.le_of_ble_eq_true rfl) ⟨Nat.le_refl _, Nat.le_refl _⟩ dL_undoes_15) hW (fun H locs hV => ?_)
  replace hW := hV
  refine lv_iload_n X.1 X.2.1 dL_undoes_18 rfl (lv_at hl 1 rfl) ?_
  refine lv_icmp_ne (tgt := 81) X.1 X.2.1 dL_undoes_19 (by decide) (fun c12 => ?_) (fun c12 => ?_)
  · replace hf := zif_neg c12 hf
    refine lv_iconst (v := 0) X.1 X.2.1 dL_undoes_81 (by decide) ?_
    obtain ⟨rfl, rfl, rfl⟩ := zi3 hf
    exact ze_retZ X hr hlk (by decide) hW (Nat.le_refl _) (Nat.le_refl _) dL_undoes_82
  · replace hf := zif_pos c12 hf
    refine lv_aload_n X.1 X.2.1 dL_undoes_22 rfl (lv_at hl 2 rfl) ?_
    refine lv_iconst (v := 0) X.1 X.2.1 dL_undoes_23 (by decide) ?_
    refine lv_iconst (v := 1) X.1 X.2.1 dL_undoes_24 (by decide) ?_
    obtain ⟨v13, I14, R15, h16, hg⟩ := zh_bd3 hf
    replace hf := hg
    refine ze_aftI0 (ze_runV (As := [.int (0 : Int32), .int (1 : Int32)]) (rest := []) X 6 39 (c_X6_covers l D B n k3 h16) vX6_covers kml_L_39 hW k3 rfl rfl ⟨by decide, by decide⟩ rfl hl.1 rfl (Nat.le_of_ble_eq_true rfl) ⟨Nat.le_refl _, Nat.le_refl _⟩ dL_undoes_25) hW (fun H locs hV => ?_)
    replace hW := hV
    refine lv_bipush (v := -2) X.1 X.2.1 dL_undoes_28 (by decide) ?_
    refine lv_icmp_ne (tgt := 81) X.1 X.2.1 dL_undoes_30 (by decide) (fun c17 => ?_) (fun c17 => ?_)
    · replace hf := zif_neg c17 hf
      refine lv_iconst (v := 0) X.1 X.2.1 dL_undoes_81 (by decide) ?_
      obtain ⟨rfl, rfl, rfl⟩ := zi3 hf
      exact ze_retZ X hr hlk (by decide) hW (Nat.le_refl _) (Nat.le_refl _) dL_undoes_82
    · replace hf := zif_pos c17 hf
      refine lv_aload_n X.1 X.2.1 dL_undoes_33 rfl (lv_at hl 2 rfl) ?_
      refine lv_iconst (v := 2) X.1 X.2.1 dL_undoes_34 (by decide) ?_
      refine lv_bipush (v := 7) X.1 X.2.1 dL_undoes_35 (by decide) ?_
      obtain ⟨v18, I19, R20, h21, hg⟩ := zh_bd3 hf
      replace hf := hg
      refine ze_aftI0 (ze_runV (As := [.int (2 : Int32), .int (7 : Int32)]) (rest := []) X 6 78 (c_X6_set l D B n k3 h21) vX6_set kml_L_78 hW k3 rfl rfl ⟨by decide, by decide⟩ rfl hl.1 rfl (Nat.le_of_ble_eq_true rfl) ⟨Nat.le_refl _, Nat.le_refl _⟩ dL_undoes_37) hW (fun H locs hV => ?_)
      replace hW := hV
      refine lv_iload_n X.1 X.2.1 dL_undoes_40 rfl (lv_at hl 0 rfl) ?_
      refine lv_icmp_ne (tgt := 81) X.1 X.2.1 dL_undoes_41 (by decide) (fun c22 => ?_) (fun c22 => ?_)
      · replace hf := zif_neg c22 hf
        refine lv_iconst (v := 0) X.1 X.2.1 dL_undoes_81 (by decide) ?_
        obtain ⟨rfl, rfl, rfl⟩ := zi3 hf
        exact ze_retZ X hr hlk (by decide) hW (Nat.le_refl _) (Nat.le_refl _) dL_undoes_82
      · replace hf := zif_pos c22 hf
        refine lv_aload_n X.1 X.2.1 dL_undoes_44 rfl (lv_at hl 2 rfl) ?_
        obtain ⟨v23, I24, R25, h26, hg⟩ := zh_bd3 hf
        replace hf := hg
        refine ze_aftI0 (ze_runV (As := []) (rest := []) X 6 81 (c_X6_undo l D B n k3 h26) vX6_undo kml_L_81 hW k3 rfl rfl ⟨by decide, by decide⟩ rfl hl.1 rfl (Nat.le_of_ble_eq_true rfl) ⟨Nat.le_refl _, Nat.le_refl _⟩ dL_undoes_45) hW (fun H locs hV => ?_)
        replace hW := hV
        refine lv_if_lt (tgt := 81) X.1 X.2.1 dL_undoes_48 (by decide) (fun c27 => ?_) (fun c27 => ?_)
        · replace hf := zif_pos c27 hf
          refine lv_iconst (v := 0) X.1 X.2.1 dL_undoes_81 (by decide) ?_
          obtain ⟨rfl, rfl, rfl⟩ := zi3 hf
          exact ze_retZ X hr hlk (by decide) hW (Nat.le_refl _) (Nat.le_refl _) dL_undoes_82
        · replace hf := zif_neg c27 hf
          refine lv_aload_n X.1 X.2.1 dL_undoes_51 rfl (lv_at hl 2 rfl) ?_
          refine lv_iconst (v := 2) X.1 X.2.1 dL_undoes_52 (by decide) ?_
          obtain ⟨v28, h29, hg⟩ := zh_bd hf
          replace hf := hg
          refine ze_aftI0 (ze_runV (As := [.int (2 : Int32)]) (rest := []) X 6 72 (c_X6_told l D B n k3 h29) vX6_told kml_L_72 hW k3 rfl rfl ⟨by decide, by decide⟩ rfl hl.1 rfl (Nat.le_of_ble_eq_true rfl) ⟨Nat.le_refl _, Nat.le_refl _⟩ dL_undoes_53) hW (fun H locs hV => ?_)
          replace hW := hV
          refine lv_iload_n X.1 X.2.1 dL_undoes_56 rfl (lv_at hl 0 rfl) ?_
          refine lv_icmp_ne (tgt := 81) X.1 X.2.1 dL_undoes_57 (by decide) (fun c30 => ?_) (fun c30 => ?_)
          · replace hf := zif_neg c30 hf
            refine lv_iconst (v := 0) X.1 X.2.1 dL_undoes_81 (by decide) ?_
            obtain ⟨rfl, rfl, rfl⟩ := zi3 hf
            exact ze_retZ X hr hlk (by decide) hW (Nat.le_refl _) (Nat.le_refl _) dL_undoes_82
          · replace hf := zif_pos c30 hf
            refine lv_aload_n X.1 X.2.1 dL_undoes_60 rfl (lv_at hl 2 rfl) ?_
            obtain ⟨v31, I32, R33, h34, hg⟩ := zh_bd3 hf
            replace hf := hg
            refine ze_aftI0 (ze_runV (As := []) (rest := []) X 6 81 (c_X6_undo l D B n k3 h34) vX6_undo kml_L_81 hW k3 rfl rfl ⟨by decide, by decide⟩ rfl hl.1 rfl (Nat.le_of_ble_eq_true rfl) ⟨Nat.le_refl _, Nat.le_refl _⟩ dL_undoes_61) hW (fun H locs hV => ?_)
            replace hW := hV
            refine lv_if_lt (tgt := 81) X.1 X.2.1 dL_undoes_64 (by decide) (fun c35 => ?_) (fun c35 => ?_)
            · replace hf := zif_pos c35 hf
              refine lv_iconst (v := 0) X.1 X.2.1 dL_undoes_81 (by decide) ?_
              obtain ⟨rfl, rfl, rfl⟩ := zi3 hf
              exact ze_retZ X hr hlk (by decide) hW (Nat.le_refl _) (Nat.le_refl _) dL_undoes_82
            · replace hf := zif_neg c35 hf
              refine lv_aload_n X.1 X.2.1 dL_undoes_67 rfl (lv_at hl 2 rfl) ?_
              refine lv_iconst (v := 0) X.1 X.2.1 dL_undoes_68 (by decide) ?_
              refine lv_iconst (v := 0) X.1 X.2.1 dL_undoes_69 (by decide) ?_
              obtain ⟨v36, h37, hg⟩ := zh_bd hf
              replace hf := hg
              refine ze_aftI0 (ze_runV (As := [.int (0 : Int32), .int (0 : Int32)]) (rest := []) X 6 49 (c_X6_size l D B n k3 h37) vX6_size kml_L_49 hW k3 rfl rfl ⟨by decide, by decide⟩ rfl hl.1 rfl (Nat.le_of_ble_eq_true rfl) ⟨Nat.le_refl _, Nat.le_refl _⟩ dL_undoes_70) hW (fun H locs hV => ?_)
              replace hW := hV
              refine lv_iload_n X.1 X.2.1 dL_undoes_73 rfl (lv_at hl 1 rfl) ?_
              refine lv_icmp_ne (tgt := 81) X.1 X.2.1 dL_undoes_74 (by decide) (fun c38 => ?_) (fun c38 => ?_)
              · replace hf := zif_neg c38 hf
                refine lv_iconst (v := 0) X.1 X.2.1 dL_undoes_81 (by decide) ?_
                obtain ⟨rfl, rfl, rfl⟩ := zi3 hf
                exact ze_retZ X hr hlk (by decide) hW (Nat.le_refl _) (Nat.le_refl _) dL_undoes_82
              · replace hf := zif_pos c38 hf
                refine lv_iconst (v := 1) X.1 X.2.1 dL_undoes_77 (by decide) ?_
                refine lv_goto (tgt := 82) X.1 X.2.1 dL_undoes_78 (by decide) ?_
                obtain ⟨rfl, rfl, rfl⟩ := zi3 hf
                exact ze_retZ X hr hlk (by decide) hW (Nat.le_refl _) (Nat.le_refl _) dL_undoes_82
end
