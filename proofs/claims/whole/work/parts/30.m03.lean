/-! LeastPatternsModel.lays(IIZ)V -/
def f_X7_lays_505 (F : Nat) (K : zK) (R : zR) (a0 : Nat) (k10 : zI → Int32 → Int32 → Int32 → Option (zI)) (I : zI) (x2 : Int32) (x3 : Int32) (x4 : Int32) (s0 : Option Nat) (s1 : Int32) (s2 : Int32) : Option (zI) :=
  zbd (zdr K s0 2) fun a1 =>
  zbd (zwrZ K I a1 s1 s2) fun I4 =>
  k10 I4 x2 x3 (x4 + (1 : Int32))
def f_X7_lays_504 (F : Nat) (K : zK) (R : zR) (a0 : Nat) (k10 : zI → Int32 → Int32 → Int32 → Option (zI)) (I : zI) (x2 : Int32) (x3 : Int32) (x4 : Int32) (s0 : Option Nat) (s1 : Int32) : Option (zI) :=
  f_X7_lays_505 F K R a0 k10 I x2 x3 x4 s0 s1 (0 : Int32)
def f_X7_lays_500 (F : Nat) (K : zK) (R : zR) (a0 : Nat) (k10 : zI → Int32 → Int32 → Int32 → Option (zI)) (I : zI) (x2 : Int32) (x3 : Int32) (x4 : Int32) (s0 : Option Nat) (s1 : Int32) : Option (zI) :=
  f_X7_lays_505 F K R a0 k10 I x2 x3 x4 s0 s1 (1 : Int32)
def f_X7_lays_453 (F : Nat) (K : zK) (R : zR) (a0 : Nat) (k10 : zI → Int32 → Int32 → Int32 → Option (zI)) (I : zI) (x2 : Int32) (x3 : Int32) (x4 : Int32) (x10 : Int32) (s0 : Option Nat) (s1 : Int32) (s2 : Int32) : Option (zI) :=
  zbd (zdr K s0 2) fun a5 =>
  zbd (zwrZ K I a5 s1 s2) fun I8 =>
  zbd (some (R a0 38)) fun o9 =>
  if x10 = (0 : Int32) then
    f_X7_lays_504 F K R a0 k10 I8 x2 x3 x4 o9 x4
  else
    zbd (some (R a0 31)) fun o11 =>
    zbd (zdr K o11 1) fun a12 =>
    zbd (zrd K I8 a12 x4) fun v15 =>
    if v15 ≤ (0 : Int32) then
      f_X7_lays_504 F K R a0 k10 I8 x2 x3 x4 o9 x4
    else
      zbd (f_X7_lastSort F K I8 R a0 x2 x4) fun v17 =>
      if v17 = (3 : Int32) then
        f_X7_lays_504 F K R a0 k10 I8 x2 x3 x4 o9 x4
      else
        if x3 = (0 : Int32) then
          zbd (some (R a0 38)) fun o21 =>
          zbd (zdr K o21 2) fun a22 =>
          zbd (zrd K I8 a22 x4) fun v25 =>
          if v25 = (0 : Int32) then
            f_X7_lays_504 F K R a0 k10 I8 x2 x3 x4 o9 x4
          else
            f_X7_lays_500 F K R a0 k10 I8 x2 x3 x4 o9 x4
        else
          f_X7_lays_500 F K R a0 k10 I8 x2 x3 x4 o9 x4
def f_X7_lays_452 (F : Nat) (K : zK) (R : zR) (a0 : Nat) (k10 : zI → Int32 → Int32 → Int32 → Option (zI)) (I : zI) (x2 : Int32) (x3 : Int32) (x4 : Int32) (x10 : Int32) (s0 : Option Nat) (s1 : Int32) : Option (zI) :=
  f_X7_lays_453 F K R a0 k10 I x2 x3 x4 x10 s0 s1 (0 : Int32)
def f_X7_lays_448 (F : Nat) (K : zK) (R : zR) (a0 : Nat) (k10 : zI → Int32 → Int32 → Int32 → Option (zI)) (I : zI) (x2 : Int32) (x3 : Int32) (x4 : Int32) (x10 : Int32) (s0 : Option Nat) (s1 : Int32) : Option (zI) :=
  f_X7_lays_453 F K R a0 k10 I x2 x3 x4 x10 s0 s1 (1 : Int32)
def f_X7_lays_396 (F : Nat) (K : zK) (R : zR) (a0 : Nat) (k10 : zI → Int32 → Int32 → Int32 → Option (zI)) (I : zI) (x2 : Int32) (x3 : Int32) (x4 : Int32) (x10 : Int32) (s0 : Option Nat) (s1 : Int32) (s2 : Int32) : Option (zI) :=
  zbd (zdr K s0 2) fun a27 =>
  zbd (zwrZ K I a27 s1 s2) fun I30 =>
  zbd (some (R a0 37)) fun o31 =>
  if x10 = (0 : Int32) then
    f_X7_lays_452 F K R a0 k10 I30 x2 x3 x4 x10 o31 x4
  else
    zbd (some (R a0 31)) fun o33 =>
    zbd (zdr K o33 1) fun a34 =>
    zbd (zrd K I30 a34 x4) fun v37 =>
    if v37 ≤ (0 : Int32) then
      f_X7_lays_452 F K R a0 k10 I30 x2 x3 x4 x10 o31 x4
    else
      zbd (some (R a0 30)) fun o39 =>
      zbd (zdr K o39 1) fun a40 =>
      zbd (zrd K I30 a40 x4) fun v43 =>
      zbd (f_X7_sort F K I30 R a0 x2 v43) fun v44 =>
      if v44 = (3 : Int32) then
        f_X7_lays_452 F K R a0 k10 I30 x2 x3 x4 x10 o31 x4
      else
        if x3 = (0 : Int32) then
          zbd (some (R a0 37)) fun o48 =>
          zbd (zdr K o48 2) fun a49 =>
          zbd (zrd K I30 a49 x4) fun v52 =>
          if v52 = (0 : Int32) then
            f_X7_lays_452 F K R a0 k10 I30 x2 x3 x4 x10 o31 x4
          else
            f_X7_lays_448 F K R a0 k10 I30 x2 x3 x4 x10 o31 x4
        else
          f_X7_lays_448 F K R a0 k10 I30 x2 x3 x4 x10 o31 x4
def f_X7_lays_395 (F : Nat) (K : zK) (R : zR) (a0 : Nat) (k10 : zI → Int32 → Int32 → Int32 → Option (zI)) (I : zI) (x2 : Int32) (x3 : Int32) (x4 : Int32) (x10 : Int32) (s0 : Option Nat) (s1 : Int32) : Option (zI) :=
  f_X7_lays_396 F K R a0 k10 I x2 x3 x4 x10 s0 s1 (0 : Int32)
def f_X7_lays_391 (F : Nat) (K : zK) (R : zR) (a0 : Nat) (k10 : zI → Int32 → Int32 → Int32 → Option (zI)) (I : zI) (x2 : Int32) (x3 : Int32) (x4 : Int32) (x10 : Int32) (s0 : Option Nat) (s1 : Int32) : Option (zI) :=
  f_X7_lays_396 F K R a0 k10 I x2 x3 x4 x10 s0 s1 (1 : Int32)
def f_X7_lays_354 (F : Nat) (K : zK) (R : zR) (a0 : Nat) (k10 : zI → Int32 → Int32 → Int32 → Option (zI)) (I : zI) (x2 : Int32) (x3 : Int32) (x4 : Int32) (s0 : Int32) : Option (zI) :=
  zbd (some (R a0 36)) fun o54 =>
  if s0 = (0 : Int32) then
    f_X7_lays_395 F K R a0 k10 I x2 x3 x4 s0 o54 x4
  else
    zbd (some (R a0 31)) fun o56 =>
    zbd (zdr K o56 1) fun a57 =>
    zbd (zrd K I a57 x4) fun v60 =>
    if v60 = (0 : Int32) then
      if x3 = (0 : Int32) then
        zbd (some (R a0 36)) fun o63 =>
        zbd (zdr K o63 2) fun a64 =>
        zbd (zrd K I a64 x4) fun v67 =>
        if v67 = (0 : Int32) then
          f_X7_lays_395 F K R a0 k10 I x2 x3 x4 s0 o54 x4
        else
          f_X7_lays_391 F K R a0 k10 I x2 x3 x4 s0 o54 x4
      else
        f_X7_lays_391 F K R a0 k10 I x2 x3 x4 s0 o54 x4
    else
      f_X7_lays_395 F K R a0 k10 I x2 x3 x4 s0 o54 x4
def f_X7_lays_333 (F : Nat) (K : zK) (R : zR) (a0 : Nat) (k10 : zI → Int32 → Int32 → Int32 → Option (zI)) (I : zI) (x2 : Int32) (x3 : Int32) (x4 : Int32) (x5 : Int32) (x7 : Int32) (s0 : Option Nat) (s1 : Int32) (s2 : Int32) : Option (zI) :=
  zbd (zdr K s0 1) fun a69 =>
  zbd (zwr K I a69 s1 s2) fun I72 =>
  zbd (some (R a0 35)) fun o73 =>
  zbd (zdr K o73 1) fun a74 =>
  zbd (zwr K I72 a74 x4 x7) fun I77 =>
  if x5 = (3 : Int32) then
    f_X7_lays_354 F K R a0 k10 I77 x2 x3 x4 (1 : Int32)
  else
    f_X7_lays_354 F K R a0 k10 I77 x2 x3 x4 (0 : Int32)
def f_X7_lays_313 (F : Nat) (K : zK) (R : zR) (a0 : Nat) (k10 : zI → Int32 → Int32 → Int32 → Option (zI)) (I : zI) (x2 : Int32) (x3 : Int32) (x4 : Int32) (x5 : Int32) (x7 : Int32) (x8 : Int32) (s0 : Int32) : Option (zI) :=
  zbd (some (R a0 34)) fun o79 =>
  if s0 = (0 : Int32) then
    f_X7_lays_333 F K R a0 k10 I x2 x3 x4 x5 x7 o79 x4 (-9 : Int32)
  else
    f_X7_lays_333 F K R a0 k10 I x2 x3 x4 x5 x7 o79 x4 x8
def f_X7_lays_312 (F : Nat) (K : zK) (R : zR) (a0 : Nat) (k10 : zI → Int32 → Int32 → Int32 → Option (zI)) (I : zI) (x2 : Int32) (x3 : Int32) (x4 : Int32) (x5 : Int32) (x7 : Int32) (x8 : Int32) : Option (zI) :=
  f_X7_lays_313 F K R a0 k10 I x2 x3 x4 x5 x7 x8 (0 : Int32)
def f_X7_lays_308 (F : Nat) (K : zK) (R : zR) (a0 : Nat) (k10 : zI → Int32 → Int32 → Int32 → Option (zI)) (I : zI) (x2 : Int32) (x3 : Int32) (x4 : Int32) (x5 : Int32) (x7 : Int32) (x8 : Int32) : Option (zI) :=
  f_X7_lays_313 F K R a0 k10 I x2 x3 x4 x5 x7 x8 (1 : Int32)
def f_X7_lays_278 (F : Nat) (K : zK) (R : zR) (a0 : Nat) (k10 : zI → Int32 → Int32 → Int32 → Option (zI)) (I : zI) (x2 : Int32) (x3 : Int32) (x4 : Int32) (x5 : Int32) (x7 : Int32) (s0 : Int32) : Option (zI) :=
  if x3 = (0 : Int32) then
    zbd (some (R a0 34)) fun o82 =>
    zbd (zdr K o82 1) fun a83 =>
    zbd (zrd K I a83 x4) fun v86 =>
    if v86 = s0 then
      zbd (some (R a0 35)) fun o88 =>
      zbd (zdr K o88 1) fun a89 =>
      zbd (zrd K I a89 x4) fun v92 =>
      if v92 = x7 then
        f_X7_lays_308 F K R a0 k10 I x2 x3 x4 x5 x7 s0
      else
        f_X7_lays_312 F K R a0 k10 I x2 x3 x4 x5 x7 s0
    else
      f_X7_lays_312 F K R a0 k10 I x2 x3 x4 x5 x7 s0
  else
    f_X7_lays_308 F K R a0 k10 I x2 x3 x4 x5 x7 s0
def f_X7_lays_254 (F : Nat) (K : zK) (R : zR) (a0 : Nat) (k10 : zI → Int32 → Int32 → Int32 → Option (zI)) (I : zI) (x2 : Int32) (x3 : Int32) (x4 : Int32) (x5 : Int32) (x6 : Int32) (s0 : Int32) : Option (zI) :=
  if x6 = (0 : Int32) then
    f_X7_lays_278 F K R a0 k10 I x2 x3 x4 x5 s0 (-9 : Int32)
  else
    zbd (some (R a0 30)) fun o95 =>
    zbd (zdr K o95 1) fun a96 =>
    zbd (zrd K I a96 x4) fun v99 =>
    zbd (f_X7_number F K I R a0 x2 v99) fun v100 =>
    f_X7_lays_278 F K R a0 k10 I x2 x3 x4 x5 s0 v100
def f_X7_lays_238 (F : Nat) (K : zK) (R : zR) (a0 : Nat) (k10 : zI → Int32 → Int32 → Int32 → Option (zI)) (I : zI) (x2 : Int32) (x3 : Int32) (x4 : Int32) (x5 : Int32) (x6 : Int32) : Option (zI) :=
  f_X7_lays_254 F K R a0 k10 I x2 x3 x4 x5 x6 (0 : Int32)
def f_X7_lays_225 (F : Nat) (K : zK) (R : zR) (a0 : Nat) (k10 : zI → Int32 → Int32 → Int32 → Option (zI)) (I : zI) (x2 : Int32) (x3 : Int32) (x4 : Int32) (x5 : Int32) (s0 : Int32) : Option (zI) :=
  if s0 = (0 : Int32) then
    f_X7_lays_238 F K R a0 k10 I x2 x3 x4 x5 s0
  else
    if x5 = (2 : Int32) then
      f_X7_lays_238 F K R a0 k10 I x2 x3 x4 x5 s0
    else
      zbd (some (R a0 30)) fun o104 =>
      zbd (zdr K o104 1) fun a105 =>
      zbd (zrd K I a105 x4) fun v108 =>
      zbd (f_X7_arguments F K I R a0 x2 v108) fun v109 =>
      f_X7_lays_254 F K R a0 k10 I x2 x3 x4 x5 s0 v109
def f_X7_lays_224 (F : Nat) (K : zK) (R : zR) (a0 : Nat) (k10 : zI → Int32 → Int32 → Int32 → Option (zI)) (I : zI) (x2 : Int32) (x3 : Int32) (x4 : Int32) (x5 : Int32) : Option (zI) :=
  f_X7_lays_225 F K R a0 k10 I x2 x3 x4 x5 (0 : Int32)
def f_X7_lays_220 (F : Nat) (K : zK) (R : zR) (a0 : Nat) (k10 : zI → Int32 → Int32 → Int32 → Option (zI)) (I : zI) (x2 : Int32) (x3 : Int32) (x4 : Int32) (x5 : Int32) : Option (zI) :=
  f_X7_lays_225 F K R a0 k10 I x2 x3 x4 x5 (1 : Int32)
def f_X7_lays_199 (F : Nat) (K : zK) (R : zR) (a0 : Nat) (k10 : zI → Int32 → Int32 → Int32 → Option (zI)) (I : zI) (x2 : Int32) (x3 : Int32) (x4 : Int32) (x5 : Int32) : Option (zI) :=
  if x5 = (2 : Int32) then
    zbd (some (R a0 30)) fun o112 =>
    zbd (zdr K o112 1) fun a113 =>
    zbd (zrd K I a113 x4) fun v116 =>
    zbd (f_X7_sort F K I R a0 x2 v116) fun v117 =>
    if v117 = (0 : Int32) then
      f_X7_lays_220 F K R a0 k10 I x2 x3 x4 x5
    else
      f_X7_lays_224 F K R a0 k10 I x2 x3 x4 x5
  else
    f_X7_lays_224 F K R a0 k10 I x2 x3 x4 x5
def f_X7_lays_150 (F : Nat) (K : zK) (R : zR) (a0 : Nat) (k10 : zI → Int32 → Int32 → Int32 → Option (zI)) (k44 : zI → Int32 → Int32 → Int32 → Int32 → Int32 → Option (zI)) (I : zI) (x2 : Int32) (x3 : Int32) (x4 : Int32) (x5 : Int32) (x6 : Int32) (s0 : Option Nat) (s1 : Int32) (s2 : Int32) : Option (zI) :=
  zbd (zdr K s0 2) fun a120 =>
  zbd (zwrZ K I a120 s1 s2) fun I123 =>
  k44 I123 x2 x3 x4 x5 (x6 + (1 : Int32))
def f_X7_lays_149 (F : Nat) (K : zK) (R : zR) (a0 : Nat) (k10 : zI → Int32 → Int32 → Int32 → Option (zI)) (k44 : zI → Int32 → Int32 → Int32 → Int32 → Int32 → Option (zI)) (I : zI) (x2 : Int32) (x3 : Int32) (x4 : Int32) (x5 : Int32) (x6 : Int32) (s0 : Option Nat) (s1 : Int32) : Option (zI) :=
  f_X7_lays_150 F K R a0 k10 k44 I x2 x3 x4 x5 x6 s0 s1 (0 : Int32)
def f_X7_lays_145 (F : Nat) (K : zK) (R : zR) (a0 : Nat) (k10 : zI → Int32 → Int32 → Int32 → Option (zI)) (k44 : zI → Int32 → Int32 → Int32 → Int32 → Int32 → Option (zI)) (I : zI) (x2 : Int32) (x3 : Int32) (x4 : Int32) (x5 : Int32) (x6 : Int32) (s0 : Option Nat) (s1 : Int32) : Option (zI) :=
  f_X7_lays_150 F K R a0 k10 k44 I x2 x3 x4 x5 x6 s0 s1 (1 : Int32)
def f_X7_lays_106 (F : Nat) (K : zK) (R : zR) (a0 : Nat) (k10 : zI → Int32 → Int32 → Int32 → Option (zI)) (k44 : zI → Int32 → Int32 → Int32 → Int32 → Int32 → Option (zI)) (I : zI) (x2 : Int32) (x3 : Int32) (x4 : Int32) (x5 : Int32) (x6 : Int32) (s0 : Int32) : Option (zI) :=
  zbd (some (R a0 33)) fun o124 =>
  if s0 = (0 : Int32) then
    f_X7_lays_149 F K R a0 k10 k44 I x2 x3 x4 x5 x6 o124 (((10 : Int32) * x4) + x6)
  else
    if x3 = (0 : Int32) then
      zbd (some (R a0 33)) fun o127 =>
      zbd (zdr K o127 2) fun a128 =>
      zbd (zrd K I a128 (((10 : Int32) * x4) + x6)) fun v131 =>
      if v131 = (0 : Int32) then
        f_X7_lays_149 F K R a0 k10 k44 I x2 x3 x4 x5 x6 o124 (((10 : Int32) * x4) + x6)
      else
        f_X7_lays_145 F K R a0 k10 k44 I x2 x3 x4 x5 x6 o124 (((10 : Int32) * x4) + x6)
    else
      f_X7_lays_145 F K R a0 k10 k44 I x2 x3 x4 x5 x6 o124 (((10 : Int32) * x4) + x6)
def f_X7_lays_105 (F : Nat) (K : zK) (R : zR) (a0 : Nat) (k10 : zI → Int32 → Int32 → Int32 → Option (zI)) (k44 : zI → Int32 → Int32 → Int32 → Int32 → Int32 → Option (zI)) (I : zI) (x2 : Int32) (x3 : Int32) (x4 : Int32) (x5 : Int32) (x6 : Int32) : Option (zI) :=
  f_X7_lays_106 F K R a0 k10 k44 I x2 x3 x4 x5 x6 (0 : Int32)
def g_X7_lays_44 (F : Nat) (K : zK) (R : zR) (a0 : Nat) (k10 : zI → Int32 → Int32 → Int32 → Option (zI)) (kself : zI → Int32 → Int32 → Int32 → Int32 → Int32 → Option (zI)) (I : zI) (x2 : Int32) (x3 : Int32) (x4 : Int32) (x5 : Int32) (x6 : Int32) : Option (zI) :=
  if (10 : Int32) ≤ x6 then
    if x5 = (1 : Int32) then
      zbd (some (R a0 30)) fun o135 =>
      zbd (zdr K o135 1) fun a136 =>
      zbd (zrd K I a136 x4) fun v139 =>
      zbd (f_X7_sort F K I R a0 x2 v139) fun v140 =>
      if v140 = (0 : Int32) then
        zbd (some (R a0 30)) fun o143 =>
        zbd (zdr K o143 1) fun a144 =>
        zbd (zrd K I a144 x4) fun v147 =>
        zbd (some (R a0 6)) fun o148 =>
        zbd (f_X7_sequenceOf F K I R a0 x2 v147 o148) fun v149 =>
        if v149 = (-9 : Int32) then
          f_X7_lays_220 F K R a0 k10 I x2 x3 x4 x5
        else
          f_X7_lays_199 F K R a0 k10 I x2 x3 x4 x5
      else
        f_X7_lays_199 F K R a0 k10 I x2 x3 x4 x5
    else
      f_X7_lays_199 F K R a0 k10 I x2 x3 x4 x5
  else
    if x6 = x4 then
      f_X7_lays_105 F K R a0 k10 kself I x2 x3 x4 x5 x6
    else
      if x5 = (-9 : Int32) then
        f_X7_lays_105 F K R a0 k10 kself I x2 x3 x4 x5 x6
      else
        zbd (some (R a0 31)) fun o154 =>
        zbd (zdr K o154 1) fun a155 =>
        zbd (zrd K I a155 x6) fun v158 =>
        if v158 < (0 : Int32) then
          f_X7_lays_105 F K R a0 k10 kself I x2 x3 x4 x5 x6
        else
          zbd (some (R a0 17)) fun o160 =>
          zbd (zdr K o160 1) fun a161 =>
          zbd (zrd K I a161 x6) fun v164 =>
          if v164 = x5 then
            zbd (f_X7_isLike F K I R a0 x2 x4 x6 x5) fun v166 =>
            if v166 = (0 : Int32) then
              f_X7_lays_105 F K R a0 k10 kself I x2 x3 x4 x5 x6
            else
              f_X7_lays_106 F K R a0 k10 kself I x2 x3 x4 x5 x6 (1 : Int32)
          else
            f_X7_lays_105 F K R a0 k10 kself I x2 x3 x4 x5 x6
def f_X7_lays_44 (F : Nat) (K : zK) (R : zR) (a0 : Nat) (k10 : zI → Int32 → Int32 → Int32 → Option (zI)) : Nat → zI → Int32 → Int32 → Int32 → Int32 → Int32 → Option (zI)
  | 0, _, _, _, _, _, _ => none
  | t + 1, I, x2, x3, x4, x5, x6 => g_X7_lays_44 F K R a0 k10 (f_X7_lays_44 F K R a0 k10 t) I x2 x3 x4 x5 x6
def f_X7_lays_39 (F : Nat) (K : zK) (R : zR) (a0 : Nat) (k10 : zI → Int32 → Int32 → Int32 → Option (zI)) (I : zI) (x2 : Int32) (x3 : Int32) (x4 : Int32) (s0 : Int32) : Option (zI) :=
  f_X7_lays_44 F K R a0 k10 F I x2 x3 x4 s0 (0 : Int32)
def g_X7_lays_10 (F : Nat) (K : zK) (R : zR) (a0 : Nat)  (kself : zI → Int32 → Int32 → Int32 → Option (zI)) (I : zI) (x2 : Int32) (x3 : Int32) (x4 : Int32) : Option (zI) :=
  if (10 : Int32) ≤ x4 then
    some I
  else
    zbd (some (R a0 31)) fun o170 =>
    zbd (zdr K o170 1) fun a171 =>
    zbd (zrd K I a171 x4) fun v174 =>
    if (0 : Int32) ≤ v174 then
      zbd (some (R a0 17)) fun o176 =>
      zbd (zdr K o176 1) fun a177 =>
      zbd (zrd K I a177 x4) fun v180 =>
      f_X7_lays_39 F K R a0 kself I x2 x3 x4 v180
    else
      f_X7_lays_39 F K R a0 kself I x2 x3 x4 (-9 : Int32)
def f_X7_lays_10 (F : Nat) (K : zK) (R : zR) (a0 : Nat)  : Nat → zI → Int32 → Int32 → Int32 → Option (zI)
  | 0, _, _, _, _ => none
  | t + 1, I, x2, x3, x4 => g_X7_lays_10 F K R a0  (f_X7_lays_10 F K R a0  t) I x2 x3 x4
def f_X7_lays (F : Nat) (K : zK) (I : zI) (R : zR) (a0 : Nat) (x1 : Int32) (x2 : Int32) (x3 : Int32) : Option (zI) :=
  zbd2 (f_X7_matches F K I R a0 x1 x2) fun v181 I182 =>
  f_X7_lays_10 F K R a0 F I182 x2 x3 (0 : Int32)
section
variable {p : Program} {l : Launch} {e : Env} {s : State} {m : MethodId} {args : Array Value} {below : List Frame} {meth : Method} {c : Code} {D : zD} {B n n0 n' fd ld : Nat} {K K0 K' : zK} {I I' : zI} {R R' : zR} {H : Heap} {locs : List Loc} {ls : Array Slot} {r : Int32}
set_option maxRecDepth 100000 in
set_option maxHeartbeats 4000000 in
theorem w_X7_lays_505 {F : Nat} {a0 : Nat} {k10 : zI → Int32 → Int32 → Int32 → Option (zI)} (X : zX p s m c cX7_lays 11 RX7 D) (hr : meth.sig.returnType = none) (hlk : meth.locks = false) (hK0 : (K a0).1 = 17) (hk10 : ∀ (I : zI) (x2 : Int32) (x3 : Int32) (x4 : Int32) (H : Heap) (locs : List Loc) (ls : Array Slot), k10 I x2 x3 x4 = some I' → zS (zOwn B K (B + n)) D B n K I R s.heap H locs → lv_has ls 11 [(0, .ref (B + a0)), (2, .int x2), (3, .int x3), (4, .int x4)] → W p l e ({ frames := 6, cells := 0, slots := 0, locals := 167 } : Room) s m args below meth c H locs 0 0 (MQ below (zQv D (zOwn B K (B + n)) B n K I' R) args s 0 0 (zOwn B K (B + n))) (F0 m 10 ls [])) {x2 : Int32} {x3 : Int32} {x4 : Int32} {s0 : Option Nat} {s1 : Int32} {s2 : Int32} (hf : f_X7_lays_505 F K R a0 k10 I x2 x3 x4 s0 s1 s2 = some I') (hW : zS (zOwn B K (B + n)) D B n K I R s.heap H locs) (hl : lv_has ls 11 [(0, .ref (B + a0)), (2, .int x2), (3, .int x3), (4, .int x4)]) : W p l e ({ frames := 6, cells := 0, slots := 0, locals := 167 } : Room) s m args below meth c H locs 0 0 (MQ below (zQv D (zOwn B K (B + n)) B n K I' R) args s 0 0 (zOwn B K (B + n))) (F0 m 505 ls [.int s2, .int s1, zrf B s0]) := by
  unfold f_X7_lays_505 at hf
  obtain ⟨a1, rfl, k3, hg⟩ := zh_dr hf
  replace hf := hg
  refine ze_zast X hf hW k3 dX7_lays_505 (fun I4 H locs hg hV => ?_)
  replace hf := hg
  replace hW := hV
  refine ze_iinc (lv' := [(4, .int (x4 + (1 : Int32))), (0, .ref (B + a0)), (2, .int x2), (3, .int x3)]) (d := 1) X.1 X.2.1 dX7_lays_506 hl (k := 3) rfl (by decide) (by decide) rfl (fun ls hk => ?_)
  replace hl := hk
  refine lv_goto (tgt := 10) X.1 X.2.1 dX7_lays_509 (by decide) ?_
  exact hk10 _ _ _ _ _ _ _ hf hW (lv_sub hl [1, 2, 3, 0] rfl)
set_option maxRecDepth 100000 in
set_option maxHeartbeats 4000000 in
theorem w_X7_lays_504 {F : Nat} {a0 : Nat} {k10 : zI → Int32 → Int32 → Int32 → Option (zI)} (X : zX p s m c cX7_lays 11 RX7 D) (hr : meth.sig.returnType = none) (hlk : meth.locks = false) (hK0 : (K a0).1 = 17) (hk10 : ∀ (I : zI) (x2 : Int32) (x3 : Int32) (x4 : Int32) (H : Heap) (locs : List Loc) (ls : Array Slot), k10 I x2 x3 x4 = some I' → zS (zOwn B K (B + n)) D B n K I R s.heap H locs → lv_has ls 11 [(0, .ref (B + a0)), (2, .int x2), (3, .int x3), (4, .int x4)] → W p l e ({ frames := 6, cells := 0, slots := 0, locals := 167 } : Room) s m args below meth c H locs 0 0 (MQ below (zQv D (zOwn B K (B + n)) B n K I' R) args s 0 0 (zOwn B K (B + n))) (F0 m 10 ls [])) {x2 : Int32} {x3 : Int32} {x4 : Int32} {s0 : Option Nat} {s1 : Int32} (hf : f_X7_lays_504 F K R a0 k10 I x2 x3 x4 s0 s1 = some I') (hW : zS (zOwn B K (B + n)) D B n K I R s.heap H locs) (hl : lv_has ls 11 [(0, .ref (B + a0)), (2, .int x2), (3, .int x3), (4, .int x4)]) : W p l e ({ frames := 6, cells := 0, slots := 0, locals := 167 } : Room) s m args below meth c H locs 0 0 (MQ below (zQv D (zOwn B K (B + n)) B n K I' R) args s 0 0 (zOwn B K (B + n))) (F0 m 504 ls [.int s1, zrf B s0]) := by
  unfold f_X7_lays_504 at hf
  refine lv_iconst (v := 0) X.1 X.2.1 dX7_lays_504 (by decide) ?_
  exact w_X7_lays_505 X hr hlk hK0 hk10 hf hW hl
set_option maxRecDepth 100000 in
set_option maxHeartbeats 4000000 in
theorem w_X7_lays_500 {F : Nat} {a0 : Nat} {k10 : zI → Int32 → Int32 → Int32 → Option (zI)} (X : zX p s m c cX7_lays 11 RX7 D) (hr : meth.sig.returnType = none) (hlk : meth.locks = false) (hK0 : (K a0).1 = 17) (hk10 : ∀ (I : zI) (x2 : Int32) (x3 : Int32) (x4 : Int32) (H : Heap) (locs : List Loc) (ls : Array Slot), k10 I x2 x3 x4 = some I' → zS (zOwn B K (B + n)) D B n K I R s.heap H locs → lv_has ls 11 [(0, .ref (B + a0)), (2, .int x2), (3, .int x3), (4, .int x4)] → W p l e ({ frames := 6, cells := 0, slots := 0, locals := 167 } : Room) s m args below meth c H locs 0 0 (MQ below (zQv D (zOwn B K (B + n)) B n K I' R) args s 0 0 (zOwn B K (B + n))) (F0 m 10 ls [])) {x2 : Int32} {x3 : Int32} {x4 : Int32} {s0 : Option Nat} {s1 : Int32} (hf : f_X7_lays_500 F K R a0 k10 I x2 x3 x4 s0 s1 = some I') (hW : zS (zOwn B K (B + n)) D B n K I R s.heap H locs) (hl : lv_has ls 11 [(0, .ref (B + a0)), (2, .int x2), (3, .int x3), (4, .int x4)]) : W p l e ({ frames := 6, cells := 0, slots := 0, locals := 167 } : Room) s m args below meth c H locs 0 0 (MQ below (zQv D (zOwn B K (B + n)) B n K I' R) args s 0 0 (zOwn B K (B + n))) (F0 m 500 ls [.int s1, zrf B s0]) := by
  unfold f_X7_lays_500 at hf
  refine lv_iconst (v := 1) X.1 X.2.1 dX7_lays_500 (by decide) ?_
  refine lv_goto (tgt := 505) X.1 X.2.1 dX7_lays_501 (by decide) ?_
  exact w_X7_lays_505 X hr hlk hK0 hk10 hf hW hl
set_option maxRecDepth 100000 in
set_option maxHeartbeats 4000000 in
theorem w_X7_lays_453 {F : Nat} {a0 : Nat} {k10 : zI → Int32 → Int32 → Int32 → Option (zI)} (X : zX p s m c cX7_lays 11 RX7 D) (hr : meth.sig.returnType = none) (hlk : meth.locks = false) (hK0 : (K a0).1 = 17) (hk10 : ∀ (I : zI) (x2 : Int32) (x3 : Int32) (x4 : Int32) (H : Heap) (locs : List Loc) (ls : Array Slot), k10 I x2 x3 x4 = some I' → zS (zOwn B K (B + n)) D B n K I R s.heap H locs → lv_has ls 11 [(0, .ref (B + a0)), (2, .int x2), (3, .int x3), (4, .int x4)] → W p l e ({ frames := 6, cells := 0, slots := 0, locals := 167 } : Room) s m args below meth c H locs 0 0 (MQ below (zQv D (zOwn B K (B + n)) B n K I' R) args s 0 0 (zOwn B K (B + n))) (F0 m 10 ls [])) {x2 : Int32} {x3 : Int32} {x4 : Int32} {x10 : Int32} {s0 : Option Nat} {s1 : Int32} {s2 : Int32} (hf : f_X7_lays_453 F K R a0 k10 I x2 x3 x4 x10 s0 s1 s2 = some I') (hW : zS (zOwn B K (B + n)) D B n K I R s.heap H locs) (hl : lv_has ls 11 [(0, .ref (B + a0)), (2, .int x2), (3, .int x3), (4, .int x4), (10, .int x10)]) : W p l e ({ frames := 6, cells := 0, slots := 0, locals := 167 } : Room) s m args below meth c H locs 0 0 (MQ below (zQv D (zOwn B K (B + n)) B n K I' R) args s 0 0 (zOwn B K (B + n))) (F0 m 453 ls [.int s2, .int s1, zrf B s0]) := by
  unfold f_X7_lays_453 at hf
  obtain ⟨a5, rfl, k7, hg⟩ := zh_dr hf
  replace hf := hg
  refine ze_zast X hf hW k7 dX7_lays_453 (fun I8 H locs hg hV => ?_)
  replace hf := hg
  replace hW := hV
  refine lv_aload_n X.1 X.2.1 dX7_lays_454 rfl (lv_at hl 0 rfl) ?_
  refine ze_gtR X 7 38 105 (RX7, TX7, 39) rfl hf hW hK0 rfl (by decide) kfl_X7_105 dX7_lays_455 (fun o9 hg => ?_)
  replace hf := hg
  refine lv_iload X.1 X.2.1 dX7_lays_458 (lv_at hl 3 rfl) ?_
  refine lv_iload X.1 X.2.1 dX7_lays_460 (lv_at hl 4 rfl) ?_
  refine lv_if_eq (tgt := 504) X.1 X.2.1 dX7_lays_462 (by decide) (fun c10 => ?_) (fun c10 => ?_)
  · replace hf := zif_pos c10 hf
    exact w_X7_lays_504 X hr hlk hK0 hk10 hf hW (lv_sub hl [0, 1, 2, 3] rfl)
  · replace hf := zif_neg c10 hf
    refine lv_aload_n X.1 X.2.1 dX7_lays_465 rfl (lv_at hl 0 rfl) ?_
    refine ze_gtR X 7 31 84 (RX7, TX7, 39) rfl hf hW hK0 rfl (by decide) kfl_X7_84 dX7_lays_466 (fun o11 hg => ?_)
    replace hf := hg
    refine lv_iload X.1 X.2.1 dX7_lays_469 (lv_at hl 3 rfl) ?_
    obtain ⟨a12, rfl, k14, hg⟩ := zh_dr hf
    replace hf := hg
    refine ze_iald X hf hW k14 dX7_lays_471 (fun v15 hg => ?_)
    replace hf := hg
    refine lv_if_le (tgt := 504) X.1 X.2.1 dX7_lays_472 (by decide) (fun c16 => ?_) (fun c16 => ?_)
    · replace hf := zif_pos c16 hf
      exact w_X7_lays_504 X hr hlk hK0 hk10 hf hW (lv_sub hl [0, 1, 2, 3] rfl)
    · replace hf := zif_neg c16 hf
      refine lv_aload_n X.1 X.2.1 dX7_lays_475 rfl (lv_at hl 0 rfl) ?_
      refine lv_iload_n X.1 X.2.1 dX7_lays_476 rfl (lv_at hl 1 rfl) ?_
      refine lv_iload X.1 X.2.1 dX7_lays_477 (lv_at hl 3 rfl) ?_
      obtain ⟨v17, h18, hg⟩ := zh_bd hf
      replace hf := hg
      refine ze_aftI0 (ze_runV (As := [.int x2, .int x4]) (rest := [.int x4, zrf B o9]) X 7 283 (c_X7_lastSort l D B n hK0 h18) vX7_lastSort kml_X7_283 hW hK0 rfl rfl ⟨by decide, by decide⟩ rfl hl.1 rfl (by simp [zcat, zcat_i, zcat_r, zcat_l]) ⟨Nat.le_refl _, Nat.le_refl _⟩ dX7_lays_479) hW (fun H locs hV => ?_)
      replace hW := hV
      refine lv_iconst (v := 3) X.1 X.2.1 dX7_lays_482 (by decide) ?_
      refine lv_icmp_eq (tgt := 504) X.1 X.2.1 dX7_lays_483 (by decide) (fun c19 => ?_) (fun c19 => ?_)
      · replace hf := zif_pos c19 hf
        exact w_X7_lays_504 X hr hlk hK0 hk10 hf hW (lv_sub hl [0, 1, 2, 3] rfl)
      · replace hf := zif_neg c19 hf
        refine lv_iload_n X.1 X.2.1 dX7_lays_486 rfl (lv_at hl 2 rfl) ?_
        refine lv_if_ne (tgt := 500) X.1 X.2.1 dX7_lays_487 (by decide) (fun c20 => ?_) (fun c20 => ?_)
        · replace hf := zif_neg c20 hf
          exact w_X7_lays_500 X hr hlk hK0 hk10 hf hW (lv_sub hl [0, 1, 2, 3] rfl)
        · replace hf := zif_pos c20 hf
          refine lv_aload_n X.1 X.2.1 dX7_lays_490 rfl (lv_at hl 0 rfl) ?_
          refine ze_gtR X 7 38 105 (RX7, TX7, 39) rfl hf hW hK0 rfl (by decide) kfl_X7_105 dX7_lays_491 (fun o21 hg => ?_)
          replace hf := hg
          refine lv_iload X.1 X.2.1 dX7_lays_494 (lv_at hl 3 rfl) ?_
          obtain ⟨a22, rfl, k24, hg⟩ := zh_dr hf
          replace hf := hg
          refine ze_zald X hf hW k24 dX7_lays_496 (fun v25 hg => ?_)
          replace hf := hg
          refine lv_if_eq (tgt := 504) X.1 X.2.1 dX7_lays_497 (by decide) (fun c26 => ?_) (fun c26 => ?_)
          · replace hf := zif_pos c26 hf
            exact w_X7_lays_504 X hr hlk hK0 hk10 hf hW (lv_sub hl [0, 1, 2, 3] rfl)
          · replace hf := zif_neg c26 hf
            exact w_X7_lays_500 X hr hlk hK0 hk10 hf hW (lv_sub hl [0, 1, 2, 3] rfl)
set_option maxRecDepth 100000 in
set_option maxHeartbeats 4000000 in
theorem w_X7_lays_452 {F : Nat} {a0 : Nat} {k10 : zI → Int32 → Int32 → Int32 → Option (zI)} (X : zX p s m c cX7_lays 11 RX7 D) (hr : meth.sig.returnType = none) (hlk : meth.locks = false) (hK0 : (K a0).1 = 17) (hk10 : ∀ (I : zI) (x2 : Int32) (x3 : Int32) (x4 : Int32) (H : Heap) (locs : List Loc) (ls : Array Slot), k10 I x2 x3 x4 = some I' → zS (zOwn B K (B + n)) D B n K I R s.heap H locs → lv_has ls 11 [(0, .ref (B + a0)), (2, .int x2), (3, .int x3), (4, .int x4)] → W p l e ({ frames := 6, cells := 0, slots := 0, locals := 167 } : Room) s m args below meth c H locs 0 0 (MQ below (zQv D (zOwn B K (B + n)) B n K I' R) args s 0 0 (zOwn B K (B + n))) (F0 m 10 ls [])) {x2 : Int32} {x3 : Int32} {x4 : Int32} {x10 : Int32} {s0 : Option Nat} {s1 : Int32} (hf : f_X7_lays_452 F K R a0 k10 I x2 x3 x4 x10 s0 s1 = some I') (hW : zS (zOwn B K (B + n)) D B n K I R s.heap H locs) (hl : lv_has ls 11 [(0, .ref (B + a0)), (2, .int x2), (3, .int x3), (4, .int x4), (10, .int x10)]) : W p l e ({ frames := 6, cells := 0, slots := 0, locals := 167 } : Room) s m args below meth c H locs 0 0 (MQ below (zQv D (zOwn B K (B + n)) B n K I' R) args s 0 0 (zOwn B K (B + n))) (F0 m 452 ls [.int s1, zrf B s0]) := by
  unfold f_X7_lays_452 at hf
  refine lv_iconst (v := 0) X.1 X.2.1 dX7_lays_452 (by decide) ?_
  exact w_X7_lays_453 X hr hlk hK0 hk10 hf hW hl
set_option maxRecDepth 100000 in
set_option maxHeartbeats 4000000 in
theorem w_X7_lays_448 {F : Nat} {a0 : Nat} {k10 : zI → Int32 → Int32 → Int32 → Option (zI)} (X : zX p s m c cX7_lays 11 RX7 D) (hr : meth.sig.returnType = none) (hlk : meth.locks = false) (hK0 : (K a0).1 = 17) (hk10 : ∀ (I : zI) (x2 : Int32) (x3 : Int32) (x4 : Int32) (H : Heap) (locs : List Loc) (ls : Array Slot), k10 I x2 x3 x4 = some I' → zS (zOwn B K (B + n)) D B n K I R s.heap H locs → lv_has ls 11 [(0, .ref (B + a0)), (2, .int x2), (3, .int x3), (4, .int x4)] → W p l e ({ frames := 6, cells := 0, slots := 0, locals := 167 } : Room) s m args below meth c H locs 0 0 (MQ below (zQv D (zOwn B K (B + n)) B n K I' R) args s 0 0 (zOwn B K (B + n))) (F0 m 10 ls [])) {x2 : Int32} {x3 : Int32} {x4 : Int32} {x10 : Int32} {s0 : Option Nat} {s1 : Int32} (hf : f_X7_lays_448 F K R a0 k10 I x2 x3 x4 x10 s0 s1 = some I') (hW : zS (zOwn B K (B + n)) D B n K I R s.heap H locs) (hl : lv_has ls 11 [(0, .ref (B + a0)), (2, .int x2), (3, .int x3), (4, .int x4), (10, .int x10)]) : W p l e ({ frames := 6, cells := 0, slots := 0, locals := 167 } : Room) s m args below meth c H locs 0 0 (MQ below (zQv D (zOwn B K (B + n)) B n K I' R) args s 0 0 (zOwn B K (B + n))) (F0 m 448 ls [.int s1, zrf B s0]) := by
  unfold f_X7_lays_448 at hf
  refine lv_iconst (v := 1) X.1 X.2.1 dX7_lays_448 (by decide) ?_
  refine lv_goto (tgt := 453) X.1 X.2.1 dX7_lays_449 (by decide) ?_
  exact w_X7_lays_453 X hr hlk hK0 hk10 hf hW hl
set_option maxRecDepth 100000 in
set_option maxHeartbeats 4000000 in
theorem w_X7_lays_396 {F : Nat} {a0 : Nat} {k10 : zI → Int32 → Int32 → Int32 → Option (zI)} (X : zX p s m c cX7_lays 11 RX7 D) (hr : meth.sig.returnType = none) (hlk : meth.locks = false) (hK0 : (K a0).1 = 17) (hk10 : ∀ (I : zI) (x2 : Int32) (x3 : Int32) (x4 : Int32) (H : Heap) (locs : List Loc) (ls : Array Slot), k10 I x2 x3 x4 = some I' → zS (zOwn B K (B + n)) D B n K I R s.heap H locs → lv_has ls 11 [(0, .ref (B + a0)), (2, .int x2), (3, .int x3), (4, .int x4)] → W p l e ({ frames := 6, cells := 0, slots := 0, locals := 167 } : Room) s m args below meth c H locs 0 0 (MQ below (zQv D (zOwn B K (B + n)) B n K I' R) args s 0 0 (zOwn B K (B + n))) (F0 m 10 ls [])) {x2 : Int32} {x3 : Int32} {x4 : Int32} {x10 : Int32} {s0 : Option Nat} {s1 : Int32} {s2 : Int32} (hf : f_X7_lays_396 F K R a0 k10 I x2 x3 x4 x10 s0 s1 s2 = some I') (hW : zS (zOwn B K (B + n)) D B n K I R s.heap H locs) (hl : lv_has ls 11 [(0, .ref (B + a0)), (2, .int x2), (3, .int x3), (4, .int x4), (10, .int x10)]) : W p l e ({ frames := 6, cells := 0, slots := 0, locals := 167 } : Room) s m args below meth c H locs 0 0 (MQ below (zQv D (zOwn B K (B + n)) B n K I' R) args s 0 0 (zOwn B K (B + n))) (F0 m 396 ls [.int s2, .int s1, zrf B s0]) := by
  unfold f_X7_lays_396 at hf
  obtain ⟨a27, rfl, k29, hg⟩ := zh_dr hf
  replace hf := hg
  refine ze_zast X hf hW k29 dX7_lays_396 (fun I30 H locs hg hV => ?_)
  replace hf := hg
  replace hW := hV
  refine lv_aload_n X.1 X.2.1 dX7_lays_397 rfl (lv_at hl 0 rfl) ?_
  refine ze_gtR X 7 37 102 (RX7, TX7, 39) rfl hf hW hK0 rfl (by decide) kfl_X7_102 dX7_lays_398 (fun o31 hg => ?_)
  replace hf := hg
  refine lv_iload X.1 X.2.1 dX7_lays_401 (lv_at hl 3 rfl) ?_
  refine lv_iload X.1 X.2.1 dX7_lays_403 (lv_at hl 4 rfl) ?_
  refine lv_if_eq (tgt := 452) X.1 X.2.1 dX7_lays_405 (by decide) (fun c32 => ?_) (fun c32 => ?_)
  · replace hf := zif_pos c32 hf
    exact w_X7_lays_452 X hr hlk hK0 hk10 hf hW hl
  · replace hf := zif_neg c32 hf
    refine lv_aload_n X.1 X.2.1 dX7_lays_408 rfl (lv_at hl 0 rfl) ?_
    refine ze_gtR X 7 31 84 (RX7, TX7, 39) rfl hf hW hK0 rfl (by decide) kfl_X7_84 dX7_lays_409 (fun o33 hg => ?_)
    replace hf := hg
    refine lv_iload X.1 X.2.1 dX7_lays_412 (lv_at hl 3 rfl) ?_
    obtain ⟨a34, rfl, k36, hg⟩ := zh_dr hf
    replace hf := hg
    refine ze_iald X hf hW k36 dX7_lays_414 (fun v37 hg => ?_)
    replace hf := hg
    refine lv_if_le (tgt := 452) X.1 X.2.1 dX7_lays_415 (by decide) (fun c38 => ?_) (fun c38 => ?_)
    · replace hf := zif_pos c38 hf
      exact w_X7_lays_452 X hr hlk hK0 hk10 hf hW hl
    · replace hf := zif_neg c38 hf
      refine lv_aload_n X.1 X.2.1 dX7_lays_418 rfl (lv_at hl 0 rfl) ?_
      refine lv_iload_n X.1 X.2.1 dX7_lays_419 rfl (lv_at hl 1 rfl) ?_
      refine lv_aload_n X.1 X.2.1 dX7_lays_420 rfl (lv_at hl 0 rfl) ?_
      refine ze_gtR X 7 30 81 (RX7, TX7, 39) rfl hf hW hK0 rfl (by decide) kfl_X7_81 dX7_lays_421 (fun o39 hg => ?_)
      replace hf := hg
      refine lv_iload X.1 X.2.1 dX7_lays_424 (lv_at hl 3 rfl) ?_
      obtain ⟨a40, rfl, k42, hg⟩ := zh_dr hf
      replace hf := hg
      refine ze_iald X hf hW k42 dX7_lays_426 (fun v43 hg => ?_)
      replace hf := hg
      obtain ⟨v44, h45, hg⟩ := zh_bd hf
      replace hf := hg
      refine ze_aftI0 (ze_runV (As := [.int x2, .int v43]) (rest := [.int x4, zrf B o31]) X 7 119 (c_X7_sort l D B n hK0 h45) vX7_sort kml_X7_119 hW hK0 rfl rfl ⟨by decide, by decide⟩ rfl hl.1 rfl (by simp [zcat, zcat_i, zcat_r, zcat_l]) ⟨Nat.le_refl _, Nat.le_refl _⟩ dX7_lays_427) hW (fun H locs hV => ?_)
      replace hW := hV
      refine lv_iconst (v := 3) X.1 X.2.1 dX7_lays_430 (by decide) ?_
      refine lv_icmp_eq (tgt := 452) X.1 X.2.1 dX7_lays_431 (by decide) (fun c46 => ?_) (fun c46 => ?_)
      · replace hf := zif_pos c46 hf
        exact w_X7_lays_452 X hr hlk hK0 hk10 hf hW hl
      · replace hf := zif_neg c46 hf
        refine lv_iload_n X.1 X.2.1 dX7_lays_434 rfl (lv_at hl 2 rfl) ?_
        refine lv_if_ne (tgt := 448) X.1 X.2.1 dX7_lays_435 (by decide) (fun c47 => ?_) (fun c47 => ?_)
        · replace hf := zif_neg c47 hf
          exact w_X7_lays_448 X hr hlk hK0 hk10 hf hW hl
        · replace hf := zif_pos c47 hf
          refine lv_aload_n X.1 X.2.1 dX7_lays_438 rfl (lv_at hl 0 rfl) ?_
          refine ze_gtR X 7 37 102 (RX7, TX7, 39) rfl hf hW hK0 rfl (by decide) kfl_X7_102 dX7_lays_439 (fun o48 hg => ?_)
          replace hf := hg
          refine lv_iload X.1 X.2.1 dX7_lays_442 (lv_at hl 3 rfl) ?_
          obtain ⟨a49, rfl, k51, hg⟩ := zh_dr hf
          replace hf := hg
          refine ze_zald X hf hW k51 dX7_lays_444 (fun v52 hg => ?_)
          replace hf := hg
          refine lv_if_eq (tgt := 452) X.1 X.2.1 dX7_lays_445 (by decide) (fun c53 => ?_) (fun c53 => ?_)
          · replace hf := zif_pos c53 hf
            exact w_X7_lays_452 X hr hlk hK0 hk10 hf hW hl
          · replace hf := zif_neg c53 hf
            exact w_X7_lays_448 X hr hlk hK0 hk10 hf hW hl
set_option maxRecDepth 100000 in
set_option maxHeartbeats 4000000 in
theorem w_X7_lays_395 {F : Nat} {a0 : Nat} {k10 : zI → Int32 → Int32 → Int32 → Option (zI)} (X : zX p s m c cX7_lays 11 RX7 D) (hr : meth.sig.returnType = none) (hlk : meth.locks = false) (hK0 : (K a0).1 = 17) (hk10 : ∀ (I : zI) (x2 : Int32) (x3 : Int32) (x4 : Int32) (H : Heap) (locs : List Loc) (ls : Array Slot), k10 I x2 x3 x4 = some I' → zS (zOwn B K (B + n)) D B n K I R s.heap H locs → lv_has ls 11 [(0, .ref (B + a0)), (2, .int x2), (3, .int x3), (4, .int x4)] → W p l e ({ frames := 6, cells := 0, slots := 0, locals := 167 } : Room) s m args below meth c H locs 0 0 (MQ below (zQv D (zOwn B K (B + n)) B n K I' R) args s 0 0 (zOwn B K (B + n))) (F0 m 10 ls [])) {x2 : Int32} {x3 : Int32} {x4 : Int32} {x10 : Int32} {s0 : Option Nat} {s1 : Int32} (hf : f_X7_lays_395 F K R a0 k10 I x2 x3 x4 x10 s0 s1 = some I') (hW : zS (zOwn B K (B + n)) D B n K I R s.heap H locs) (hl : lv_has ls 11 [(0, .ref (B + a0)), (2, .int x2), (3, .int x3), (4, .int x4), (10, .int x10)]) : W p l e ({ frames := 6, cells := 0, slots := 0, locals := 167 } : Room) s m args below meth c H locs 0 0 (MQ below (zQv D (zOwn B K (B + n)) B n K I' R) args s 0 0 (zOwn B K (B + n))) (F0 m 395 ls [.int s1, zrf B s0]) := by
  unfold f_X7_lays_395 at hf
  refine lv_iconst (v := 0) X.1 X.2.1 dX7_lays_395 (by decide) ?_
  exact w_X7_lays_396 X hr hlk hK0 hk10 hf hW hl
set_option maxRecDepth 100000 in
set_option maxHeartbeats 4000000 in
theorem w_X7_lays_391 {F : Nat} {a0 : Nat} {k10 : zI → Int32 → Int32 → Int32 → Option (zI)} (X : zX p s m c cX7_lays 11 RX7 D) (hr : meth.sig.returnType = none) (hlk : meth.locks = false) (hK0 : (K a0).1 = 17) (hk10 : ∀ (I : zI) (x2 : Int32) (x3 : Int32) (x4 : Int32) (H : Heap) (locs : List Loc) (ls : Array Slot), k10 I x2 x3 x4 = some I' → zS (zOwn B K (B + n)) D B n K I R s.heap H locs → lv_has ls 11 [(0, .ref (B + a0)), (2, .int x2), (3, .int x3), (4, .int x4)] → W p l e ({ frames := 6, cells := 0, slots := 0, locals := 167 } : Room) s m args below meth c H locs 0 0 (MQ below (zQv D (zOwn B K (B + n)) B n K I' R) args s 0 0 (zOwn B K (B + n))) (F0 m 10 ls [])) {x2 : Int32} {x3 : Int32} {x4 : Int32} {x10 : Int32} {s0 : Option Nat} {s1 : Int32} (hf : f_X7_lays_391 F K R a0 k10 I x2 x3 x4 x10 s0 s1 = some I') (hW : zS (zOwn B K (B + n)) D B n K I R s.heap H locs) (hl : lv_has ls 11 [(0, .ref (B + a0)), (2, .int x2), (3, .int x3), (4, .int x4), (10, .int x10)]) : W p l e ({ frames := 6, cells := 0, slots := 0, locals := 167 } : Room) s m args below meth c H locs 0 0 (MQ below (zQv D (zOwn B K (B + n)) B n K I' R) args s 0 0 (zOwn B K (B + n))) (F0 m 391 ls [.int s1, zrf B s0]) := by
  unfold f_X7_lays_391 at hf
  refine lv_iconst (v := 1) X.1 X.2.1 dX7_lays_391 (by decide) ?_
  refine lv_goto (tgt := 396) X.1 X.2.1 dX7_lays_392 (by decide) ?_
  exact w_X7_lays_396 X hr hlk hK0 hk10 hf hW hl
set_option maxRecDepth 100000 in
set_option maxHeartbeats 4000000 in
theorem w_X7_lays_354 {F : Nat} {a0 : Nat} {k10 : zI → Int32 → Int32 → Int32 → Option (zI)} (X : zX p s m c cX7_lays 11 RX7 D) (hr : meth.sig.returnType = none) (hlk : meth.locks = false) (hK0 : (K a0).1 = 17) (hk10 : ∀ (I : zI) (x2 : Int32) (x3 : Int32) (x4 : Int32) (H : Heap) (locs : List Loc) (ls : Array Slot), k10 I x2 x3 x4 = some I' → zS (zOwn B K (B + n)) D B n K I R s.heap H locs → lv_has ls 11 [(0, .ref (B + a0)), (2, .int x2), (3, .int x3), (4, .int x4)] → W p l e ({ frames := 6, cells := 0, slots := 0, locals := 167 } : Room) s m args below meth c H locs 0 0 (MQ below (zQv D (zOwn B K (B + n)) B n K I' R) args s 0 0 (zOwn B K (B + n))) (F0 m 10 ls [])) {x2 : Int32} {x3 : Int32} {x4 : Int32} {s0 : Int32} (hf : f_X7_lays_354 F K R a0 k10 I x2 x3 x4 s0 = some I') (hW : zS (zOwn B K (B + n)) D B n K I R s.heap H locs) (hl : lv_has ls 11 [(0, .ref (B + a0)), (2, .int x2), (3, .int x3), (4, .int x4)]) : W p l e ({ frames := 6, cells := 0, slots := 0, locals := 167 } : Room) s m args below meth c H locs 0 0 (MQ below (zQv D (zOwn B K (B + n)) B n K I' R) args s 0 0 (zOwn B K (B + n))) (F0 m 354 ls [.int s0]) := by
  unfold f_X7_lays_354 at hf
  refine lv_istore (lv' := [(10, .int s0), (0, .ref (B + a0)), (2, .int x2), (3, .int x3), (4, .int x4)]) X.1 X.2.1 dX7_lays_354 hl (by decide) rfl (fun ls hk => ?_)
  replace hl := hk
  refine lv_aload_n X.1 X.2.1 dX7_lays_356 rfl (lv_at hl 1 rfl) ?_
  refine ze_gtR X 7 36 99 (RX7, TX7, 39) rfl hf hW hK0 rfl (by decide) kfl_X7_99 dX7_lays_357 (fun o54 hg => ?_)
  replace hf := hg
  refine lv_iload X.1 X.2.1 dX7_lays_360 (lv_at hl 4 rfl) ?_
  refine lv_iload X.1 X.2.1 dX7_lays_362 (lv_at hl 0 rfl) ?_
  refine lv_if_eq (tgt := 395) X.1 X.2.1 dX7_lays_364 (by decide) (fun c55 => ?_) (fun c55 => ?_)
  · replace hf := zif_pos c55 hf
    exact w_X7_lays_395 X hr hlk hK0 hk10 hf hW (lv_sub hl [1, 2, 3, 4, 0] rfl)
  · replace hf := zif_neg c55 hf
    refine lv_aload_n X.1 X.2.1 dX7_lays_367 rfl (lv_at hl 1 rfl) ?_
    refine ze_gtR X 7 31 84 (RX7, TX7, 39) rfl hf hW hK0 rfl (by decide) kfl_X7_84 dX7_lays_368 (fun o56 hg => ?_)
    replace hf := hg
    refine lv_iload X.1 X.2.1 dX7_lays_371 (lv_at hl 4 rfl) ?_
    obtain ⟨a57, rfl, k59, hg⟩ := zh_dr hf
    replace hf := hg
    refine ze_iald X hf hW k59 dX7_lays_373 (fun v60 hg => ?_)
    replace hf := hg
    refine lv_if_ne (tgt := 395) X.1 X.2.1 dX7_lays_374 (by decide) (fun c61 => ?_) (fun c61 => ?_)
    · replace hf := zif_neg c61 hf
      exact w_X7_lays_395 X hr hlk hK0 hk10 hf hW (lv_sub hl [1, 2, 3, 4, 0] rfl)
    · replace hf := zif_pos c61 hf
      refine lv_iload_n X.1 X.2.1 dX7_lays_377 rfl (lv_at hl 3 rfl) ?_
      refine lv_if_ne (tgt := 391) X.1 X.2.1 dX7_lays_378 (by decide) (fun c62 => ?_) (fun c62 => ?_)
      · replace hf := zif_neg c62 hf
        exact w_X7_lays_391 X hr hlk hK0 hk10 hf hW (lv_sub hl [1, 2, 3, 4, 0] rfl)
      · replace hf := zif_pos c62 hf
        refine lv_aload_n X.1 X.2.1 dX7_lays_381 rfl (lv_at hl 1 rfl) ?_
        refine ze_gtR X 7 36 99 (RX7, TX7, 39) rfl hf hW hK0 rfl (by decide) kfl_X7_99 dX7_lays_382 (fun o63 hg => ?_)
        replace hf := hg
        refine lv_iload X.1 X.2.1 dX7_lays_385 (lv_at hl 4 rfl) ?_
        obtain ⟨a64, rfl, k66, hg⟩ := zh_dr hf
        replace hf := hg
        refine ze_zald X hf hW k66 dX7_lays_387 (fun v67 hg => ?_)
        replace hf := hg
        refine lv_if_eq (tgt := 395) X.1 X.2.1 dX7_lays_388 (by decide) (fun c68 => ?_) (fun c68 => ?_)
        · replace hf := zif_pos c68 hf
          exact w_X7_lays_395 X hr hlk hK0 hk10 hf hW (lv_sub hl [1, 2, 3, 4, 0] rfl)
        · replace hf := zif_neg c68 hf
          exact w_X7_lays_391 X hr hlk hK0 hk10 hf hW (lv_sub hl [1, 2, 3, 4, 0] rfl)
set_option maxRecDepth 100000 in
set_option maxHeartbeats 4000000 in
theorem w_X7_lays_333 {F : Nat} {a0 : Nat} {k10 : zI → Int32 → Int32 → Int32 → Option (zI)} (X : zX p s m c cX7_lays 11 RX7 D) (hr : meth.sig.returnType = none) (hlk : meth.locks = false) (hK0 : (K a0).1 = 17) (hk10 : ∀ (I : zI) (x2 : Int32) (x3 : Int32) (x4 : Int32) (H : Heap) (locs : List Loc) (ls : Array Slot), k10 I x2 x3 x4 = some I' → zS (zOwn B K (B + n)) D B n K I R s.heap H locs → lv_has ls 11 [(0, .ref (B + a0)), (2, .int x2), (3, .int x3), (4, .int x4)] → W p l e ({ frames := 6, cells := 0, slots := 0, locals := 167 } : Room) s m args below meth c H locs 0 0 (MQ below (zQv D (zOwn B K (B + n)) B n K I' R) args s 0 0 (zOwn B K (B + n))) (F0 m 10 ls [])) {x2 : Int32} {x3 : Int32} {x4 : Int32} {x5 : Int32} {x7 : Int32} {s0 : Option Nat} {s1 : Int32} {s2 : Int32} (hf : f_X7_lays_333 F K R a0 k10 I x2 x3 x4 x5 x7 s0 s1 s2 = some I') (hW : zS (zOwn B K (B + n)) D B n K I R s.heap H locs) (hl : lv_has ls 11 [(0, .ref (B + a0)), (2, .int x2), (3, .int x3), (4, .int x4), (5, .int x5), (7, .int x7)]) : W p l e ({ frames := 6, cells := 0, slots := 0, locals := 167 } : Room) s m args below meth c H locs 0 0 (MQ below (zQv D (zOwn B K (B + n)) B n K I' R) args s 0 0 (zOwn B K (B + n))) (F0 m 333 ls [.int s2, .int s1, zrf B s0]) := by
  unfold f_X7_lays_333 at hf
  obtain ⟨a69, rfl, k71, hg⟩ := zh_dr hf
  replace hf := hg
  refine ze_iast X hf hW k71 dX7_lays_333 (fun I72 H locs hg hV => ?_)
  replace hf := hg
  replace hW := hV
  refine lv_aload_n X.1 X.2.1 dX7_lays_334 rfl (lv_at hl 0 rfl) ?_
  refine ze_gtR X 7 35 96 (RX7, TX7, 39) rfl hf hW hK0 rfl (by decide) kfl_X7_96 dX7_lays_335 (fun o73 hg => ?_)
  replace hf := hg
  refine lv_iload X.1 X.2.1 dX7_lays_338 (lv_at hl 3 rfl) ?_
  refine lv_iload X.1 X.2.1 dX7_lays_340 (lv_at hl 5 rfl) ?_
  obtain ⟨a74, rfl, k76, hg⟩ := zh_dr hf
  replace hf := hg
  refine ze_iast X hf hW k76 dX7_lays_342 (fun I77 H locs hg hV => ?_)
  replace hf := hg
  replace hW := hV
  refine lv_iload X.1 X.2.1 dX7_lays_343 (lv_at hl 4 rfl) ?_
  refine lv_iconst (v := 3) X.1 X.2.1 dX7_lays_345 (by decide) ?_
  refine lv_icmp_ne (tgt := 353) X.1 X.2.1 dX7_lays_346 (by decide) (fun c78 => ?_) (fun c78 => ?_)
  · replace hf := zif_neg c78 hf
    refine lv_iconst (v := 0) X.1 X.2.1 dX7_lays_353 (by decide) ?_
    exact w_X7_lays_354 X hr hlk hK0 hk10 hf hW (lv_sub hl [0, 1, 2, 3] rfl)
  · replace hf := zif_pos c78 hf
    refine lv_iconst (v := 1) X.1 X.2.1 dX7_lays_349 (by decide) ?_
    refine lv_goto (tgt := 354) X.1 X.2.1 dX7_lays_350 (by decide) ?_
    exact w_X7_lays_354 X hr hlk hK0 hk10 hf hW (lv_sub hl [0, 1, 2, 3] rfl)
set_option maxRecDepth 100000 in
set_option maxHeartbeats 4000000 in
theorem w_X7_lays_313 {F : Nat} {a0 : Nat} {k10 : zI → Int32 → Int32 → Int32 → Option (zI)} (X : zX p s m c cX7_lays 11 RX7 D) (hr : meth.sig.returnType = none) (hlk : meth.locks = false) (hK0 : (K a0).1 = 17) (hk10 : ∀ (I : zI) (x2 : Int32) (x3 : Int32) (x4 : Int32) (H : Heap) (locs : List Loc) (ls : Array Slot), k10 I x2 x3 x4 = some I' → zS (zOwn B K (B + n)) D B n K I R s.heap H locs → lv_has ls 11 [(0, .ref (B + a0)), (2, .int x2), (3, .int x3), (4, .int x4)] → W p l e ({ frames := 6, cells := 0, slots := 0, locals := 167 } : Room) s m args below meth c H locs 0 0 (MQ below (zQv D (zOwn B K (B + n)) B n K I' R) args s 0 0 (zOwn B K (B + n))) (F0 m 10 ls [])) {x2 : Int32} {x3 : Int32} {x4 : Int32} {x5 : Int32} {x7 : Int32} {x8 : Int32} {s0 : Int32} (hf : f_X7_lays_313 F K R a0 k10 I x2 x3 x4 x5 x7 x8 s0 = some I') (hW : zS (zOwn B K (B + n)) D B n K I R s.heap H locs) (hl : lv_has ls 11 [(0, .ref (B + a0)), (2, .int x2), (3, .int x3), (4, .int x4), (5, .int x5), (7, .int x7), (8, .int x8)]) : W p l e ({ frames := 6, cells := 0, slots := 0, locals := 167 } : Room) s m args below meth c H locs 0 0 (MQ below (zQv D (zOwn B K (B + n)) B n K I' R) args s 0 0 (zOwn B K (B + n))) (F0 m 313 ls [.int s0]) := by
  unfold f_X7_lays_313 at hf
  refine lv_istore (lv' := [(9, .int s0), (0, .ref (B + a0)), (2, .int x2), (3, .int x3), (4, .int x4), (5, .int x5), (7, .int x7), (8, .int x8)]) X.1 X.2.1 dX7_lays_313 hl (by decide) rfl (fun ls hk => ?_)
  replace hl := hk
  refine lv_aload_n X.1 X.2.1 dX7_lays_315 rfl (lv_at hl 1 rfl) ?_
  refine ze_gtR X 7 34 93 (RX7, TX7, 39) rfl hf hW hK0 rfl (by decide) kfl_X7_93 dX7_lays_316 (fun o79 hg => ?_)
  replace hf := hg
  refine lv_iload X.1 X.2.1 dX7_lays_319 (lv_at hl 4 rfl) ?_
  refine lv_iload X.1 X.2.1 dX7_lays_321 (lv_at hl 0 rfl) ?_
  refine lv_if_eq (tgt := 331) X.1 X.2.1 dX7_lays_323 (by decide) (fun c80 => ?_) (fun c80 => ?_)
  · replace hf := zif_pos c80 hf
    refine lv_bipush (v := -9) X.1 X.2.1 dX7_lays_331 (by decide) ?_
    exact w_X7_lays_333 X hr hlk hK0 hk10 hf hW (lv_sub hl [1, 2, 3, 4, 5, 6] rfl)
  · replace hf := zif_neg c80 hf
    refine lv_iload X.1 X.2.1 dX7_lays_326 (lv_at hl 7 rfl) ?_
    refine lv_goto (tgt := 333) X.1 X.2.1 dX7_lays_328 (by decide) ?_
    exact w_X7_lays_333 X hr hlk hK0 hk10 hf hW (lv_sub hl [1, 2, 3, 4, 5, 6] rfl)
set_option maxRecDepth 100000 in
set_option maxHeartbeats 4000000 in
theorem w_X7_lays_312 {F : Nat} {a0 : Nat} {k10 : zI → Int32 → Int32 → Int32 → Option (zI)} (X : zX p s m c cX7_lays 11 RX7 D) (hr : meth.sig.returnType = none) (hlk : meth.locks = false) (hK0 : (K a0).1 = 17) (hk10 : ∀ (I : zI) (x2 : Int32) (x3 : Int32) (x4 : Int32) (H : Heap) (locs : List Loc) (ls : Array Slot), k10 I x2 x3 x4 = some I' → zS (zOwn B K (B + n)) D B n K I R s.heap H locs → lv_has ls 11 [(0, .ref (B + a0)), (2, .int x2), (3, .int x3), (4, .int x4)] → W p l e ({ frames := 6, cells := 0, slots := 0, locals := 167 } : Room) s m args below meth c H locs 0 0 (MQ below (zQv D (zOwn B K (B + n)) B n K I' R) args s 0 0 (zOwn B K (B + n))) (F0 m 10 ls [])) {x2 : Int32} {x3 : Int32} {x4 : Int32} {x5 : Int32} {x7 : Int32} {x8 : Int32} (hf : f_X7_lays_312 F K R a0 k10 I x2 x3 x4 x5 x7 x8 = some I') (hW : zS (zOwn B K (B + n)) D B n K I R s.heap H locs) (hl : lv_has ls 11 [(0, .ref (B + a0)), (2, .int x2), (3, .int x3), (4, .int x4), (5, .int x5), (7, .int x7), (8, .int x8)]) : W p l e ({ frames := 6, cells := 0, slots := 0, locals := 167 } : Room) s m args below meth c H locs 0 0 (MQ below (zQv D (zOwn B K (B + n)) B n K I' R) args s 0 0 (zOwn B K (B + n))) (F0 m 312 ls []) := by
  unfold f_X7_lays_312 at hf
  refine lv_iconst (v := 0) X.1 X.2.1 dX7_lays_312 (by decide) ?_
  exact w_X7_lays_313 X hr hlk hK0 hk10 hf hW hl
set_option maxRecDepth 100000 in
set_option maxHeartbeats 4000000 in
theorem w_X7_lays_308 {F : Nat} {a0 : Nat} {k10 : zI → Int32 → Int32 → Int32 → Option (zI)} (X : zX p s m c cX7_lays 11 RX7 D) (hr : meth.sig.returnType = none) (hlk : meth.locks = false) (hK0 : (K a0).1 = 17) (hk10 : ∀ (I : zI) (x2 : Int32) (x3 : Int32) (x4 : Int32) (H : Heap) (locs : List Loc) (ls : Array Slot), k10 I x2 x3 x4 = some I' → zS (zOwn B K (B + n)) D B n K I R s.heap H locs → lv_has ls 11 [(0, .ref (B + a0)), (2, .int x2), (3, .int x3), (4, .int x4)] → W p l e ({ frames := 6, cells := 0, slots := 0, locals := 167 } : Room) s m args below meth c H locs 0 0 (MQ below (zQv D (zOwn B K (B + n)) B n K I' R) args s 0 0 (zOwn B K (B + n))) (F0 m 10 ls [])) {x2 : Int32} {x3 : Int32} {x4 : Int32} {x5 : Int32} {x7 : Int32} {x8 : Int32} (hf : f_X7_lays_308 F K R a0 k10 I x2 x3 x4 x5 x7 x8 = some I') (hW : zS (zOwn B K (B + n)) D B n K I R s.heap H locs) (hl : lv_has ls 11 [(0, .ref (B + a0)), (2, .int x2), (3, .int x3), (4, .int x4), (5, .int x5), (7, .int x7), (8, .int x8)]) : W p l e ({ frames := 6, cells := 0, slots := 0, locals := 167 } : Room) s m args below meth c H locs 0 0 (MQ below (zQv D (zOwn B K (B + n)) B n K I' R) args s 0 0 (zOwn B K (B + n))) (F0 m 308 ls []) := by
  unfold f_X7_lays_308 at hf
  refine lv_iconst (v := 1) X.1 X.2.1 dX7_lays_308 (by decide) ?_
  refine lv_goto (tgt := 313) X.1 X.2.1 dX7_lays_309 (by decide) ?_
  exact w_X7_lays_313 X hr hlk hK0 hk10 hf hW hl
set_option maxRecDepth 100000 in
set_option maxHeartbeats 4000000 in
theorem w_X7_lays_278 {F : Nat} {a0 : Nat} {k10 : zI → Int32 → Int32 → Int32 → Option (zI)} (X : zX p s m c cX7_lays 11 RX7 D) (hr : meth.sig.returnType = none) (hlk : meth.locks = false) (hK0 : (K a0).1 = 17) (hk10 : ∀ (I : zI) (x2 : Int32) (x3 : Int32) (x4 : Int32) (H : Heap) (locs : List Loc) (ls : Array Slot), k10 I x2 x3 x4 = some I' → zS (zOwn B K (B + n)) D B n K I R s.heap H locs → lv_has ls 11 [(0, .ref (B + a0)), (2, .int x2), (3, .int x3), (4, .int x4)] → W p l e ({ frames := 6, cells := 0, slots := 0, locals := 167 } : Room) s m args below meth c H locs 0 0 (MQ below (zQv D (zOwn B K (B + n)) B n K I' R) args s 0 0 (zOwn B K (B + n))) (F0 m 10 ls [])) {x2 : Int32} {x3 : Int32} {x4 : Int32} {x5 : Int32} {x7 : Int32} {s0 : Int32} (hf : f_X7_lays_278 F K R a0 k10 I x2 x3 x4 x5 x7 s0 = some I') (hW : zS (zOwn B K (B + n)) D B n K I R s.heap H locs) (hl : lv_has ls 11 [(0, .ref (B + a0)), (2, .int x2), (3, .int x3), (4, .int x4), (5, .int x5), (7, .int x7)]) : W p l e ({ frames := 6, cells := 0, slots := 0, locals := 167 } : Room) s m args below meth c H locs 0 0 (MQ below (zQv D (zOwn B K (B + n)) B n K I' R) args s 0 0 (zOwn B K (B + n))) (F0 m 278 ls [.int s0]) := by
  unfold f_X7_lays_278 at hf
  refine lv_istore (lv' := [(8, .int s0), (0, .ref (B + a0)), (2, .int x2), (3, .int x3), (4, .int x4), (5, .int x5), (7, .int x7)]) X.1 X.2.1 dX7_lays_278 hl (by decide) rfl (fun ls hk => ?_)
  replace hl := hk
  refine lv_iload_n X.1 X.2.1 dX7_lays_280 rfl (lv_at hl 3 rfl) ?_
  refine lv_if_ne (tgt := 308) X.1 X.2.1 dX7_lays_281 (by decide) (fun c81 => ?_) (fun c81 => ?_)
  · replace hf := zif_neg c81 hf
    exact w_X7_lays_308 X hr hlk hK0 hk10 hf hW (lv_sub hl [1, 2, 3, 4, 5, 6, 0] rfl)
  · replace hf := zif_pos c81 hf
    refine lv_aload_n X.1 X.2.1 dX7_lays_284 rfl (lv_at hl 1 rfl) ?_
    refine ze_gtR X 7 34 93 (RX7, TX7, 39) rfl hf hW hK0 rfl (by decide) kfl_X7_93 dX7_lays_285 (fun o82 hg => ?_)
    replace hf := hg
    refine lv_iload X.1 X.2.1 dX7_lays_288 (lv_at hl 4 rfl) ?_
    obtain ⟨a83, rfl, k85, hg⟩ := zh_dr hf
    replace hf := hg
    refine ze_iald X hf hW k85 dX7_lays_290 (fun v86 hg => ?_)
    replace hf := hg
    refine lv_iload X.1 X.2.1 dX7_lays_291 (lv_at hl 0 rfl) ?_
    refine lv_icmp_ne (tgt := 312) X.1 X.2.1 dX7_lays_293 (by decide) (fun c87 => ?_) (fun c87 => ?_)
    · replace hf := zif_neg c87 hf
      exact w_X7_lays_312 X hr hlk hK0 hk10 hf hW (lv_sub hl [1, 2, 3, 4, 5, 6, 0] rfl)
    · replace hf := zif_pos c87 hf
      refine lv_aload_n X.1 X.2.1 dX7_lays_296 rfl (lv_at hl 1 rfl) ?_
      refine ze_gtR X 7 35 96 (RX7, TX7, 39) rfl hf hW hK0 rfl (by decide) kfl_X7_96 dX7_lays_297 (fun o88 hg => ?_)
      replace hf := hg
      refine lv_iload X.1 X.2.1 dX7_lays_300 (lv_at hl 4 rfl) ?_
      obtain ⟨a89, rfl, k91, hg⟩ := zh_dr hf
      replace hf := hg
      refine ze_iald X hf hW k91 dX7_lays_302 (fun v92 hg => ?_)
      replace hf := hg
      refine lv_iload X.1 X.2.1 dX7_lays_303 (lv_at hl 6 rfl) ?_
      refine lv_icmp_ne (tgt := 312) X.1 X.2.1 dX7_lays_305 (by decide) (fun c93 => ?_) (fun c93 => ?_)
      · replace hf := zif_neg c93 hf
        exact w_X7_lays_312 X hr hlk hK0 hk10 hf hW (lv_sub hl [1, 2, 3, 4, 5, 6, 0] rfl)
      · replace hf := zif_pos c93 hf
        exact w_X7_lays_308 X hr hlk hK0 hk10 hf hW (lv_sub hl [1, 2, 3, 4, 5, 6, 0] rfl)
set_option maxRecDepth 100000 in
set_option maxHeartbeats 4000000 in
theorem w_X7_lays_254 {F : Nat} {a0 : Nat} {k10 : zI → Int32 → Int32 → Int32 → Option (zI)} (X : zX p s m c cX7_lays 11 RX7 D) (hr : meth.sig.returnType = none) (hlk : meth.locks = false) (hK0 : (K a0).1 = 17) (hk10 : ∀ (I : zI) (x2 : Int32) (x3 : Int32) (x4 : Int32) (H : Heap) (locs : List Loc) (ls : Array Slot), k10 I x2 x3 x4 = some I' → zS (zOwn B K (B + n)) D B n K I R s.heap H locs → lv_has ls 11 [(0, .ref (B + a0)), (2, .int x2), (3, .int x3), (4, .int x4)] → W p l e ({ frames := 6, cells := 0, slots := 0, locals := 167 } : Room) s m args below meth c H locs 0 0 (MQ below (zQv D (zOwn B K (B + n)) B n K I' R) args s 0 0 (zOwn B K (B + n))) (F0 m 10 ls [])) {x2 : Int32} {x3 : Int32} {x4 : Int32} {x5 : Int32} {x6 : Int32} {s0 : Int32} (hf : f_X7_lays_254 F K R a0 k10 I x2 x3 x4 x5 x6 s0 = some I') (hW : zS (zOwn B K (B + n)) D B n K I R s.heap H locs) (hl : lv_has ls 11 [(0, .ref (B + a0)), (2, .int x2), (3, .int x3), (4, .int x4), (5, .int x5), (6, .int x6)]) : W p l e ({ frames := 6, cells := 0, slots := 0, locals := 167 } : Room) s m args below meth c H locs 0 0 (MQ below (zQv D (zOwn B K (B + n)) B n K I' R) args s 0 0 (zOwn B K (B + n))) (F0 m 254 ls [.int s0]) := by
  unfold f_X7_lays_254 at hf
  refine lv_istore (lv' := [(7, .int s0), (0, .ref (B + a0)), (2, .int x2), (3, .int x3), (4, .int x4), (5, .int x5), (6, .int x6)]) X.1 X.2.1 dX7_lays_254 hl (by decide) rfl (fun ls hk => ?_)
  replace hl := hk
  refine lv_iload X.1 X.2.1 dX7_lays_256 (lv_at hl 6 rfl) ?_
  refine lv_if_eq (tgt := 276) X.1 X.2.1 dX7_lays_258 (by decide) (fun c94 => ?_) (fun c94 => ?_)
  · replace hf := zif_pos c94 hf
    refine lv_bipush (v := -9) X.1 X.2.1 dX7_lays_276 (by decide) ?_
    exact w_X7_lays_278 X hr hlk hK0 hk10 hf hW (lv_sub hl [1, 2, 3, 4, 5, 0] rfl)
  · replace hf := zif_neg c94 hf
    refine lv_aload_n X.1 X.2.1 dX7_lays_261 rfl (lv_at hl 1 rfl) ?_
    refine lv_iload_n X.1 X.2.1 dX7_lays_262 rfl (lv_at hl 2 rfl) ?_
    refine lv_aload_n X.1 X.2.1 dX7_lays_263 rfl (lv_at hl 1 rfl) ?_
    refine ze_gtR X 7 30 81 (RX7, TX7, 39) rfl hf hW hK0 rfl (by decide) kfl_X7_81 dX7_lays_264 (fun o95 hg => ?_)
    replace hf := hg
    refine lv_iload X.1 X.2.1 dX7_lays_267 (lv_at hl 4 rfl) ?_
    obtain ⟨a96, rfl, k98, hg⟩ := zh_dr hf
    replace hf := hg
    refine ze_iald X hf hW k98 dX7_lays_269 (fun v99 hg => ?_)
    replace hf := hg
    obtain ⟨v100, h101, hg⟩ := zh_bd hf
    replace hf := hg
    refine ze_aftI0 (ze_runV (As := [.int x2, .int v99]) (rest := []) X 7 159 (c_X7_number l D B n hK0 h101) vX7_number kml_X7_159 hW hK0 rfl rfl ⟨by decide, by decide⟩ rfl hl.1 rfl (Nat.le_of_ble_eq_true rfl) ⟨Nat.le_refl _, Nat.le_refl _⟩ dX7_lays_270) hW (fun H locs hV => ?_)
    replace hW := hV
    refine lv_goto (tgt := 278) X.1 X.2.1 dX7_lays_273 (by decide) ?_
    exact w_X7_lays_278 X hr hlk hK0 hk10 hf hW (lv_sub hl [1, 2, 3, 4, 5, 0] rfl)
set_option maxRecDepth 100000 in
set_option maxHeartbeats 4000000 in
theorem w_X7_lays_238 {F : Nat} {a0 : Nat} {k10 : zI → Int32 → Int32 → Int32 → Option (zI)} (X : zX p s m c cX7_lays 11 RX7 D) (hr : meth.sig.returnType = none) (hlk : meth.locks = false) (hK0 : (K a0).1 = 17) (hk10 : ∀ (I : zI) (x2 : Int32) (x3 : Int32) (x4 : Int32) (H : Heap) (locs : List Loc) (ls : Array Slot), k10 I x2 x3 x4 = some I' → zS (zOwn B K (B + n)) D B n K I R s.heap H locs → lv_has ls 11 [(0, .ref (B + a0)), (2, .int x2), (3, .int x3), (4, .int x4)] → W p l e ({ frames := 6, cells := 0, slots := 0, locals := 167 } : Room) s m args below meth c H locs 0 0 (MQ below (zQv D (zOwn B K (B + n)) B n K I' R) args s 0 0 (zOwn B K (B + n))) (F0 m 10 ls [])) {x2 : Int32} {x3 : Int32} {x4 : Int32} {x5 : Int32} {x6 : Int32} (hf : f_X7_lays_238 F K R a0 k10 I x2 x3 x4 x5 x6 = some I') (hW : zS (zOwn B K (B + n)) D B n K I R s.heap H locs) (hl : lv_has ls 11 [(0, .ref (B + a0)), (2, .int x2), (3, .int x3), (4, .int x4), (5, .int x5), (6, .int x6)]) : W p l e ({ frames := 6, cells := 0, slots := 0, locals := 167 } : Room) s m args below meth c H locs 0 0 (MQ below (zQv D (zOwn B K (B + n)) B n K I' R) args s 0 0 (zOwn B K (B + n))) (F0 m 238 ls []) := by
  unfold f_X7_lays_238 at hf
  refine lv_iconst (v := 0) X.1 X.2.1 dX7_lays_238 (by decide) ?_
  refine lv_goto (tgt := 254) X.1 X.2.1 dX7_lays_239 (by decide) ?_
  exact w_X7_lays_254 X hr hlk hK0 hk10 hf hW hl
set_option maxRecDepth 100000 in
set_option maxHeartbeats 4000000 in
theorem w_X7_lays_225 {F : Nat} {a0 : Nat} {k10 : zI → Int32 → Int32 → Int32 → Option (zI)} (X : zX p s m c cX7_lays 11 RX7 D) (hr : meth.sig.returnType = none) (hlk : meth.locks = false) (hK0 : (K a0).1 = 17) (hk10 : ∀ (I : zI) (x2 : Int32) (x3 : Int32) (x4 : Int32) (H : Heap) (locs : List Loc) (ls : Array Slot), k10 I x2 x3 x4 = some I' → zS (zOwn B K (B + n)) D B n K I R s.heap H locs → lv_has ls 11 [(0, .ref (B + a0)), (2, .int x2), (3, .int x3), (4, .int x4)] → W p l e ({ frames := 6, cells := 0, slots := 0, locals := 167 } : Room) s m args below meth c H locs 0 0 (MQ below (zQv D (zOwn B K (B + n)) B n K I' R) args s 0 0 (zOwn B K (B + n))) (F0 m 10 ls [])) {x2 : Int32} {x3 : Int32} {x4 : Int32} {x5 : Int32} {s0 : Int32} (hf : f_X7_lays_225 F K R a0 k10 I x2 x3 x4 x5 s0 = some I') (hW : zS (zOwn B K (B + n)) D B n K I R s.heap H locs) (hl : lv_has ls 11 [(0, .ref (B + a0)), (2, .int x2), (3, .int x3), (4, .int x4), (5, .int x5)]) : W p l e ({ frames := 6, cells := 0, slots := 0, locals := 167 } : Room) s m args below meth c H locs 0 0 (MQ below (zQv D (zOwn B K (B + n)) B n K I' R) args s 0 0 (zOwn B K (B + n))) (F0 m 225 ls [.int s0]) := by
  unfold f_X7_lays_225 at hf
  refine lv_istore (lv' := [(6, .int s0), (0, .ref (B + a0)), (2, .int x2), (3, .int x3), (4, .int x4), (5, .int x5)]) X.1 X.2.1 dX7_lays_225 hl (by decide) rfl (fun ls hk => ?_)
  replace hl := hk
  refine lv_iload X.1 X.2.1 dX7_lays_227 (lv_at hl 0 rfl) ?_
  refine lv_if_eq (tgt := 238) X.1 X.2.1 dX7_lays_229 (by decide) (fun c102 => ?_) (fun c102 => ?_)
  · replace hf := zif_pos c102 hf
    exact w_X7_lays_238 X hr hlk hK0 hk10 hf hW (lv_sub hl [1, 2, 3, 4, 5, 0] rfl)
  · replace hf := zif_neg c102 hf
    refine lv_iload X.1 X.2.1 dX7_lays_232 (lv_at hl 5 rfl) ?_
    refine lv_iconst (v := 2) X.1 X.2.1 dX7_lays_234 (by decide) ?_
    refine lv_icmp_ne (tgt := 242) X.1 X.2.1 dX7_lays_235 (by decide) (fun c103 => ?_) (fun c103 => ?_)
    · replace hf := zif_neg c103 hf
      refine lv_aload_n X.1 X.2.1 dX7_lays_242 rfl (lv_at hl 1 rfl) ?_
      refine lv_iload_n X.1 X.2.1 dX7_lays_243 rfl (lv_at hl 2 rfl) ?_
      refine lv_aload_n X.1 X.2.1 dX7_lays_244 rfl (lv_at hl 1 rfl) ?_
      refine ze_gtR X 7 30 81 (RX7, TX7, 39) rfl hf hW hK0 rfl (by decide) kfl_X7_81 dX7_lays_245 (fun o104 hg => ?_)
      replace hf := hg
      refine lv_iload X.1 X.2.1 dX7_lays_248 (lv_at hl 4 rfl) ?_
      obtain ⟨a105, rfl, k107, hg⟩ := zh_dr hf
      replace hf := hg
      refine ze_iald X hf hW k107 dX7_lays_250 (fun v108 hg => ?_)
      replace hf := hg
      obtain ⟨v109, h110, hg⟩ := zh_bd hf
      replace hf := hg
      refine ze_aftI0 (ze_runV (As := [.int x2, .int v108]) (rest := []) X 7 111 (c_X7_arguments l D B n hK0 h110) vX7_arguments kml_X7_111 hW hK0 rfl rfl ⟨by decide, by decide⟩ rfl hl.1 rfl (Nat.le_of_ble_eq_true rfl) ⟨Nat.le_refl _, Nat.le_refl _⟩ dX7_lays_251) hW (fun H locs hV => ?_)
      replace hW := hV
      exact w_X7_lays_254 X hr hlk hK0 hk10 hf hW (lv_sub hl [1, 2, 3, 4, 5, 0] rfl)
    · replace hf := zif_pos c103 hf
      exact w_X7_lays_238 X hr hlk hK0 hk10 hf hW (lv_sub hl [1, 2, 3, 4, 5, 0] rfl)
set_option maxRecDepth 100000 in
set_option maxHeartbeats 4000000 in
theorem w_X7_lays_224 {F : Nat} {a0 : Nat} {k10 : zI → Int32 → Int32 → Int32 → Option (zI)} (X : zX p s m c cX7_lays 11 RX7 D) (hr : meth.sig.returnType = none) (hlk : meth.locks = false) (hK0 : (K a0).1 = 17) (hk10 : ∀ (I : zI) (x2 : Int32) (x3 : Int32) (x4 : Int32) (H : Heap) (locs : List Loc) (ls : Array Slot), k10 I x2 x3 x4 = some I' → zS (zOwn B K (B + n)) D B n K I R s.heap H locs → lv_has ls 11 [(0, .ref (B + a0)), (2, .int x2), (3, .int x3), (4, .int x4)] → W p l e ({ frames := 6, cells := 0, slots := 0, locals := 167 } : Room) s m args below meth c H locs 0 0 (MQ below (zQv D (zOwn B K (B + n)) B n K I' R) args s 0 0 (zOwn B K (B + n))) (F0 m 10 ls [])) {x2 : Int32} {x3 : Int32} {x4 : Int32} {x5 : Int32} (hf : f_X7_lays_224 F K R a0 k10 I x2 x3 x4 x5 = some I') (hW : zS (zOwn B K (B + n)) D B n K I R s.heap H locs) (hl : lv_has ls 11 [(0, .ref (B + a0)), (2, .int x2), (3, .int x3), (4, .int x4), (5, .int x5)]) : W p l e ({ frames := 6, cells := 0, slots := 0, locals := 167 } : Room) s m args below meth c H locs 0 0 (MQ below (zQv D (zOwn B K (B + n)) B n K I' R) args s 0 0 (zOwn B K (B + n))) (F0 m 224 ls []) := by
  unfold f_X7_lays_224 at hf
  refine lv_iconst (v := 0) X.1 X.2.1 dX7_lays_224 (by decide) ?_
  exact w_X7_lays_225 X hr hlk hK0 hk10 hf hW hl
set_option maxRecDepth 100000 in
set_option maxHeartbeats 4000000 in
theorem w_X7_lays_220 {F : Nat} {a0 : Nat} {k10 : zI → Int32 → Int32 → Int32 → Option (zI)} (X : zX p s m c cX7_lays 11 RX7 D) (hr : meth.sig.returnType = none) (hlk : meth.locks = false) (hK0 : (K a0).1 = 17) (hk10 : ∀ (I : zI) (x2 : Int32) (x3 : Int32) (x4 : Int32) (H : Heap) (locs : List Loc) (ls : Array Slot), k10 I x2 x3 x4 = some I' → zS (zOwn B K (B + n)) D B n K I R s.heap H locs → lv_has ls 11 [(0, .ref (B + a0)), (2, .int x2), (3, .int x3), (4, .int x4)] → W p l e ({ frames := 6, cells := 0, slots := 0, locals := 167 } : Room) s m args below meth c H locs 0 0 (MQ below (zQv D (zOwn B K (B + n)) B n K I' R) args s 0 0 (zOwn B K (B + n))) (F0 m 10 ls [])) {x2 : Int32} {x3 : Int32} {x4 : Int32} {x5 : Int32} (hf : f_X7_lays_220 F K R a0 k10 I x2 x3 x4 x5 = some I') (hW : zS (zOwn B K (B + n)) D B n K I R s.heap H locs) (hl : lv_has ls 11 [(0, .ref (B + a0)), (2, .int x2), (3, .int x3), (4, .int x4), (5, .int x5)]) : W p l e ({ frames := 6, cells := 0, slots := 0, locals := 167 } : Room) s m args below meth c H locs 0 0 (MQ below (zQv D (zOwn B K (B + n)) B n K I' R) args s 0 0 (zOwn B K (B + n))) (F0 m 220 ls []) := by
  unfold f_X7_lays_220 at hf
  refine lv_iconst (v := 1) X.1 X.2.1 dX7_lays_220 (by decide) ?_
  refine lv_goto (tgt := 225) X.1 X.2.1 dX7_lays_221 (by decide) ?_
  exact w_X7_lays_225 X hr hlk hK0 hk10 hf hW hl
set_option maxRecDepth 100000 in
set_option maxHeartbeats 4000000 in
theorem w_X7_lays_199 {F : Nat} {a0 : Nat} {k10 : zI → Int32 → Int32 → Int32 → Option (zI)} (X : zX p s m c cX7_lays 11 RX7 D) (hr : meth.sig.returnType = none) (hlk : meth.locks = false) (hK0 : (K a0).1 = 17) (hk10 : ∀ (I : zI) (x2 : Int32) (x3 : Int32) (x4 : Int32) (H : Heap) (locs : List Loc) (ls : Array Slot), k10 I x2 x3 x4 = some I' → zS (zOwn B K (B + n)) D B n K I R s.heap H locs → lv_has ls 11 [(0, .ref (B + a0)), (2, .int x2), (3, .int x3), (4, .int x4)] → W p l e ({ frames := 6, cells := 0, slots := 0, locals := 167 } : Room) s m args below meth c H locs 0 0 (MQ below (zQv D (zOwn B K (B + n)) B n K I' R) args s 0 0 (zOwn B K (B + n))) (F0 m 10 ls [])) {x2 : Int32} {x3 : Int32} {x4 : Int32} {x5 : Int32} (hf : f_X7_lays_199 F K R a0 k10 I x2 x3 x4 x5 = some I') (hW : zS (zOwn B K (B + n)) D B n K I R s.heap H locs) (hl : lv_has ls 11 [(0, .ref (B + a0)), (2, .int x2), (3, .int x3), (4, .int x4), (5, .int x5)]) : W p l e ({ frames := 6, cells := 0, slots := 0, locals := 167 } : Room) s m args below meth c H locs 0 0 (MQ below (zQv D (zOwn B K (B + n)) B n K I' R) args s 0 0 (zOwn B K (B + n))) (F0 m 199 ls []) := by
  unfold f_X7_lays_199 at hf
  refine lv_iload X.1 X.2.1 dX7_lays_199 (lv_at hl 4 rfl) ?_
  refine lv_iconst (v := 2) X.1 X.2.1 dX7_lays_201 (by decide) ?_
  refine lv_icmp_ne (tgt := 224) X.1 X.2.1 dX7_lays_202 (by decide) (fun c111 => ?_) (fun c111 => ?_)
  · replace hf := zif_neg c111 hf
    exact w_X7_lays_224 X hr hlk hK0 hk10 hf hW hl
  · replace hf := zif_pos c111 hf
    refine lv_aload_n X.1 X.2.1 dX7_lays_205 rfl (lv_at hl 0 rfl) ?_
    refine lv_iload_n X.1 X.2.1 dX7_lays_206 rfl (lv_at hl 1 rfl) ?_
    refine lv_aload_n X.1 X.2.1 dX7_lays_207 rfl (lv_at hl 0 rfl) ?_
    refine ze_gtR X 7 30 81 (RX7, TX7, 39) rfl hf hW hK0 rfl (by decide) kfl_X7_81 dX7_lays_208 (fun o112 hg => ?_)
    replace hf := hg
    refine lv_iload X.1 X.2.1 dX7_lays_211 (lv_at hl 3 rfl) ?_
    obtain ⟨a113, rfl, k115, hg⟩ := zh_dr hf
    replace hf := hg
    refine ze_iald X hf hW k115 dX7_lays_213 (fun v116 hg => ?_)
    replace hf := hg
    obtain ⟨v117, h118, hg⟩ := zh_bd hf
    replace hf := hg
    refine ze_aftI0 (ze_runV (As := [.int x2, .int v116]) (rest := []) X 7 119 (c_X7_sort l D B n hK0 h118) vX7_sort kml_X7_119 hW hK0 rfl rfl ⟨by decide, by decide⟩ rfl hl.1 rfl (Nat.le_of_ble_eq_true rfl) ⟨Nat.le_refl _, Nat.le_refl _⟩ dX7_lays_214) hW (fun H locs hV => ?_)
    replace hW := hV
    refine lv_if_ne (tgt := 224) X.1 X.2.1 dX7_lays_217 (by decide) (fun c119 => ?_) (fun c119 => ?_)
    · replace hf := zif_neg c119 hf
      exact w_X7_lays_224 X hr hlk hK0 hk10 hf hW hl
    · replace hf := zif_pos c119 hf
      exact w_X7_lays_220 X hr hlk hK0 hk10 hf hW hl
set_option maxRecDepth 100000 in
set_option maxHeartbeats 4000000 in
theorem w_X7_lays_150 {F : Nat} {a0 : Nat} {k10 : zI → Int32 → Int32 → Int32 → Option (zI)} {k44 : zI → Int32 → Int32 → Int32 → Int32 → Int32 → Option (zI)} (X : zX p s m c cX7_lays 11 RX7 D) (hr : meth.sig.returnType = none) (hlk : meth.locks = false) (hK0 : (K a0).1 = 17) (hk10 : ∀ (I : zI) (x2 : Int32) (x3 : Int32) (x4 : Int32) (H : Heap) (locs : List Loc) (ls : Array Slot), k10 I x2 x3 x4 = some I' → zS (zOwn B K (B + n)) D B n K I R s.heap H locs → lv_has ls 11 [(0, .ref (B + a0)), (2, .int x2), (3, .int x3), (4, .int x4)] → W p l e ({ frames := 6, cells := 0, slots := 0, locals := 167 } : Room) s m args below meth c H locs 0 0 (MQ below (zQv D (zOwn B K (B + n)) B n K I' R) args s 0 0 (zOwn B K (B + n))) (F0 m 10 ls [])) (hk44 : ∀ (I : zI) (x2 : Int32) (x3 : Int32) (x4 : Int32) (x5 : Int32) (x6 : Int32) (H : Heap) (locs : List Loc) (ls : Array Slot), k44 I x2 x3 x4 x5 x6 = some I' → zS (zOwn B K (B + n)) D B n K I R s.heap H locs → lv_has ls 11 [(0, .ref (B + a0)), (2, .int x2), (3, .int x3), (4, .int x4), (5, .int x5), (6, .int x6)] → W p l e ({ frames := 6, cells := 0, slots := 0, locals := 167 } : Room) s m args below meth c H locs 0 0 (MQ below (zQv D (zOwn B K (B + n)) B n K I' R) args s 0 0 (zOwn B K (B + n))) (F0 m 44 ls [])) {x2 : Int32} {x3 : Int32} {x4 : Int32} {x5 : Int32} {x6 : Int32} {s0 : Option Nat} {s1 : Int32} {s2 : Int32} (hf : f_X7_lays_150 F K R a0 k10 k44 I x2 x3 x4 x5 x6 s0 s1 s2 = some I') (hW : zS (zOwn B K (B + n)) D B n K I R s.heap H locs) (hl : lv_has ls 11 [(0, .ref (B + a0)), (2, .int x2), (3, .int x3), (4, .int x4), (5, .int x5), (6, .int x6)]) : W p l e ({ frames := 6, cells := 0, slots := 0, locals := 167 } : Room) s m args below meth c H locs 0 0 (MQ below (zQv D (zOwn B K (B + n)) B n K I' R) args s 0 0 (zOwn B K (B + n))) (F0 m 150 ls [.int s2, .int s1, zrf B s0]) := by
  unfold f_X7_lays_150 at hf
  obtain ⟨a120, rfl, k122, hg⟩ := zh_dr hf
  replace hf := hg
  refine ze_zast X hf hW k122 dX7_lays_150 (fun I123 H locs hg hV => ?_)
  replace hf := hg
  replace hW := hV
  refine ze_iinc (lv' := [(6, .int (x6 + (1 : Int32))), (0, .ref (B + a0)), (2, .int x2), (3, .int x3), (4, .int x4), (5, .int x5)]) (d := 1) X.1 X.2.1 dX7_lays_151 hl (k := 5) rfl (by decide) (by decide) rfl (fun ls hk => ?_)
  replace hl := hk
  refine lv_goto (tgt := 44) X.1 X.2.1 dX7_lays_154 (by decide) ?_
  exact hk44 _ _ _ _ _ _ _ _ _ hf hW (lv_sub hl [1, 2, 3, 4, 5, 0] rfl)
set_option maxRecDepth 100000 in
set_option maxHeartbeats 4000000 in
theorem w_X7_lays_149 {F : Nat} {a0 : Nat} {k10 : zI → Int32 → Int32 → Int32 → Option (zI)} {k44 : zI → Int32 → Int32 → Int32 → Int32 → Int32 → Option (zI)} (X : zX p s m c cX7_lays 11 RX7 D) (hr : meth.sig.returnType = none) (hlk : meth.locks = false) (hK0 : (K a0).1 = 17) (hk10 : ∀ (I : zI) (x2 : Int32) (x3 : Int32) (x4 : Int32) (H : Heap) (locs : List Loc) (ls : Array Slot), k10 I x2 x3 x4 = some I' → zS (zOwn B K (B + n)) D B n K I R s.heap H locs → lv_has ls 11 [(0, .ref (B + a0)), (2, .int x2), (3, .int x3), (4, .int x4)] → W p l e ({ frames := 6, cells := 0, slots := 0, locals := 167 } : Room) s m args below meth c H locs 0 0 (MQ below (zQv D (zOwn B K (B + n)) B n K I' R) args s 0 0 (zOwn B K (B + n))) (F0 m 10 ls [])) (hk44 : ∀ (I : zI) (x2 : Int32) (x3 : Int32) (x4 : Int32) (x5 : Int32) (x6 : Int32) (H : Heap) (locs : List Loc) (ls : Array Slot), k44 I x2 x3 x4 x5 x6 = some I' → zS (zOwn B K (B + n)) D B n K I R s.heap H locs → lv_has ls 11 [(0, .ref (B + a0)), (2, .int x2), (3, .int x3), (4, .int x4), (5, .int x5), (6, .int x6)] → W p l e ({ frames := 6, cells := 0, slots := 0, locals := 167 } : Room) s m args below meth c H locs 0 0 (MQ below (zQv D (zOwn B K (B + n)) B n K I' R) args s 0 0 (zOwn B K (B + n))) (F0 m 44 ls [])) {x2 : Int32} {x3 : Int32} {x4 : Int32} {x5 : Int32} {x6 : Int32} {s0 : Option Nat} {s1 : Int32} (hf : f_X7_lays_149 F K R a0 k10 k44 I x2 x3 x4 x5 x6 s0 s1 = some I') (hW : zS (zOwn B K (B + n)) D B n K I R s.heap H locs) (hl : lv_has ls 11 [(0, .ref (B + a0)), (2, .int x2), (3, .int x3), (4, .int x4), (5, .int x5), (6, .int x6)]) : W p l e ({ frames := 6, cells := 0, slots := 0, locals := 167 } : Room) s m args below meth c H locs 0 0 (MQ below (zQv D (zOwn B K (B + n)) B n K I' R) args s 0 0 (zOwn B K (B + n))) (F0 m 149 ls [.int s1, zrf B s0]) := by
  unfold f_X7_lays_149 at hf
  refine lv_iconst (v := 0) X.1 X.2.1 dX7_lays_149 (by decide) ?_
  exact w_X7_lays_150 X hr hlk hK0 hk10 hk44 hf hW hl
set_option maxRecDepth 100000 in
set_option maxHeartbeats 4000000 in
theorem w_X7_lays_145 {F : Nat} {a0 : Nat} {k10 : zI → Int32 → Int32 → Int32 → Option (zI)} {k44 : zI → Int32 → Int32 → Int32 → Int32 → Int32 → Option (zI)} (X : zX p s m c cX7_lays 11 RX7 D) (hr : meth.sig.returnType = none) (hlk : meth.locks = false) (hK0 : (K a0).1 = 17) (hk10 : ∀ (I : zI) (x2 : Int32) (x3 : Int32) (x4 : Int32) (H : Heap) (locs : List Loc) (ls : Array Slot), k10 I x2 x3 x4 = some I' → zS (zOwn B K (B + n)) D B n K I R s.heap H locs → lv_has ls 11 [(0, .ref (B + a0)), (2, .int x2), (3, .int x3), (4, .int x4)] → W p l e ({ frames := 6, cells := 0, slots := 0, locals := 167 } : Room) s m args below meth c H locs 0 0 (MQ below (zQv D (zOwn B K (B + n)) B n K I' R) args s 0 0 (zOwn B K (B + n))) (F0 m 10 ls [])) (hk44 : ∀ (I : zI) (x2 : Int32) (x3 : Int32) (x4 : Int32) (x5 : Int32) (x6 : Int32) (H : Heap) (locs : List Loc) (ls : Array Slot), k44 I x2 x3 x4 x5 x6 = some I' → zS (zOwn B K (B + n)) D B n K I R s.heap H locs → lv_has ls 11 [(0, .ref (B + a0)), (2, .int x2), (3, .int x3), (4, .int x4), (5, .int x5), (6, .int x6)] → W p l e ({ frames := 6, cells := 0, slots := 0, locals := 167 } : Room) s m args below meth c H locs 0 0 (MQ below (zQv D (zOwn B K (B + n)) B n K I' R) args s 0 0 (zOwn B K (B + n))) (F0 m 44 ls [])) {x2 : Int32} {x3 : Int32} {x4 : Int32} {x5 : Int32} {x6 : Int32} {s0 : Option Nat} {s1 : Int32} (hf : f_X7_lays_145 F K R a0 k10 k44 I x2 x3 x4 x5 x6 s0 s1 = some I') (hW : zS (zOwn B K (B + n)) D B n K I R s.heap H locs) (hl : lv_has ls 11 [(0, .ref (B + a0)), (2, .int x2), (3, .int x3), (4, .int x4), (5, .int x5), (6, .int x6)]) : W p l e ({ frames := 6, cells := 0, slots := 0, locals := 167 } : Room) s m args below meth c H locs 0 0 (MQ below (zQv D (zOwn B K (B + n)) B n K I' R) args s 0 0 (zOwn B K (B + n))) (F0 m 145 ls [.int s1, zrf B s0]) := by
  unfold f_X7_lays_145 at hf
  refine lv_iconst (v := 1) X.1 X.2.1 dX7_lays_145 (by decide) ?_
  refine lv_goto (tgt := 150) X.1 X.2.1 dX7_lays_146 (by decide) ?_
  exact w_X7_lays_150 X hr hlk hK0 hk10 hk44 hf hW hl
set_option maxRecDepth 100000 in
set_option maxHeartbeats 4000000 in
theorem w_X7_lays_106 {F : Nat} {a0 : Nat} {k10 : zI → Int32 → Int32 → Int32 → Option (zI)} {k44 : zI → Int32 → Int32 → Int32 → Int32 → Int32 → Option (zI)} (X : zX p s m c cX7_lays 11 RX7 D) (hr : meth.sig.returnType = none) (hlk : meth.locks = false) (hK0 : (K a0).1 = 17) (hk10 : ∀ (I : zI) (x2 : Int32) (x3 : Int32) (x4 : Int32) (H : Heap) (locs : List Loc) (ls : Array Slot), k10 I x2 x3 x4 = some I' → zS (zOwn B K (B + n)) D B n K I R s.heap H locs → lv_has ls 11 [(0, .ref (B + a0)), (2, .int x2), (3, .int x3), (4, .int x4)] → W p l e ({ frames := 6, cells := 0, slots := 0, locals := 167 } : Room) s m args below meth c H locs 0 0 (MQ below (zQv D (zOwn B K (B + n)) B n K I' R) args s 0 0 (zOwn B K (B + n))) (F0 m 10 ls [])) (hk44 : ∀ (I : zI) (x2 : Int32) (x3 : Int32) (x4 : Int32) (x5 : Int32) (x6 : Int32) (H : Heap) (locs : List Loc) (ls : Array Slot), k44 I x2 x3 x4 x5 x6 = some I' → zS (zOwn B K (B + n)) D B n K I R s.heap H locs → lv_has ls 11 [(0, .ref (B + a0)), (2, .int x2), (3, .int x3), (4, .int x4), (5, .int x5), (6, .int x6)] → W p l e ({ frames := 6, cells := 0, slots := 0, locals := 167 } : Room) s m args below meth c H locs 0 0 (MQ below (zQv D (zOwn B K (B + n)) B n K I' R) args s 0 0 (zOwn B K (B + n))) (F0 m 44 ls [])) {x2 : Int32} {x3 : Int32} {x4 : Int32} {x5 : Int32} {x6 : Int32} {s0 : Int32} (hf : f_X7_lays_106 F K R a0 k10 k44 I x2 x3 x4 x5 x6 s0 = some I') (hW : zS (zOwn B K (B + n)) D B n K I R s.heap H locs) (hl : lv_has ls 11 [(0, .ref (B + a0)), (2, .int x2), (3, .int x3), (4, .int x4), (5, .int x5), (6, .int x6)]) : W p l e ({ frames := 6, cells := 0, slots := 0, locals := 167 } : Room) s m args below meth c H locs 0 0 (MQ below (zQv D (zOwn B K (B + n)) B n K I' R) args s 0 0 (zOwn B K (B + n))) (F0 m 106 ls [.int s0]) := by
  unfold f_X7_lays_106 at hf
  refine lv_istore (lv' := [(7, .int s0), (0, .ref (B + a0)), (2, .int x2), (3, .int x3), (4, .int x4), (5, .int x5), (6, .int x6)]) X.1 X.2.1 dX7_lays_106 hl (by decide) rfl (fun ls hk => ?_)
  replace hl := hk
  refine lv_aload_n X.1 X.2.1 dX7_lays_108 rfl (lv_at hl 1 rfl) ?_
  refine ze_gtR X 7 33 90 (RX7, TX7, 39) rfl hf hW hK0 rfl (by decide) kfl_X7_90 dX7_lays_109 (fun o124 hg => ?_)
  replace hf := hg
  refine lv_bipush (v := 10) X.1 X.2.1 dX7_lays_112 (by decide) ?_
  refine lv_iload X.1 X.2.1 dX7_lays_114 (lv_at hl 4 rfl) ?_
  refine lv_imul X.1 X.2.1 dX7_lays_116 ?_
  refine lv_iload X.1 X.2.1 dX7_lays_117 (lv_at hl 6 rfl) ?_
  refine lv_iadd X.1 X.2.1 dX7_lays_119 ?_
  refine lv_iload X.1 X.2.1 dX7_lays_120 (lv_at hl 0 rfl) ?_
  refine lv_if_eq (tgt := 149) X.1 X.2.1 dX7_lays_122 (by decide) (fun c125 => ?_) (fun c125 => ?_)
  · replace hf := zif_pos c125 hf
    exact w_X7_lays_149 X hr hlk hK0 hk10 hk44 hf hW (lv_sub hl [1, 2, 3, 4, 5, 6] rfl)
  · replace hf := zif_neg c125 hf
    refine lv_iload_n X.1 X.2.1 dX7_lays_125 rfl (lv_at hl 3 rfl) ?_
    refine lv_if_ne (tgt := 145) X.1 X.2.1 dX7_lays_126 (by decide) (fun c126 => ?_) (fun c126 => ?_)
    · replace hf := zif_neg c126 hf
      exact w_X7_lays_145 X hr hlk hK0 hk10 hk44 hf hW (lv_sub hl [1, 2, 3, 4, 5, 6] rfl)
    · replace hf := zif_pos c126 hf
      refine lv_aload_n X.1 X.2.1 dX7_lays_129 rfl (lv_at hl 1 rfl) ?_
      refine ze_gtR X 7 33 90 (RX7, TX7, 39) rfl hf hW hK0 rfl (by decide) kfl_X7_90 dX7_lays_130 (fun o127 hg => ?_)
      replace hf := hg
      refine lv_bipush (v := 10) X.1 X.2.1 dX7_lays_133 (by decide) ?_
      refine lv_iload X.1 X.2.1 dX7_lays_135 (lv_at hl 4 rfl) ?_
      refine lv_imul X.1 X.2.1 dX7_lays_137 ?_
      refine lv_iload X.1 X.2.1 dX7_lays_138 (lv_at hl 6 rfl) ?_
      refine lv_iadd X.1 X.2.1 dX7_lays_140 ?_
      obtain ⟨a128, rfl, k130, hg⟩ := zh_dr hf
      replace hf := hg
      refine ze_zald X hf hW k130 dX7_lays_141 (fun v131 hg => ?_)
      replace hf := hg
      refine lv_if_eq (tgt := 149) X.1 X.2.1 dX7_lays_142 (by decide) (fun c132 => ?_) (fun c132 => ?_)
      · replace hf := zif_pos c132 hf
        exact w_X7_lays_149 X hr hlk hK0 hk10 hk44 hf hW (lv_sub hl [1, 2, 3, 4, 5, 6] rfl)
      · replace hf := zif_neg c132 hf
        exact w_X7_lays_145 X hr hlk hK0 hk10 hk44 hf hW (lv_sub hl [1, 2, 3, 4, 5, 6] rfl)
set_option maxRecDepth 100000 in
set_option maxHeartbeats 4000000 in
theorem w_X7_lays_105 {F : Nat} {a0 : Nat} {k10 : zI → Int32 → Int32 → Int32 → Option (zI)} {k44 : zI → Int32 → Int32 → Int32 → Int32 → Int32 → Option (zI)} (X : zX p s m c cX7_lays 11 RX7 D) (hr : meth.sig.returnType = none) (hlk : meth.locks = false) (hK0 : (K a0).1 = 17) (hk10 : ∀ (I : zI) (x2 : Int32) (x3 : Int32) (x4 : Int32) (H : Heap) (locs : List Loc) (ls : Array Slot), k10 I x2 x3 x4 = some I' → zS (zOwn B K (B + n)) D B n K I R s.heap H locs → lv_has ls 11 [(0, .ref (B + a0)), (2, .int x2), (3, .int x3), (4, .int x4)] → W p l e ({ frames := 6, cells := 0, slots := 0, locals := 167 } : Room) s m args below meth c H locs 0 0 (MQ below (zQv D (zOwn B K (B + n)) B n K I' R) args s 0 0 (zOwn B K (B + n))) (F0 m 10 ls [])) (hk44 : ∀ (I : zI) (x2 : Int32) (x3 : Int32) (x4 : Int32) (x5 : Int32) (x6 : Int32) (H : Heap) (locs : List Loc) (ls : Array Slot), k44 I x2 x3 x4 x5 x6 = some I' → zS (zOwn B K (B + n)) D B n K I R s.heap H locs → lv_has ls 11 [(0, .ref (B + a0)), (2, .int x2), (3, .int x3), (4, .int x4), (5, .int x5), (6, .int x6)] → W p l e ({ frames := 6, cells := 0, slots := 0, locals := 167 } : Room) s m args below meth c H locs 0 0 (MQ below (zQv D (zOwn B K (B + n)) B n K I' R) args s 0 0 (zOwn B K (B + n))) (F0 m 44 ls [])) {x2 : Int32} {x3 : Int32} {x4 : Int32} {x5 : Int32} {x6 : Int32} (hf : f_X7_lays_105 F K R a0 k10 k44 I x2 x3 x4 x5 x6 = some I') (hW : zS (zOwn B K (B + n)) D B n K I R s.heap H locs) (hl : lv_has ls 11 [(0, .ref (B + a0)), (2, .int x2), (3, .int x3), (4, .int x4), (5, .int x5), (6, .int x6)]) : W p l e ({ frames := 6, cells := 0, slots := 0, locals := 167 } : Room) s m args below meth c H locs 0 0 (MQ below (zQv D (zOwn B K (B + n)) B n K I' R) args s 0 0 (zOwn B K (B + n))) (F0 m 105 ls []) := by
  unfold f_X7_lays_105 at hf
  refine lv_iconst (v := 0) X.1 X.2.1 dX7_lays_105 (by decide) ?_
  exact w_X7_lays_106 X hr hlk hK0 hk10 hk44 hf hW hl
set_option maxRecDepth 100000 in
set_option maxHeartbeats 4000000 in
theorem wg_X7_lays_44 {F : Nat} {a0 : Nat} {k10 : zI → Int32 → Int32 → Int32 → Option (zI)} (X : zX p s m c cX7_lays 11 RX7 D) (hr : meth.sig.returnType = none) (hlk : meth.locks = false) (hK0 : (K a0).1 = 17) (hk10 : ∀ (I : zI) (x2 : Int32) (x3 : Int32) (x4 : Int32) (H : Heap) (locs : List Loc) (ls : Array Slot), k10 I x2 x3 x4 = some I' → zS (zOwn B K (B + n)) D B n K I R s.heap H locs → lv_has ls 11 [(0, .ref (B + a0)), (2, .int x2), (3, .int x3), (4, .int x4)] → W p l e ({ frames := 6, cells := 0, slots := 0, locals := 167 } : Room) s m args below meth c H locs 0 0 (MQ below (zQv D (zOwn B K (B + n)) B n K I' R) args s 0 0 (zOwn B K (B + n))) (F0 m 10 ls [])) {kself : zI → Int32 → Int32 → Int32 → Int32 → Int32 → Option (zI)} (hkself : ∀ (I : zI) (x2 : Int32) (x3 : Int32) (x4 : Int32) (x5 : Int32) (x6 : Int32) (H : Heap) (locs : List Loc) (ls : Array Slot), kself I x2 x3 x4 x5 x6 = some I' → zS (zOwn B K (B + n)) D B n K I R s.heap H locs → lv_has ls 11 [(0, .ref (B + a0)), (2, .int x2), (3, .int x3), (4, .int x4), (5, .int x5), (6, .int x6)] → W p l e ({ frames := 6, cells := 0, slots := 0, locals := 167 } : Room) s m args below meth c H locs 0 0 (MQ below (zQv D (zOwn B K (B + n)) B n K I' R) args s 0 0 (zOwn B K (B + n))) (F0 m 44 ls [])) {x2 : Int32} {x3 : Int32} {x4 : Int32} {x5 : Int32} {x6 : Int32} (hf : g_X7_lays_44 F K R a0 k10 kself I x2 x3 x4 x5 x6 = some I') (hW : zS (zOwn B K (B + n)) D B n K I R s.heap H locs) (hl : lv_has ls 11 [(0, .ref (B + a0)), (2, .int x2), (3, .int x3), (4, .int x4), (5, .int x5), (6, .int x6)]) : W p l e ({ frames := 6, cells := 0, slots := 0, locals := 167 } : Room) s m args below meth c H locs 0 0 (MQ below (zQv D (zOwn B K (B + n)) B n K I' R) args s 0 0 (zOwn B K (B + n))) (F0 m 44 ls []) := by
  unfold g_X7_lays_44 at hf
  refine lv_iload X.1 X.2.1 dX7_lays_44 (lv_at hl 5 rfl) ?_
  refine lv_bipush (v := 10) X.1 X.2.1 dX7_lays_46 (by decide) ?_
  refine lv_icmp_ge (tgt := 157) X.1 X.2.1 dX7_lays_48 (by decide) (fun c133 => ?_) (fun c133 => ?_)
  · replace hf := zif_pos c133 hf
    refine lv_iload X.1 X.2.1 dX7_lays_157 (lv_at hl 4 rfl) ?_
    refine lv_iconst (v := 1) X.1 X.2.1 dX7_lays_159 (by decide) ?_
    refine lv_icmp_ne (tgt := 199) X.1 X.2.1 dX7_lays_160 (by decide) (fun c134 => ?_) (fun c134 => ?_)
    · replace hf := zif_neg c134 hf
      exact w_X7_lays_199 X hr hlk hK0 hk10 hf hW (lv_sub hl [0, 1, 2, 3, 4] rfl)
    · replace hf := zif_pos c134 hf
      refine lv_aload_n X.1 X.2.1 dX7_lays_163 rfl (lv_at hl 0 rfl) ?_
      refine lv_iload_n X.1 X.2.1 dX7_lays_164 rfl (lv_at hl 1 rfl) ?_
      refine lv_aload_n X.1 X.2.1 dX7_lays_165 rfl (lv_at hl 0 rfl) ?_
      refine ze_gtR X 7 30 81 (RX7, TX7, 39) rfl hf hW hK0 rfl (by decide) kfl_X7_81 dX7_lays_166 (fun o135 hg => ?_)
      replace hf := hg
      refine lv_iload X.1 X.2.1 dX7_lays_169 (lv_at hl 3 rfl) ?_
      obtain ⟨a136, rfl, k138, hg⟩ := zh_dr hf
      replace hf := hg
      refine ze_iald X hf hW k138 dX7_lays_171 (fun v139 hg => ?_)
      replace hf := hg
      obtain ⟨v140, h141, hg⟩ := zh_bd hf
      replace hf := hg
      refine ze_aftI0 (ze_runV (As := [.int x2, .int v139]) (rest := []) X 7 119 (c_X7_sort l D B n hK0 h141) vX7_sort kml_X7_119 hW hK0 rfl rfl ⟨by decide, by decide⟩ rfl hl.1 rfl (Nat.le_of_ble_eq_true rfl) ⟨Nat.le_refl _, Nat.le_refl _⟩ dX7_lays_172) hW (fun H locs hV => ?_)
      replace hW := hV
      refine lv_if_ne (tgt := 199) X.1 X.2.1 dX7_lays_175 (by decide) (fun c142 => ?_) (fun c142 => ?_)
      · replace hf := zif_neg c142 hf
        exact w_X7_lays_199 X hr hlk hK0 hk10 hf hW (lv_sub hl [0, 1, 2, 3, 4] rfl)
      · replace hf := zif_pos c142 hf
        refine lv_aload_n X.1 X.2.1 dX7_lays_178 rfl (lv_at hl 0 rfl) ?_
        refine lv_iload_n X.1 X.2.1 dX7_lays_179 rfl (lv_at hl 1 rfl) ?_
        refine lv_aload_n X.1 X.2.1 dX7_lays_180 rfl (lv_at hl 0 rfl) ?_
        refine ze_gtR X 7 30 81 (RX7, TX7, 39) rfl hf hW hK0 rfl (by decide) kfl_X7_81 dX7_lays_181 (fun o143 hg => ?_)
        replace hf := hg
        refine lv_iload X.1 X.2.1 dX7_lays_184 (lv_at hl 3 rfl) ?_
        obtain ⟨a144, rfl, k146, hg⟩ := zh_dr hf
        replace hf := hg
        refine ze_iald X hf hW k146 dX7_lays_186 (fun v147 hg => ?_)
        replace hf := hg
        refine lv_aload_n X.1 X.2.1 dX7_lays_187 rfl (lv_at hl 0 rfl) ?_
        refine ze_gtR X 7 6 23 (RX7, TX7, 39) rfl hf hW hK0 rfl (by decide) kfl_X7_23 dX7_lays_188 (fun o148 hg => ?_)
        replace hf := hg
        obtain ⟨v149, h150, hg⟩ := zh_bd hf
        replace hf := hg
        refine ze_aftI0 (ze_runV (As := [.int x2, .int v147, zrf B o148]) (rest := []) X 7 172 (c_X7_sequenceOf l D B n hK0 h150) vX7_sequenceOf kml_X7_172 hW hK0 rfl rfl ⟨by decide, by decide⟩ rfl hl.1 rfl (Nat.le_of_ble_eq_true rfl) ⟨Nat.le_refl _, Nat.le_refl _⟩ dX7_lays_191) hW (fun H locs hV => ?_)
        replace hW := hV
        refine lv_bipush (v := -9) X.1 X.2.1 dX7_lays_194 (by decide) ?_
        refine lv_icmp_eq (tgt := 220) X.1 X.2.1 dX7_lays_196 (by decide) (fun c151 => ?_) (fun c151 => ?_)
        · replace hf := zif_pos c151 hf
          exact w_X7_lays_220 X hr hlk hK0 hk10 hf hW (lv_sub hl [0, 1, 2, 3, 4] rfl)
        · replace hf := zif_neg c151 hf
          exact w_X7_lays_199 X hr hlk hK0 hk10 hf hW (lv_sub hl [0, 1, 2, 3, 4] rfl)
  · replace hf := zif_neg c133 hf
    refine lv_iload X.1 X.2.1 dX7_lays_51 (lv_at hl 5 rfl) ?_
    refine lv_iload X.1 X.2.1 dX7_lays_53 (lv_at hl 3 rfl) ?_
    refine lv_icmp_eq (tgt := 105) X.1 X.2.1 dX7_lays_55 (by decide) (fun c152 => ?_) (fun c152 => ?_)
    · replace hf := zif_pos c152 hf
      exact w_X7_lays_105 X hr hlk hK0 hk10 hkself hf hW hl
    · replace hf := zif_neg c152 hf
      refine lv_iload X.1 X.2.1 dX7_lays_58 (lv_at hl 4 rfl) ?_
      refine lv_bipush (v := -9) X.1 X.2.1 dX7_lays_60 (by decide) ?_
      refine lv_icmp_eq (tgt := 105) X.1 X.2.1 dX7_lays_62 (by decide) (fun c153 => ?_) (fun c153 => ?_)
      · replace hf := zif_pos c153 hf
        exact w_X7_lays_105 X hr hlk hK0 hk10 hkself hf hW hl
      · replace hf := zif_neg c153 hf
        refine lv_aload_n X.1 X.2.1 dX7_lays_65 rfl (lv_at hl 0 rfl) ?_
        refine ze_gtR X 7 31 84 (RX7, TX7, 39) rfl hf hW hK0 rfl (by decide) kfl_X7_84 dX7_lays_66 (fun o154 hg => ?_)
        replace hf := hg
        refine lv_iload X.1 X.2.1 dX7_lays_69 (lv_at hl 5 rfl) ?_
        obtain ⟨a155, rfl, k157, hg⟩ := zh_dr hf
        replace hf := hg
        refine ze_iald X hf hW k157 dX7_lays_71 (fun v158 hg => ?_)
        replace hf := hg
        refine lv_if_lt (tgt := 105) X.1 X.2.1 dX7_lays_72 (by decide) (fun c159 => ?_) (fun c159 => ?_)
        · replace hf := zif_pos c159 hf
          exact w_X7_lays_105 X hr hlk hK0 hk10 hkself hf hW hl
        · replace hf := zif_neg c159 hf
          refine lv_aload_n X.1 X.2.1 dX7_lays_75 rfl (lv_at hl 0 rfl) ?_
          refine ze_gtR X 7 17 45 (RX7, TX7, 39) rfl hf hW hK0 rfl (by decide) kfl_X7_45 dX7_lays_76 (fun o160 hg => ?_)
          replace hf := hg
          refine lv_iload X.1 X.2.1 dX7_lays_79 (lv_at hl 5 rfl) ?_
          obtain ⟨a161, rfl, k163, hg⟩ := zh_dr hf
          replace hf := hg
          refine ze_iald X hf hW k163 dX7_lays_81 (fun v164 hg => ?_)
          replace hf := hg
          refine lv_iload X.1 X.2.1 dX7_lays_82 (lv_at hl 4 rfl) ?_
          refine lv_icmp_ne (tgt := 105) X.1 X.2.1 dX7_lays_84 (by decide) (fun c165 => ?_) (fun c165 => ?_)
          · replace hf := zif_neg c165 hf
            exact w_X7_lays_105 X hr hlk hK0 hk10 hkself hf hW hl
          · replace hf := zif_pos c165 hf
            refine lv_aload_n X.1 X.2.1 dX7_lays_87 rfl (lv_at hl 0 rfl) ?_
            refine lv_iload_n X.1 X.2.1 dX7_lays_88 rfl (lv_at hl 1 rfl) ?_
            refine lv_iload X.1 X.2.1 dX7_lays_89 (lv_at hl 3 rfl) ?_
            refine lv_iload X.1 X.2.1 dX7_lays_91 (lv_at hl 5 rfl) ?_
            refine lv_iload X.1 X.2.1 dX7_lays_93 (lv_at hl 4 rfl) ?_
            obtain ⟨v166, h167, hg⟩ := zh_bd hf
            replace hf := hg
            refine ze_aftI0 (ze_runV (As := [.int x2, .int x4, .int x6, .int x5]) (rest := []) X 7 280 (c_X7_isLike l D B n hK0 h167) vX7_isLike kml_X7_280 hW hK0 rfl rfl ⟨by decide, by decide⟩ rfl hl.1 rfl (Nat.le_of_ble_eq_true rfl) ⟨Nat.le_refl _, Nat.le_refl _⟩ dX7_lays_95) hW (fun H locs hV => ?_)
            replace hW := hV
            refine lv_if_eq (tgt := 105) X.1 X.2.1 dX7_lays_98 (by decide) (fun c168 => ?_) (fun c168 => ?_)
            · replace hf := zif_pos c168 hf
              exact w_X7_lays_105 X hr hlk hK0 hk10 hkself hf hW hl
            · replace hf := zif_neg c168 hf
              refine lv_iconst (v := 1) X.1 X.2.1 dX7_lays_101 (by decide) ?_
              refine lv_goto (tgt := 106) X.1 X.2.1 dX7_lays_102 (by decide) ?_
              exact w_X7_lays_106 X hr hlk hK0 hk10 hkself hf hW hl
set_option maxRecDepth 100000 in
set_option maxHeartbeats 4000000 in
theorem w_X7_lays_44 {F : Nat} {a0 : Nat} {k10 : zI → Int32 → Int32 → Int32 → Option (zI)} (X : zX p s m c cX7_lays 11 RX7 D) (hr : meth.sig.returnType = none) (hlk : meth.locks = false) (hK0 : (K a0).1 = 17) (hk10 : ∀ (I : zI) (x2 : Int32) (x3 : Int32) (x4 : Int32) (H : Heap) (locs : List Loc) (ls : Array Slot), k10 I x2 x3 x4 = some I' → zS (zOwn B K (B + n)) D B n K I R s.heap H locs → lv_has ls 11 [(0, .ref (B + a0)), (2, .int x2), (3, .int x3), (4, .int x4)] → W p l e ({ frames := 6, cells := 0, slots := 0, locals := 167 } : Room) s m args below meth c H locs 0 0 (MQ below (zQv D (zOwn B K (B + n)) B n K I' R) args s 0 0 (zOwn B K (B + n))) (F0 m 10 ls [])) {t : Nat} {x2 : Int32} {x3 : Int32} {x4 : Int32} {x5 : Int32} {x6 : Int32} (hf : f_X7_lays_44 F K R a0 k10 t I x2 x3 x4 x5 x6 = some I') (hW : zS (zOwn B K (B + n)) D B n K I R s.heap H locs) (hl : lv_has ls 11 [(0, .ref (B + a0)), (2, .int x2), (3, .int x3), (4, .int x4), (5, .int x5), (6, .int x6)]) : W p l e ({ frames := 6, cells := 0, slots := 0, locals := 167 } : Room) s m args below meth c H locs 0 0 (MQ below (zQv D (zOwn B K (B + n)) B n K I' R) args s 0 0 (zOwn B K (B + n))) (F0 m 44 ls []) := by
  have key : ∀ t : Nat, ∀ (I : zI) (x2 : Int32) (x3 : Int32) (x4 : Int32) (x5 : Int32) (x6 : Int32) (H : Heap) (locs : List Loc) (ls : Array Slot), f_X7_lays_44 F K R a0 k10 t I x2 x3 x4 x5 x6 = some I' → zS (zOwn B K (B + n)) D B n K I R s.heap H locs → lv_has ls 11 [(0, .ref (B + a0)), (2, .int x2), (3, .int x3), (4, .int x4), (5, .int x5), (6, .int x6)] → W p l e ({ frames := 6, cells := 0, slots := 0, locals := 167 } : Room) s m args below meth c H locs 0 0 (MQ below (zQv D (zOwn B K (B + n)) B n K I' R) args s 0 0 (zOwn B K (B + n))) (F0 m 44 ls []) := by
    intro t
    induction t with
    | zero =>
      intro I x2 x3 x4 x5 x6 H locs ls hf hW hl
      cases hf
    | succ t ih =>
      intro I x2 x3 x4 x5 x6 H locs ls hf hW hl
      exact wg_X7_lays_44 X hr hlk hK0 hk10 ih hf hW hl
  exact key t _ _ _ _ _ _ _ _ _ hf hW hl
set_option maxRecDepth 100000 in
set_option maxHeartbeats 4000000 in
theorem w_X7_lays_39 {F : Nat} {a0 : Nat} {k10 : zI → Int32 → Int32 → Int32 → Option (zI)} (X : zX p s m c cX7_lays 11 RX7 D) (hr : meth.sig.returnType = none) (hlk : meth.locks = false) (hK0 : (K a0).1 = 17) (hk10 : ∀ (I : zI) (x2 : Int32) (x3 : Int32) (x4 : Int32) (H : Heap) (locs : List Loc) (ls : Array Slot), k10 I x2 x3 x4 = some I' → zS (zOwn B K (B + n)) D B n K I R s.heap H locs → lv_has ls 11 [(0, .ref (B + a0)), (2, .int x2), (3, .int x3), (4, .int x4)] → W p l e ({ frames := 6, cells := 0, slots := 0, locals := 167 } : Room) s m args below meth c H locs 0 0 (MQ below (zQv D (zOwn B K (B + n)) B n K I' R) args s 0 0 (zOwn B K (B + n))) (F0 m 10 ls [])) {x2 : Int32} {x3 : Int32} {x4 : Int32} {s0 : Int32} (hf : f_X7_lays_39 F K R a0 k10 I x2 x3 x4 s0 = some I') (hW : zS (zOwn B K (B + n)) D B n K I R s.heap H locs) (hl : lv_has ls 11 [(0, .ref (B + a0)), (2, .int x2), (3, .int x3), (4, .int x4)]) : W p l e ({ frames := 6, cells := 0, slots := 0, locals := 167 } : Room) s m args below meth c H locs 0 0 (MQ below (zQv D (zOwn B K (B + n)) B n K I' R) args s 0 0 (zOwn B K (B + n))) (F0 m 39 ls [.int s0]) := by
  unfold f_X7_lays_39 at hf
  refine lv_istore (lv' := [(5, .int s0), (0, .ref (B + a0)), (2, .int x2), (3, .int x3), (4, .int x4)]) X.1 X.2.1 dX7_lays_39 hl (by decide) rfl (fun ls hk => ?_)
  replace hl := hk
  refine lv_iconst (v := 0) X.1 X.2.1 dX7_lays_41 (by decide) ?_
  refine lv_istore (lv' := [(6, .int (0 : Int32)), (5, .int s0), (0, .ref (B + a0)), (2, .int x2), (3, .int x3), (4, .int x4)]) X.1 X.2.1 dX7_lays_42 hl (by decide) rfl (fun ls hk => ?_)
  replace hl := hk
  exact w_X7_lays_44 X hr hlk hK0 hk10 hf hW (lv_sub hl [2, 3, 4, 5, 1, 0] rfl)
set_option maxRecDepth 100000 in
set_option maxHeartbeats 4000000 in
theorem wg_X7_lays_10 {F : Nat} {a0 : Nat}  (X : zX p s m c cX7_lays 11 RX7 D) (hr : meth.sig.returnType = none) (hlk : meth.locks = false) (hK0 : (K a0).1 = 17)  {kself : zI → Int32 → Int32 → Int32 → Option (zI)} (hkself : ∀ (I : zI) (x2 : Int32) (x3 : Int32) (x4 : Int32) (H : Heap) (locs : List Loc) (ls : Array Slot), kself I x2 x3 x4 = some I' → zS (zOwn B K (B + n)) D B n K I R s.heap H locs → lv_has ls 11 [(0, .ref (B + a0)), (2, .int x2), (3, .int x3), (4, .int x4)] → W p l e ({ frames := 6, cells := 0, slots := 0, locals := 167 } : Room) s m args below meth c H locs 0 0 (MQ below (zQv D (zOwn B K (B + n)) B n K I' R) args s 0 0 (zOwn B K (B + n))) (F0 m 10 ls [])) {x2 : Int32} {x3 : Int32} {x4 : Int32} (hf : g_X7_lays_10 F K R a0  kself I x2 x3 x4 = some I') (hW : zS (zOwn B K (B + n)) D B n K I R s.heap H locs) (hl : lv_has ls 11 [(0, .ref (B + a0)), (2, .int x2), (3, .int x3), (4, .int x4)]) : W p l e ({ frames := 6, cells := 0, slots := 0, locals := 167 } : Room) s m args below meth c H locs 0 0 (MQ below (zQv D (zOwn B K (B + n)) B n K I' R) args s 0 0 (zOwn B K (B + n))) (F0 m 10 ls []) := by
  unfold g_X7_lays_10 at hf
  refine lv_iload X.1 X.2.1 dX7_lays_10 (lv_at hl 3 rfl) ?_
  refine lv_bipush (v := 10) X.1 X.2.1 dX7_lays_12 (by decide) ?_
  refine lv_icmp_ge (tgt := 512) X.1 X.2.1 dX7_lays_14 (by decide) (fun c169 => ?_) (fun c169 => ?_)
  · replace hf := zif_pos c169 hf
    obtain rfl := zi1 hf
    exact ze_retV X hr hlk hW (Nat.le_refl _) (Nat.le_refl _) dX7_lays_512
  · replace hf := zif_neg c169 hf
    refine lv_aload_n X.1 X.2.1 dX7_lays_17 rfl (lv_at hl 0 rfl) ?_
    refine ze_gtR X 7 31 84 (RX7, TX7, 39) rfl hf hW hK0 rfl (by decide) kfl_X7_84 dX7_lays_18 (fun o170 hg => ?_)
    replace hf := hg
    refine lv_iload X.1 X.2.1 dX7_lays_21 (lv_at hl 3 rfl) ?_
    obtain ⟨a171, rfl, k173, hg⟩ := zh_dr hf
    replace hf := hg
    refine ze_iald X hf hW k173 dX7_lays_23 (fun v174 hg => ?_)
    replace hf := hg
    refine lv_if_ge (tgt := 32) X.1 X.2.1 dX7_lays_24 (by decide) (fun c175 => ?_) (fun c175 => ?_)
    · replace hf := zif_pos c175 hf
      refine lv_aload_n X.1 X.2.1 dX7_lays_32 rfl (lv_at hl 0 rfl) ?_
      refine ze_gtR X 7 17 45 (RX7, TX7, 39) rfl hf hW hK0 rfl (by decide) kfl_X7_45 dX7_lays_33 (fun o176 hg => ?_)
      replace hf := hg
      refine lv_iload X.1 X.2.1 dX7_lays_36 (lv_at hl 3 rfl) ?_
      obtain ⟨a177, rfl, k179, hg⟩ := zh_dr hf
      replace hf := hg
      refine ze_iald X hf hW k179 dX7_lays_38 (fun v180 hg => ?_)
      replace hf := hg
      exact w_X7_lays_39 X hr hlk hK0 hkself hf hW hl
    · replace hf := zif_neg c175 hf
      refine lv_bipush (v := -9) X.1 X.2.1 dX7_lays_27 (by decide) ?_
      refine lv_goto (tgt := 39) X.1 X.2.1 dX7_lays_29 (by decide) ?_
      exact w_X7_lays_39 X hr hlk hK0 hkself hf hW hl
set_option maxRecDepth 100000 in
set_option maxHeartbeats 4000000 in
theorem w_X7_lays_10 {F : Nat} {a0 : Nat}  (X : zX p s m c cX7_lays 11 RX7 D) (hr : meth.sig.returnType = none) (hlk : meth.locks = false) (hK0 : (K a0).1 = 17)  {t : Nat} {x2 : Int32} {x3 : Int32} {x4 : Int32} (hf : f_X7_lays_10 F K R a0  t I x2 x3 x4 = some I') (hW : zS (zOwn B K (B + n)) D B n K I R s.heap H locs) (hl : lv_has ls 11 [(0, .ref (B + a0)), (2, .int x2), (3, .int x3), (4, .int x4)]) : W p l e ({ frames := 6, cells := 0, slots := 0, locals := 167 } : Room) s m args below meth c H locs 0 0 (MQ below (zQv D (zOwn B K (B + n)) B n K I' R) args s 0 0 (zOwn B K (B + n))) (F0 m 10 ls []) := by
  have key : ∀ t : Nat, ∀ (I : zI) (x2 : Int32) (x3 : Int32) (x4 : Int32) (H : Heap) (locs : List Loc) (ls : Array Slot), f_X7_lays_10 F K R a0  t I x2 x3 x4 = some I' → zS (zOwn B K (B + n)) D B n K I R s.heap H locs → lv_has ls 11 [(0, .ref (B + a0)), (2, .int x2), (3, .int x3), (4, .int x4)] → W p l e ({ frames := 6, cells := 0, slots := 0, locals := 167 } : Room) s m args below meth c H locs 0 0 (MQ below (zQv D (zOwn B K (B + n)) B n K I' R) args s 0 0 (zOwn B K (B + n))) (F0 m 10 ls []) := by
    intro t
    induction t with
    | zero =>
      intro I x2 x3 x4 H locs ls hf hW hl
      cases hf
    | succ t ih =>
      intro I x2 x3 x4 H locs ls hf hW hl
      exact wg_X7_lays_10 X hr hlk hK0  ih hf hW hl
  exact key t _ _ _ _ _ _ _ hf hW hl
set_option maxRecDepth 100000 in
set_option maxHeartbeats 4000000 in
theorem c_X7_lays (l : Launch) (D : zD) (B n : Nat) {F : Nat} {K : zK} {I : zI} {R : zR} {a0 : Nat} {x1 : Int32} {x2 : Int32} {x3 : Int32} {I' : zI} (hK0 : (K a0).1 = 17) (hf : f_X7_lays F K I R a0 x1 x2 x3 = some I') : zM l yX7_lays cX7_lays 11 (none) ({ frames := 6, cells := 0, slots := 0, locals := 167 } : Room) D B n K I R [.ref (B + a0), .int x1, .int x2, .int x3] (zQv D (zOwn B K (B + n)) B n K I' R) := by
  refine ze_entry (lv0 := [(0, .ref (B + a0)), (1, .int x1), (2, .int x2), (3, .int x3)]) (by decide) (by simp [lg_sl, zcat, zcat_i, zcat_r, zcat_l]) (by simp [lv_args, zcat, zcat_i, zcat_r, zcat_l]) (fun p e s m below meth c X hr hlk hin hW ls hl => ?_)
  unfold f_X7_lays at hf
  refine lv_aload_n X.1 X.2.1 dX7_lays_0 rfl (lv_at hl 0 rfl) ?_
  refine lv_iload_n X.1 X.2.1 dX7_lays_1 rfl (lv_at hl 1 rfl) ?_
  refine lv_iload_n X.1 X.2.1 dX7_lays_2 rfl (lv_at hl 2 rfl) ?_
  obtain ⟨v181, I182, h183, hg⟩ := zh_bd2 hf
  replace hf := hg
  refine ze_aftI0 (ze_runV (As := [.int x1, .int x2]) (rest := []) X 7 274 (c_X7_matches l D B n hK0 h183) vX7_matches kml_X7_274 hW hK0 rfl rfl ⟨by decide, by decide⟩ rfl hl.1 rfl (Nat.le_of_ble_eq_true rfl) ⟨Nat.le_refl _, Nat.le_refl _⟩ dX7_lays_3) hW (fun H locs hV => ?_)
  replace hW := hV
  refine lv_pop X.1 X.2.1 dX7_lays_6 rfl ?_
  refine lv_iconst (v := 0) X.1 X.2.1 dX7_lays_7 (by decide) ?_
  refine lv_istore (lv' := [(4, .int (0 : Int32)), (0, .ref (B + a0)), (1, .int x1), (2, .int x2), (3, .int x3)]) X.1 X.2.1 dX7_lays_8 hl (by decide) rfl (fun ls hk => ?_)
  replace hl := hk
  exact w_X7_lays_10 X hr hlk hK0 hf hW (lv_sub hl [1, 3, 4, 0] rfl)
end

/-! LeastPatternsModel.isLeast(III)I -/
def f_X7_isLeast_264 (F : Nat) (K : zK) (R : zR) (a0 : Nat) (k167 : zI → Int32 → Int32 → Option (Int32 × zI)) (k231 : zI → Int32 → Int32 → Int32 → Option (Int32 × zI)) (I : zI) (x6 : Int32) (x7 : Int32) (s0 : Int32) : Option (Int32 × zI) :=
  k231 I s0 x6 (x7 + (1 : Int32))
def f_X7_isLeast_263 (F : Nat) (K : zK) (R : zR) (a0 : Nat) (k167 : zI → Int32 → Int32 → Option (Int32 × zI)) (k231 : zI → Int32 → Int32 → Int32 → Option (Int32 × zI)) (I : zI) (x6 : Int32) (x7 : Int32) : Option (Int32 × zI) :=
  f_X7_isLeast_264 F K R a0 k167 k231 I x6 x7 (0 : Int32)
def g_X7_isLeast_231 (F : Nat) (K : zK) (R : zR) (a0 : Nat) (k167 : zI → Int32 → Int32 → Option (Int32 × zI)) (kself : zI → Int32 → Int32 → Int32 → Option (Int32 × zI)) (I : zI) (x5 : Int32) (x6 : Int32) (x7 : Int32) : Option (Int32 × zI) :=
  if (10 : Int32) ≤ x7 then
    k167 I x5 (x6 + (1 : Int32))
  else
    if x5 = (0 : Int32) then
      f_X7_isLeast_263 F K R a0 k167 kself I x6 x7
    else
      zbd (some (R a0 33)) fun o3 =>
      zbd (zdr K o3 2) fun a4 =>
      zbd (zrd K I a4 (((10 : Int32) * x6) + x7)) fun v7 =>
      if v7 = (0 : Int32) then
        f_X7_isLeast_264 F K R a0 k167 kself I x6 x7 (1 : Int32)
      else
        f_X7_isLeast_263 F K R a0 k167 kself I x6 x7
def f_X7_isLeast_231 (F : Nat) (K : zK) (R : zR) (a0 : Nat) (k167 : zI → Int32 → Int32 → Option (Int32 × zI)) : Nat → zI → Int32 → Int32 → Int32 → Option (Int32 × zI)
  | 0, _, _, _, _ => none
  | t + 1, I, x5, x6, x7 => g_X7_isLeast_231 F K R a0 k167 (f_X7_isLeast_231 F K R a0 k167 t) I x5 x6 x7
def f_X7_isLeast_226 (F : Nat) (K : zK) (R : zR) (a0 : Nat) (k167 : zI → Int32 → Int32 → Option (Int32 × zI)) (I : zI) (x6 : Int32) (s0 : Int32) : Option (Int32 × zI) :=
  f_X7_isLeast_231 F K R a0 k167 F I s0 x6 (0 : Int32)
def f_X7_isLeast_225 (F : Nat) (K : zK) (R : zR) (a0 : Nat) (k167 : zI → Int32 → Int32 → Option (Int32 × zI)) (I : zI) (x6 : Int32) : Option (Int32 × zI) :=
  f_X7_isLeast_226 F K R a0 k167 I x6 (0 : Int32)
def g_X7_isLeast_167 (F : Nat) (K : zK) (R : zR) (a0 : Nat)  (kself : zI → Int32 → Int32 → Option (Int32 × zI)) (I : zI) (x5 : Int32) (x6 : Int32) : Option (Int32 × zI) :=
  if (10 : Int32) ≤ x6 then
    if x5 = (0 : Int32) then
      some ((0 : Int32), I)
    else
      some ((1 : Int32), I)
  else
    if x5 = (0 : Int32) then
      f_X7_isLeast_225 F K R a0 kself I x6
    else
      zbd (some (R a0 34)) fun o12 =>
      zbd (zdr K o12 1) fun a13 =>
      zbd (zrd K I a13 x6) fun v16 =>
      if v16 = (-9 : Int32) then
        zbd (some (R a0 36)) fun o18 =>
        zbd (zdr K o18 2) fun a19 =>
        zbd (zrd K I a19 x6) fun v22 =>
        if v22 = (0 : Int32) then
          zbd (some (R a0 37)) fun o24 =>
          zbd (zdr K o24 2) fun a25 =>
          zbd (zrd K I a25 x6) fun v28 =>
          if v28 = (0 : Int32) then
            zbd (some (R a0 38)) fun o30 =>
            zbd (zdr K o30 2) fun a31 =>
            zbd (zrd K I a31 x6) fun v34 =>
            if v34 = (0 : Int32) then
              f_X7_isLeast_226 F K R a0 kself I x6 (1 : Int32)
            else
              f_X7_isLeast_225 F K R a0 kself I x6
          else
            f_X7_isLeast_225 F K R a0 kself I x6
        else
          f_X7_isLeast_225 F K R a0 kself I x6
      else
        f_X7_isLeast_225 F K R a0 kself I x6
def f_X7_isLeast_167 (F : Nat) (K : zK) (R : zR) (a0 : Nat)  : Nat → zI → Int32 → Int32 → Option (Int32 × zI)
  | 0, _, _, _ => none
  | t + 1, I, x5, x6 => g_X7_isLeast_167 F K R a0  (f_X7_isLeast_167 F K R a0  t) I x5 x6
def f_X7_isLeast_129 (F : Nat) (K : zK) (R : zR) (a0 : Nat) (k77 : zI → Int32 → Int32 → Int32 → Int32 → Option (Int32 × zI)) (I : zI) (x1 : Int32) (x2 : Int32) (x3 : Int32) (x5 : Int32) : Option (Int32 × zI) :=
  k77 I x1 x2 x3 (x5 + (1 : Int32))
def g_X7_isLeast_77 (F : Nat) (K : zK) (R : zR) (a0 : Nat)  (kself : zI → Int32 → Int32 → Int32 → Int32 → Option (Int32 × zI)) (I : zI) (x1 : Int32) (x2 : Int32) (x3 : Int32) (x5 : Int32) : Option (Int32 × zI) :=
  zbd (some (R a0 0)) fun o36 =>
  zbd (zdr K o36 1) fun a37 =>
  zbd (zrd K I a37 ((97 : Int32) * x1)) fun v40 =>
  if v40 ≤ x5 then
    zbd (f_X7_lays F K I R a0 ((97 : Int32) * x1) ((97 : Int32) * x2) (1 : Int32)) fun I42 =>
    zbd (f_X7_lays F K I42 R a0 ((97 : Int32) * x1) ((97 : Int32) * x3) (0 : Int32)) fun I44 =>
    f_X7_isLeast_167 F K R a0 F I44 (1 : Int32) (0 : Int32)
  else
    zbd (f_X7_sort F K I R a0 ((97 : Int32) * x1) x5) fun v46 =>
    if v46 = (0 : Int32) then
      f_X7_isLeast_129 F K R a0 kself I x1 x2 x3 x5
    else
      zbd (some (R a0 17)) fun o49 =>
      zbd (f_X7_number F K I R a0 ((97 : Int32) * x1) x5) fun v50 =>
      zbd (f_X7_sort F K I R a0 ((97 : Int32) * x1) x5) fun v52 =>
      zbd (zdr K o49 1) fun a54 =>
      zbd (zwr K I a54 v50 v52) fun I57 =>
      f_X7_isLeast_129 F K R a0 kself I57 x1 x2 x3 x5
def f_X7_isLeast_77 (F : Nat) (K : zK) (R : zR) (a0 : Nat)  : Nat → zI → Int32 → Int32 → Int32 → Int32 → Option (Int32 × zI)
  | 0, _, _, _, _, _ => none
  | t + 1, I, x1, x2, x3, x5 => g_X7_isLeast_77 F K R a0  (f_X7_isLeast_77 F K R a0  t) I x1 x2 x3 x5
def f_X7_isLeast_32 (F : Nat) (K : zK) (R : zR) (a0 : Nat)  (I : zI) (x1 : Int32) (x2 : Int32) (x3 : Int32) (s0 : Int32) : Option (Int32 × zI) :=
  if s0 = (0 : Int32) then
    zbd2 (f_X7_matches F K I R a0 ((97 : Int32) * x1) ((97 : Int32) * x2)) fun v59 I60 =>
    if v59 = (0 : Int32) then
      some ((0 : Int32), I60)
    else
      zbd2 (f_X7_matches F K I60 R a0 ((97 : Int32) * x1) ((97 : Int32) * x3)) fun v63 I64 =>
      if v63 = (0 : Int32) then
        some ((0 : Int32), I64)
      else
        f_X7_isLeast_77 F K R a0 F I64 x1 x2 x3 (0 : Int32)
  else
    some (s0, I)
def f_X7_isLeast_30 (F : Nat) (K : zK) (R : zR) (a0 : Nat)  (I : zI) (x1 : Int32) (x2 : Int32) (x3 : Int32) (x4 : Int32) : Option (Int32 × zI) :=
  f_X7_isLeast_32 F K R a0 I x1 x2 x3 x4
def f_X7_isLeast (F : Nat) (K : zK) (I : zI) (R : zR) (a0 : Nat) (x1 : Int32) (x2 : Int32) (x3 : Int32) : Option (Int32 × zI) :=
  zbd (f_X7_isRegister F K I R x3) fun v67 =>
  zbd (f_X7_wrong F K I R a0 x1 x2 v67) fun v69 =>
  if v69 = (0 : Int32) then
    zbd (f_X7_isEmpty F K I R a0 x3) fun v72 =>
    if v72 = (0 : Int32) then
      f_X7_isLeast_30 F K R a0 I x1 x2 x3 v69
    else
      f_X7_isLeast_32 F K R a0 I x1 x2 x3 (-2 : Int32)
  else
    f_X7_isLeast_30 F K R a0 I x1 x2 x3 v69
section
variable {p : Program} {l : Launch} {e : Env} {s : State} {m : MethodId} {args : Array Value} {below : List Frame} {meth : Method} {c : Code} {D : zD} {B n n0 n' fd ld : Nat} {K K0 K' : zK} {I I' : zI} {R R' : zR} {H : Heap} {locs : List Loc} {ls : Array Slot} {r : Int32}
set_option maxRecDepth 100000 in
set_option maxHeartbeats 4000000 in
theorem w_X7_isLeast_264 {F : Nat} {a0 : Nat} {k167 : zI → Int32 → Int32 → Option (Int32 × zI)} {k231 : zI → Int32 → Int32 → Int32 → Option (Int32 × zI)} (X : zX p s m c cX7_isLeast 8 RX7 D) (hr : meth.sig.returnType = some .int) (hlk : meth.locks = false) (hK0 : (K a0).1 = 17) (hk167 : ∀ (I : zI) (x5 : Int32) (x6 : Int32) (H : Heap) (locs : List Loc) (ls : Array Slot), k167 I x5 x6 = some (r, I') → zS (zOwn B K (B + n)) D B n K I R s.heap H locs → lv_has ls 8 [(0, .ref (B + a0)), (5, .int x5), (6, .int x6)] → W p l e ({ frames := 7, cells := 0, slots := 0, locals := 197 } : Room) s m args below meth c H locs 0 0 (MQ below (zQi D (zOwn B K (B + n)) r B n K I' R) args s 0 0 (zOwn B K (B + n))) (F0 m 167 ls [])) (hk231 : ∀ (I : zI) (x5 : Int32) (x6 : Int32) (x7 : Int32) (H : Heap) (locs : List Loc) (ls : Array Slot), k231 I x5 x6 x7 = some (r, I') → zS (zOwn B K (B + n)) D B n K I R s.heap H locs → lv_has ls 8 [(0, .ref (B + a0)), (5, .int x5), (6, .int x6), (7, .int x7)] → W p l e ({ frames := 7, cells := 0, slots := 0, locals := 197 } : Room) s m args below meth c H locs 0 0 (MQ below (zQi D (zOwn B K (B + n)) r B n K I' R) args s 0 0 (zOwn B K (B + n))) (F0 m 231 ls [])) {x6 : Int32} {x7 : Int32} {s0 : Int32} (hf : f_X7_isLeast_264 F K R a0 k167 k231 I x6 x7 s0 = some (r, I')) (hW : zS (zOwn B K (B + n)) D B n K I R s.heap H locs) (hl : lv_has ls 8 [(0, .ref (B + a0)), (6, .int x6), (7, .int x7)]) : W p l e ({ frames := 7, cells := 0, slots := 0, locals := 197 } : Room) s m args below meth c H locs 0 0 (MQ below (zQi D (zOwn B K (B + n)) r B n K I' R) args s 0 0 (zOwn B K (B + n))) (F0 m 264 ls [.int s0]) := by
  unfold f_X7_isLeast_264 at hf
  refine lv_istore (lv' := [(5, .int s0), (0, .ref (B + a0)), (6, .int x6), (7, .int x7)]) X.1 X.2.1 dX7_isLeast_264 hl (by decide) rfl (fun ls hk => ?_)
  replace hl := hk
  refine ze_iinc (lv' := [(7, .int (x7 + (1 : Int32))), (5, .int s0), (0, .ref (B + a0)), (6, .int x6)]) (d := 1) X.1 X.2.1 dX7_isLeast_266 hl (k := 3) rfl (by decide) (by decide) rfl (fun ls hk => ?_)
  replace hl := hk
  refine lv_goto (tgt := 231) X.1 X.2.1 dX7_isLeast_269 (by decide) ?_
  exact hk231 _ _ _ _ _ _ _ hf hW (lv_sub hl [2, 1, 3, 0] rfl)
set_option maxRecDepth 100000 in
set_option maxHeartbeats 4000000 in
theorem w_X7_isLeast_263 {F : Nat} {a0 : Nat} {k167 : zI → Int32 → Int32 → Option (Int32 × zI)} {k231 : zI → Int32 → Int32 → Int32 → Option (Int32 × zI)} (X : zX p s m c cX7_isLeast 8 RX7 D) (hr : meth.sig.returnType = some .int) (hlk : meth.locks = false) (hK0 : (K a0).1 = 17) (hk167 : ∀ (I : zI) (x5 : Int32) (x6 : Int32) (H : Heap) (locs : List Loc) (ls : Array Slot), k167 I x5 x6 = some (r, I') → zS (zOwn B K (B + n)) D B n K I R s.heap H locs → lv_has ls 8 [(0, .ref (B + a0)), (5, .int x5), (6, .int x6)] → W p l e ({ frames := 7, cells := 0, slots := 0, locals := 197 } : Room) s m args below meth c H locs 0 0 (MQ below (zQi D (zOwn B K (B + n)) r B n K I' R) args s 0 0 (zOwn B K (B + n))) (F0 m 167 ls [])) (hk231 : ∀ (I : zI) (x5 : Int32) (x6 : Int32) (x7 : Int32) (H : Heap) (locs : List Loc) (ls : Array Slot), k231 I x5 x6 x7 = some (r, I') → zS (zOwn B K (B + n)) D B n K I R s.heap H locs → lv_has ls 8 [(0, .ref (B + a0)), (5, .int x5), (6, .int x6), (7, .int x7)] → W p l e ({ frames := 7, cells := 0, slots := 0, locals := 197 } : Room) s m args below meth c H locs 0 0 (MQ below (zQi D (zOwn B K (B + n)) r B n K I' R) args s 0 0 (zOwn B K (B + n))) (F0 m 231 ls [])) {x6 : Int32} {x7 : Int32} (hf : f_X7_isLeast_263 F K R a0 k167 k231 I x6 x7 = some (r, I')) (hW : zS (zOwn B K (B + n)) D B n K I R s.heap H locs) (hl : lv_has ls 8 [(0, .ref (B + a0)), (6, .int x6), (7, .int x7)]) : W p l e ({ frames := 7, cells := 0, slots := 0, locals := 197 } : Room) s m args below meth c H locs 0 0 (MQ below (zQi D (zOwn B K (B + n)) r B n K I' R) args s 0 0 (zOwn B K (B + n))) (F0 m 263 ls []) := by
  unfold f_X7_isLeast_263 at hf
  refine lv_iconst (v := 0) X.1 X.2.1 dX7_isLeast_263 (by decide) ?_
  exact w_X7_isLeast_264 X hr hlk hK0 hk167 hk231 hf hW hl
set_option maxRecDepth 100000 in
set_option maxHeartbeats 4000000 in
theorem wg_X7_isLeast_231 {F : Nat} {a0 : Nat} {k167 : zI → Int32 → Int32 → Option (Int32 × zI)} (X : zX p s m c cX7_isLeast 8 RX7 D) (hr : meth.sig.returnType = some .int) (hlk : meth.locks = false) (hK0 : (K a0).1 = 17) (hk167 : ∀ (I : zI) (x5 : Int32) (x6 : Int32) (H : Heap) (locs : List Loc) (ls : Array Slot), k167 I x5 x6 = some (r, I') → zS (zOwn B K (B + n)) D B n K I R s.heap H locs → lv_has ls 8 [(0, .ref (B + a0)), (5, .int x5), (6, .int x6)] → W p l e ({ frames := 7, cells := 0, slots := 0, locals := 197 } : Room) s m args below meth c H locs 0 0 (MQ below (zQi D (zOwn B K (B + n)) r B n K I' R) args s 0 0 (zOwn B K (B + n))) (F0 m 167 ls [])) {kself : zI → Int32 → Int32 → Int32 → Option (Int32 × zI)} (hkself : ∀ (I : zI) (x5 : Int32) (x6 : Int32) (x7 : Int32) (H : Heap) (locs : List Loc) (ls : Array Slot), kself I x5 x6 x7 = some (r, I') → zS (zOwn B K (B + n)) D B n K I R s.heap H locs → lv_has ls 8 [(0, .ref (B + a0)), (5, .int x5), (6, .int x6), (7, .int x7)] → W p l e ({ frames := 7, cells := 0, slots := 0, locals := 197 } : Room) s m args below meth c H locs 0 0 (MQ below (zQi D (zOwn B K (B + n)) r B n K I' R) args s 0 0 (zOwn B K (B + n))) (F0 m 231 ls [])) {x5 : Int32} {x6 : Int32} {x7 : Int32} (hf : g_X7_isLeast_231 F K R a0 k167 kself I x5 x6 x7 = some (r, I')) (hW : zS (zOwn B K (B + n)) D B n K I R s.heap H locs) (hl : lv_has ls 8 [(0, .ref (B + a0)), (5, .int x5), (6, .int x6), (7, .int x7)]) : W p l e ({ frames := 7, cells := 0, slots := 0, locals := 197 } : Room) s m args below meth c H locs 0 0 (MQ below (zQi D (zOwn B K (B + n)) r B n K I' R) args s 0 0 (zOwn B K (B + n))) (F0 m 231 ls []) := by
  unfold g_X7_isLeast_231 at hf
  refine lv_iload X.1 X.2.1 dX7_isLeast_231 (lv_at hl 3 rfl) ?_
  refine lv_bipush (v := 10) X.1 X.2.1 dX7_isLeast_233 (by decide) ?_
  refine lv_icmp_ge (tgt := 272) X.1 X.2.1 dX7_isLeast_235 (by decide) (fun c1 => ?_) (fun c1 => ?_)
  · replace hf := zif_pos c1 hf
    refine ze_iinc (lv' := [(6, .int (x6 + (1 : Int32))), (0, .ref (B + a0)), (5, .int x5), (7, .int x7)]) (d := 1) X.1 X.2.1 dX7_isLeast_272 hl (k := 2) rfl (by decide) (by decide) rfl (fun ls hk => ?_)
    replace hl := hk
    refine lv_goto (tgt := 167) X.1 X.2.1 dX7_isLeast_275 (by decide) ?_
    exact hk167 _ _ _ _ _ _ hf hW (lv_sub hl [1, 2, 0] rfl)
  · replace hf := zif_neg c1 hf
    refine lv_iload X.1 X.2.1 dX7_isLeast_238 (lv_at hl 1 rfl) ?_
    refine lv_if_eq (tgt := 263) X.1 X.2.1 dX7_isLeast_240 (by decide) (fun c2 => ?_) (fun c2 => ?_)
    · replace hf := zif_pos c2 hf
      exact w_X7_isLeast_263 X hr hlk hK0 hk167 hkself hf hW (lv_sub hl [0, 2, 3] rfl)
    · replace hf := zif_neg c2 hf
      refine lv_aload_n X.1 X.2.1 dX7_isLeast_243 rfl (lv_at hl 0 rfl) ?_
      refine ze_gtR X 7 33 90 (RX7, TX7, 39) rfl hf hW hK0 rfl (by decide) kfl_X7_90 dX7_isLeast_244 (fun o3 hg => ?_)
      replace hf := hg
      refine lv_bipush (v := 10) X.1 X.2.1 dX7_isLeast_247 (by decide) ?_
      refine lv_iload X.1 X.2.1 dX7_isLeast_249 (lv_at hl 2 rfl) ?_
      refine lv_imul X.1 X.2.1 dX7_isLeast_251 ?_
      refine lv_iload X.1 X.2.1 dX7_isLeast_252 (lv_at hl 3 rfl) ?_
      refine lv_iadd X.1 X.2.1 dX7_isLeast_254 ?_
      obtain ⟨a4, rfl, k6, hg⟩ := zh_dr hf
      replace hf := hg
      refine ze_zald X hf hW k6 dX7_isLeast_255 (fun v7 hg => ?_)
      replace hf := hg
      refine lv_if_ne (tgt := 263) X.1 X.2.1 dX7_isLeast_256 (by decide) (fun c8 => ?_) (fun c8 => ?_)
      · replace hf := zif_neg c8 hf
        exact w_X7_isLeast_263 X hr hlk hK0 hk167 hkself hf hW (lv_sub hl [0, 2, 3] rfl)
      · replace hf := zif_pos c8 hf
        refine lv_iconst (v := 1) X.1 X.2.1 dX7_isLeast_259 (by decide) ?_
        refine lv_goto (tgt := 264) X.1 X.2.1 dX7_isLeast_260 (by decide) ?_
        exact w_X7_isLeast_264 X hr hlk hK0 hk167 hkself hf hW (lv_sub hl [0, 2, 3] rfl)
set_option maxRecDepth 100000 in
set_option maxHeartbeats 4000000 in
theorem w_X7_isLeast_231 {F : Nat} {a0 : Nat} {k167 : zI → Int32 → Int32 → Option (Int32 × zI)} (X : zX p s m c cX7_isLeast 8 RX7 D) (hr : meth.sig.returnType = some .int) (hlk : meth.locks = false) (hK0 : (K a0).1 = 17) (hk167 : ∀ (I : zI) (x5 : Int32) (x6 : Int32) (H : Heap) (locs : List Loc) (ls : Array Slot), k167 I x5 x6 = some (r, I') → zS (zOwn B K (B + n)) D B n K I R s.heap H locs → lv_has ls 8 [(0, .ref (B + a0)), (5, .int x5), (6, .int x6)] → W p l e ({ frames := 7, cells := 0, slots := 0, locals := 197 } : Room) s m args below meth c H locs 0 0 (MQ below (zQi D (zOwn B K (B + n)) r B n K I' R) args s 0 0 (zOwn B K (B + n))) (F0 m 167 ls [])) {t : Nat} {x5 : Int32} {x6 : Int32} {x7 : Int32} (hf : f_X7_isLeast_231 F K R a0 k167 t I x5 x6 x7 = some (r, I')) (hW : zS (zOwn B K (B + n)) D B n K I R s.heap H locs) (hl : lv_has ls 8 [(0, .ref (B + a0)), (5, .int x5), (6, .int x6), (7, .int x7)]) : W p l e ({ frames := 7, cells := 0, slots := 0, locals := 197 } : Room) s m args below meth c H locs 0 0 (MQ below (zQi D (zOwn B K (B + n)) r B n K I' R) args s 0 0 (zOwn B K (B + n))) (F0 m 231 ls []) := by
  have key : ∀ t : Nat, ∀ (I : zI) (x5 : Int32) (x6 : Int32) (x7 : Int32) (H : Heap) (locs : List Loc) (ls : Array Slot), f_X7_isLeast_231 F K R a0 k167 t I x5 x6 x7 = some (r, I') → zS (zOwn B K (B + n)) D B n K I R s.heap H locs → lv_has ls 8 [(0, .ref (B + a0)), (5, .int x5), (6, .int x6), (7, .int x7)] → W p l e ({ frames := 7, cells := 0, slots := 0, locals := 197 } : Room) s m args below meth c H locs 0 0 (MQ below (zQi D (zOwn B K (B + n)) r B n K I' R) args s 0 0 (zOwn B K (B + n))) (F0 m 231 ls []) := by
    intro t
    induction t with
    | zero =>
      intro I x5 x6 x7 H locs ls hf hW hl
      cases hf
    | succ t ih =>
      intro I x5 x6 x7 H locs ls hf hW hl
      exact wg_X7_isLeast_231 X hr hlk hK0 hk167 ih hf hW hl
  exact key t _ _ _ _ _ _ _ hf hW hl
set_option maxRecDepth 100000 in
set_option maxHeartbeats 4000000 in
theorem w_X7_isLeast_226 {F : Nat} {a0 : Nat} {k167 : zI → Int32 → Int32 → Option (Int32 × zI)} (X : zX p s m c cX7_isLeast 8 RX7 D) (hr : meth.sig.returnType = some .int) (hlk : meth.locks = false) (hK0 : (K a0).1 = 17) (hk167 : ∀ (I : zI) (x5 : Int32) (x6 : Int32) (H : Heap) (locs : List Loc) (ls : Array Slot), k167 I x5 x6 = some (r, I') → zS (zOwn B K (B + n)) D B n K I R s.heap H locs → lv_has ls 8 [(0, .ref (B + a0)), (5, .int x5), (6, .int x6)] → W p l e ({ frames := 7, cells := 0, slots := 0, locals := 197 } : Room) s m args below meth c H locs 0 0 (MQ below (zQi D (zOwn B K (B + n)) r B n K I' R) args s 0 0 (zOwn B K (B + n))) (F0 m 167 ls [])) {x6 : Int32} {s0 : Int32} (hf : f_X7_isLeast_226 F K R a0 k167 I x6 s0 = some (r, I')) (hW : zS (zOwn B K (B + n)) D B n K I R s.heap H locs) (hl : lv_has ls 8 [(0, .ref (B + a0)), (6, .int x6)]) : W p l e ({ frames := 7, cells := 0, slots := 0, locals := 197 } : Room) s m args below meth c H locs 0 0 (MQ below (zQi D (zOwn B K (B + n)) r B n K I' R) args s 0 0 (zOwn B K (B + n))) (F0 m 226 ls [.int s0]) := by
  unfold f_X7_isLeast_226 at hf
  refine lv_istore (lv' := [(5, .int s0), (0, .ref (B + a0)), (6, .int x6)]) X.1 X.2.1 dX7_isLeast_226 hl (by decide) rfl (fun ls hk => ?_)
  replace hl := hk
  refine lv_iconst (v := 0) X.1 X.2.1 dX7_isLeast_228 (by decide) ?_
  refine lv_istore (lv' := [(7, .int (0 : Int32)), (5, .int s0), (0, .ref (B + a0)), (6, .int x6)]) X.1 X.2.1 dX7_isLeast_229 hl (by decide) rfl (fun ls hk => ?_)
  replace hl := hk
  exact w_X7_isLeast_231 X hr hlk hK0 hk167 hf hW (lv_sub hl [2, 1, 3, 0] rfl)
set_option maxRecDepth 100000 in
set_option maxHeartbeats 4000000 in
theorem w_X7_isLeast_225 {F : Nat} {a0 : Nat} {k167 : zI → Int32 → Int32 → Option (Int32 × zI)} (X : zX p s m c cX7_isLeast 8 RX7 D) (hr : meth.sig.returnType = some .int) (hlk : meth.locks = false) (hK0 : (K a0).1 = 17) (hk167 : ∀ (I : zI) (x5 : Int32) (x6 : Int32) (H : Heap) (locs : List Loc) (ls : Array Slot), k167 I x5 x6 = some (r, I') → zS (zOwn B K (B + n)) D B n K I R s.heap H locs → lv_has ls 8 [(0, .ref (B + a0)), (5, .int x5), (6, .int x6)] → W p l e ({ frames := 7, cells := 0, slots := 0, locals := 197 } : Room) s m args below meth c H locs 0 0 (MQ below (zQi D (zOwn B K (B + n)) r B n K I' R) args s 0 0 (zOwn B K (B + n))) (F0 m 167 ls [])) {x6 : Int32} (hf : f_X7_isLeast_225 F K R a0 k167 I x6 = some (r, I')) (hW : zS (zOwn B K (B + n)) D B n K I R s.heap H locs) (hl : lv_has ls 8 [(0, .ref (B + a0)), (6, .int x6)]) : W p l e ({ frames := 7, cells := 0, slots := 0, locals := 197 } : Room) s m args below meth c H locs 0 0 (MQ below (zQi D (zOwn B K (B + n)) r B n K I' R) args s 0 0 (zOwn B K (B + n))) (F0 m 225 ls []) := by
  unfold f_X7_isLeast_225 at hf
  refine lv_iconst (v := 0) X.1 X.2.1 dX7_isLeast_225 (by decide) ?_
  exact w_X7_isLeast_226 X hr hlk hK0 hk167 hf hW hl
set_option maxRecDepth 100000 in
set_option maxHeartbeats 4000000 in
theorem wg_X7_isLeast_167 {F : Nat} {a0 : Nat}  (X : zX p s m c cX7_isLeast 8 RX7 D) (hr : meth.sig.returnType = some .int) (hlk : meth.locks = false) (hK0 : (K a0).1 = 17)  {kself : zI → Int32 → Int32 → Option (Int32 × zI)} (hkself : ∀ (I : zI) (x5 : Int32) (x6 : Int32) (H : Heap) (locs : List Loc) (ls : Array Slot), kself I x5 x6 = some (r, I') → zS (zOwn B K (B + n)) D B n K I R s.heap H locs → lv_has ls 8 [(0, .ref (B + a0)), (5, .int x5), (6, .int x6)] → W p l e ({ frames := 7, cells := 0, slots := 0, locals := 197 } : Room) s m args below meth c H locs 0 0 (MQ below (zQi D (zOwn B K (B + n)) r B n K I' R) args s 0 0 (zOwn B K (B + n))) (F0 m 167 ls [])) {x5 : Int32} {x6 : Int32} (hf : g_X7_isLeast_167 F K R a0  kself I x5 x6 = some (r, I')) (hW : zS (zOwn B K (B + n)) D B n K I R s.heap H locs) (hl : lv_has ls 8 [(0, .ref (B + a0)), (5, .int x5), (6, .int x6)]) : W p l e ({ frames := 7, cells := 0, slots := 0, locals := 197 } : Room) s m args below meth c H locs 0 0 (MQ below (zQi D (zOwn B K (B + n)) r B n K I' R) args s 0 0 (zOwn B K (B + n))) (F0 m 167 ls []) := by
  unfold g_X7_isLeast_167 at hf
  refine lv_iload X.1 X.2.1 dX7_isLeast_167 (lv_at hl 2 rfl) ?_
  refine lv_bipush (v := 10) X.1 X.2.1 dX7_isLeast_169 (by decide) ?_
  refine lv_icmp_ge (tgt := 278) X.1 X.2.1 dX7_isLeast_171 (by decide) (fun c9 => ?_) (fun c9 => ?_)
  · replace hf := zif_pos c9 hf
    refine lv_iload X.1 X.2.1 dX7_isLeast_278 (lv_at hl 1 rfl) ?_
    refine lv_if_eq (tgt := 287) X.1 X.2.1 dX7_isLeast_280 (by decide) (fun c10 => ?_) (fun c10 => ?_)
    · replace hf := zif_pos c10 hf
      refine lv_iconst (v := 0) X.1 X.2.1 dX7_isLeast_287 (by decide) ?_
      obtain ⟨rfl, rfl⟩ := zi2 hf
      exact ze_retI X hr hlk hW (Nat.le_refl _) (Nat.le_refl _) dX7_isLeast_288
    · replace hf := zif_neg c10 hf
      refine lv_iconst (v := 1) X.1 X.2.1 dX7_isLeast_283 (by decide) ?_
      refine lv_goto (tgt := 288) X.1 X.2.1 dX7_isLeast_284 (by decide) ?_
      obtain ⟨rfl, rfl⟩ := zi2 hf
      exact ze_retI X hr hlk hW (Nat.le_refl _) (Nat.le_refl _) dX7_isLeast_288
  · replace hf := zif_neg c9 hf
    refine lv_iload X.1 X.2.1 dX7_isLeast_174 (lv_at hl 1 rfl) ?_
    refine lv_if_eq (tgt := 225) X.1 X.2.1 dX7_isLeast_176 (by decide) (fun c11 => ?_) (fun c11 => ?_)
    · replace hf := zif_pos c11 hf
      exact w_X7_isLeast_225 X hr hlk hK0 hkself hf hW (lv_sub hl [0, 2] rfl)
    · replace hf := zif_neg c11 hf
      refine lv_aload_n X.1 X.2.1 dX7_isLeast_179 rfl (lv_at hl 0 rfl) ?_
      refine ze_gtR X 7 34 93 (RX7, TX7, 39) rfl hf hW hK0 rfl (by decide) kfl_X7_93 dX7_isLeast_180 (fun o12 hg => ?_)
      replace hf := hg
      refine lv_iload X.1 X.2.1 dX7_isLeast_183 (lv_at hl 2 rfl) ?_
      obtain ⟨a13, rfl, k15, hg⟩ := zh_dr hf
      replace hf := hg
      refine ze_iald X hf hW k15 dX7_isLeast_185 (fun v16 hg => ?_)
      replace hf := hg
      refine lv_bipush (v := -9) X.1 X.2.1 dX7_isLeast_186 (by decide) ?_
      refine lv_icmp_ne (tgt := 225) X.1 X.2.1 dX7_isLeast_188 (by decide) (fun c17 => ?_) (fun c17 => ?_)
      · replace hf := zif_neg c17 hf
        exact w_X7_isLeast_225 X hr hlk hK0 hkself hf hW (lv_sub hl [0, 2] rfl)
      · replace hf := zif_pos c17 hf
        refine lv_aload_n X.1 X.2.1 dX7_isLeast_191 rfl (lv_at hl 0 rfl) ?_
        refine ze_gtR X 7 36 99 (RX7, TX7, 39) rfl hf hW hK0 rfl (by decide) kfl_X7_99 dX7_isLeast_192 (fun o18 hg => ?_)
        replace hf := hg
        refine lv_iload X.1 X.2.1 dX7_isLeast_195 (lv_at hl 2 rfl) ?_
        obtain ⟨a19, rfl, k21, hg⟩ := zh_dr hf
        replace hf := hg
        refine ze_zald X hf hW k21 dX7_isLeast_197 (fun v22 hg => ?_)
        replace hf := hg
        refine lv_if_ne (tgt := 225) X.1 X.2.1 dX7_isLeast_198 (by decide) (fun c23 => ?_) (fun c23 => ?_)
        · replace hf := zif_neg c23 hf
          exact w_X7_isLeast_225 X hr hlk hK0 hkself hf hW (lv_sub hl [0, 2] rfl)
        · replace hf := zif_pos c23 hf
          refine lv_aload_n X.1 X.2.1 dX7_isLeast_201 rfl (lv_at hl 0 rfl) ?_
          refine ze_gtR X 7 37 102 (RX7, TX7, 39) rfl hf hW hK0 rfl (by decide) kfl_X7_102 dX7_isLeast_202 (fun o24 hg => ?_)
          replace hf := hg
          refine lv_iload X.1 X.2.1 dX7_isLeast_205 (lv_at hl 2 rfl) ?_
          obtain ⟨a25, rfl, k27, hg⟩ := zh_dr hf
          replace hf := hg
          refine ze_zald X hf hW k27 dX7_isLeast_207 (fun v28 hg => ?_)
          replace hf := hg
          refine lv_if_ne (tgt := 225) X.1 X.2.1 dX7_isLeast_208 (by decide) (fun c29 => ?_) (fun c29 => ?_)
          · replace hf := zif_neg c29 hf
            exact w_X7_isLeast_225 X hr hlk hK0 hkself hf hW (lv_sub hl [0, 2] rfl)
          · replace hf := zif_pos c29 hf
            refine lv_aload_n X.1 X.2.1 dX7_isLeast_211 rfl (lv_at hl 0 rfl) ?_
            refine ze_gtR X 7 38 105 (RX7, TX7, 39) rfl hf hW hK0 rfl (by decide) kfl_X7_105 dX7_isLeast_212 (fun o30 hg => ?_)
            replace hf := hg
            refine lv_iload X.1 X.2.1 dX7_isLeast_215 (lv_at hl 2 rfl) ?_
            obtain ⟨a31, rfl, k33, hg⟩ := zh_dr hf
            replace hf := hg
            refine ze_zald X hf hW k33 dX7_isLeast_217 (fun v34 hg => ?_)
            replace hf := hg
            refine lv_if_ne (tgt := 225) X.1 X.2.1 dX7_isLeast_218 (by decide) (fun c35 => ?_) (fun c35 => ?_)
            · replace hf := zif_neg c35 hf
              exact w_X7_isLeast_225 X hr hlk hK0 hkself hf hW (lv_sub hl [0, 2] rfl)
            · replace hf := zif_pos c35 hf
              refine lv_iconst (v := 1) X.1 X.2.1 dX7_isLeast_221 (by decide) ?_
              refine lv_goto (tgt := 226) X.1 X.2.1 dX7_isLeast_222 (by decide) ?_
              exact w_X7_isLeast_226 X hr hlk hK0 hkself hf hW (lv_sub hl [0, 2] rfl)
set_option maxRecDepth 100000 in
set_option maxHeartbeats 4000000 in
theorem w_X7_isLeast_167 {F : Nat} {a0 : Nat}  (X : zX p s m c cX7_isLeast 8 RX7 D) (hr : meth.sig.returnType = some .int) (hlk : meth.locks = false) (hK0 : (K a0).1 = 17)  {t : Nat} {x5 : Int32} {x6 : Int32} (hf : f_X7_isLeast_167 F K R a0  t I x5 x6 = some (r, I')) (hW : zS (zOwn B K (B + n)) D B n K I R s.heap H locs) (hl : lv_has ls 8 [(0, .ref (B + a0)), (5, .int x5), (6, .int x6)]) : W p l e ({ frames := 7, cells := 0, slots := 0, locals := 197 } : Room) s m args below meth c H locs 0 0 (MQ below (zQi D (zOwn B K (B + n)) r B n K I' R) args s 0 0 (zOwn B K (B + n))) (F0 m 167 ls []) := by
  have key : ∀ t : Nat, ∀ (I : zI) (x5 : Int32) (x6 : Int32) (H : Heap) (locs : List Loc) (ls : Array Slot), f_X7_isLeast_167 F K R a0  t I x5 x6 = some (r, I') → zS (zOwn B K (B + n)) D B n K I R s.heap H locs → lv_has ls 8 [(0, .ref (B + a0)), (5, .int x5), (6, .int x6)] → W p l e ({ frames := 7, cells := 0, slots := 0, locals := 197 } : Room) s m args below meth c H locs 0 0 (MQ below (zQi D (zOwn B K (B + n)) r B n K I' R) args s 0 0 (zOwn B K (B + n))) (F0 m 167 ls []) := by
    intro t
    induction t with
    | zero =>
      intro I x5 x6 H locs ls hf hW hl
      cases hf
    | succ t ih =>
      intro I x5 x6 H locs ls hf hW hl
      exact wg_X7_isLeast_167 X hr hlk hK0  ih hf hW hl
  exact key t _ _ _ _ _ _ hf hW hl
set_option maxRecDepth 100000 in
set_option maxHeartbeats 4000000 in
theorem w_X7_isLeast_129 {F : Nat} {a0 : Nat} {k77 : zI → Int32 → Int32 → Int32 → Int32 → Option (Int32 × zI)} (X : zX p s m c cX7_isLeast 8 RX7 D) (hr : meth.sig.returnType = some .int) (hlk : meth.locks = false) (hK0 : (K a0).1 = 17) (hk77 : ∀ (I : zI) (x1 : Int32) (x2 : Int32) (x3 : Int32) (x5 : Int32) (H : Heap) (locs : List Loc) (ls : Array Slot), k77 I x1 x2 x3 x5 = some (r, I') → zS (zOwn B K (B + n)) D B n K I R s.heap H locs → lv_has ls 8 [(0, .ref (B + a0)), (1, .int x1), (2, .int x2), (3, .int x3), (5, .int x5)] → W p l e ({ frames := 7, cells := 0, slots := 0, locals := 197 } : Room) s m args below meth c H locs 0 0 (MQ below (zQi D (zOwn B K (B + n)) r B n K I' R) args s 0 0 (zOwn B K (B + n))) (F0 m 77 ls [])) {x1 : Int32} {x2 : Int32} {x3 : Int32} {x5 : Int32} (hf : f_X7_isLeast_129 F K R a0 k77 I x1 x2 x3 x5 = some (r, I')) (hW : zS (zOwn B K (B + n)) D B n K I R s.heap H locs) (hl : lv_has ls 8 [(0, .ref (B + a0)), (1, .int x1), (2, .int x2), (3, .int x3), (5, .int x5)]) : W p l e ({ frames := 7, cells := 0, slots := 0, locals := 197 } : Room) s m args below meth c H locs 0 0 (MQ below (zQi D (zOwn B K (B + n)) r B n K I' R) args s 0 0 (zOwn B K (B + n))) (F0 m 129 ls []) := by
  unfold f_X7_isLeast_129 at hf
  refine ze_iinc (lv' := [(5, .int (x5 + (1 : Int32))), (0, .ref (B + a0)), (1, .int x1), (2, .int x2), (3, .int x3)]) (d := 1) X.1 X.2.1 dX7_isLeast_129 hl (k := 4) rfl (by decide) (by decide) rfl (fun ls hk => ?_)
  replace hl := hk
  refine lv_goto (tgt := 77) X.1 X.2.1 dX7_isLeast_132 (by decide) ?_
  exact hk77 _ _ _ _ _ _ _ _ hf hW (lv_sub hl [1, 2, 3, 4, 0] rfl)
set_option maxRecDepth 100000 in
set_option maxHeartbeats 4000000 in
theorem wg_X7_isLeast_77 {F : Nat} {a0 : Nat}  (X : zX p s m c cX7_isLeast 8 RX7 D) (hr : meth.sig.returnType = some .int) (hlk : meth.locks = false) (hK0 : (K a0).1 = 17)  {kself : zI → Int32 → Int32 → Int32 → Int32 → Option (Int32 × zI)} (hkself : ∀ (I : zI) (x1 : Int32) (x2 : Int32) (x3 : Int32) (x5 : Int32) (H : Heap) (locs : List Loc) (ls : Array Slot), kself I x1 x2 x3 x5 = some (r, I') → zS (zOwn B K (B + n)) D B n K I R s.heap H locs → lv_has ls 8 [(0, .ref (B + a0)), (1, .int x1), (2, .int x2), (3, .int x3), (5, .int x5)] → W p l e ({ frames := 7, cells := 0, slots := 0, locals := 197 } : Room) s m args below meth c H locs 0 0 (MQ below (zQi D (zOwn B K (B + n)) r B n K I' R) args s 0 0 (zOwn B K (B + n))) (F0 m 77 ls [])) {x1 : Int32} {x2 : Int32} {x3 : Int32} {x5 : Int32} (hf : g_X7_isLeast_77 F K R a0  kself I x1 x2 x3 x5 = some (r, I')) (hW : zS (zOwn B K (B + n)) D B n K I R s.heap H locs) (hl : lv_has ls 8 [(0, .ref (B + a0)), (1, .int x1), (2, .int x2), (3, .int x3), (5, .int x5)]) : W p l e ({ frames := 7, cells := 0, slots := 0, locals := 197 } : Room) s m args below meth c H locs 0 0 (MQ below (zQi D (zOwn B K (B + n)) r B n K I' R) args s 0 0 (zOwn B K (B + n))) (F0 m 77 ls []) := by
  unfold g_X7_isLeast_77 at hf
  refine lv_iload X.1 X.2.1 dX7_isLeast_77 (lv_at hl 4 rfl) ?_
  refine lv_aload_n X.1 X.2.1 dX7_isLeast_79 rfl (lv_at hl 0 rfl) ?_
  refine ze_gtR X 7 0 7 (RX7, TX7, 39) rfl hf hW hK0 rfl (by decide) kfl_X7_7 dX7_isLeast_80 (fun o36 hg => ?_)
  replace hf := hg
  refine lv_bipush (v := 97) X.1 X.2.1 dX7_isLeast_83 (by decide) ?_
  refine lv_iload_n X.1 X.2.1 dX7_isLeast_85 rfl (lv_at hl 1 rfl) ?_
  refine lv_imul X.1 X.2.1 dX7_isLeast_86 ?_
  obtain ⟨a37, rfl, k39, hg⟩ := zh_dr hf
  replace hf := hg
  refine ze_iald X hf hW k39 dX7_isLeast_87 (fun v40 hg => ?_)
  replace hf := hg
  refine lv_icmp_ge (tgt := 135) X.1 X.2.1 dX7_isLeast_88 (by decide) (fun c41 => ?_) (fun c41 => ?_)
  · replace hf := zif_pos c41 hf
    refine lv_aload_n X.1 X.2.1 dX7_isLeast_135 rfl (lv_at hl 0 rfl) ?_
    refine lv_bipush (v := 97) X.1 X.2.1 dX7_isLeast_136 (by decide) ?_
    refine lv_iload_n X.1 X.2.1 dX7_isLeast_138 rfl (lv_at hl 1 rfl) ?_
    refine lv_imul X.1 X.2.1 dX7_isLeast_139 ?_
    refine lv_bipush (v := 97) X.1 X.2.1 dX7_isLeast_140 (by decide) ?_
    refine lv_iload_n X.1 X.2.1 dX7_isLeast_142 rfl (lv_at hl 2 rfl) ?_
    refine lv_imul X.1 X.2.1 dX7_isLeast_143 ?_
    refine lv_iconst (v := 1) X.1 X.2.1 dX7_isLeast_144 (by decide) ?_
    obtain ⟨I42, h43, hg⟩ := zh_bd hf
    replace hf := hg
    refine ze_aftV0 (ze_runV (As := [.int ((97 : Int32) * x1), .int ((97 : Int32) * x2), .int (1 : Int32)]) (rest := []) X 7 286 (c_X7_lays l D B n hK0 h43) vX7_lays kml_X7_286 hW hK0 rfl rfl ⟨by decide, by decide⟩ rfl hl.1 rfl (Nat.le_of_ble_eq_true rfl) ⟨Nat.le_refl _, Nat.le_refl _⟩ dX7_isLeast_145) hW (fun H locs hV => ?_)
    replace hW := hV
    refine lv_aload_n X.1 X.2.1 dX7_isLeast_148 rfl (lv_at hl 0 rfl) ?_
    refine lv_bipush (v := 97) X.1 X.2.1 dX7_isLeast_149 (by decide) ?_
    refine lv_iload_n X.1 X.2.1 dX7_isLeast_151 rfl (lv_at hl 1 rfl) ?_
    refine lv_imul X.1 X.2.1 dX7_isLeast_152 ?_
    refine lv_bipush (v := 97) X.1 X.2.1 dX7_isLeast_153 (by decide) ?_
    refine lv_iload_n X.1 X.2.1 dX7_isLeast_155 rfl (lv_at hl 3 rfl) ?_
    refine lv_imul X.1 X.2.1 dX7_isLeast_156 ?_
    refine lv_iconst (v := 0) X.1 X.2.1 dX7_isLeast_157 (by decide) ?_
    obtain ⟨I44, h45, hg⟩ := zh_bd hf
    replace hf := hg
    refine ze_aftV0 (ze_runV (As := [.int ((97 : Int32) * x1), .int ((97 : Int32) * x3), .int (0 : Int32)]) (rest := []) X 7 286 (c_X7_lays l D B n hK0 h45) vX7_lays kml_X7_286 hW hK0 rfl rfl ⟨by decide, by decide⟩ rfl hl.1 rfl (Nat.le_of_ble_eq_true rfl) ⟨Nat.le_refl _, Nat.le_refl _⟩ dX7_isLeast_158) hW (fun H locs hV => ?_)
    replace hW := hV
    refine lv_iconst (v := 1) X.1 X.2.1 dX7_isLeast_161 (by decide) ?_
    refine lv_istore (lv' := [(5, .int (1 : Int32)), (0, .ref (B + a0)), (1, .int x1), (2, .int x2), (3, .int x3)]) X.1 X.2.1 dX7_isLeast_162 hl (by decide) rfl (fun ls hk => ?_)
    replace hl := hk
    refine lv_iconst (v := 0) X.1 X.2.1 dX7_isLeast_164 (by decide) ?_
    refine lv_istore (lv' := [(6, .int (0 : Int32)), (5, .int (1 : Int32)), (0, .ref (B + a0)), (1, .int x1), (2, .int x2), (3, .int x3)]) X.1 X.2.1 dX7_isLeast_165 hl (by decide) rfl (fun ls hk => ?_)
    replace hl := hk
    exact w_X7_isLeast_167 X hr hlk hK0 hf hW (lv_sub hl [2, 1, 0] rfl)
  · replace hf := zif_neg c41 hf
    refine lv_aload_n X.1 X.2.1 dX7_isLeast_91 rfl (lv_at hl 0 rfl) ?_
    refine lv_bipush (v := 97) X.1 X.2.1 dX7_isLeast_92 (by decide) ?_
    refine lv_iload_n X.1 X.2.1 dX7_isLeast_94 rfl (lv_at hl 1 rfl) ?_
    refine lv_imul X.1 X.2.1 dX7_isLeast_95 ?_
    refine lv_iload X.1 X.2.1 dX7_isLeast_96 (lv_at hl 4 rfl) ?_
    obtain ⟨v46, h47, hg⟩ := zh_bd hf
    replace hf := hg
    refine ze_aftI0 (ze_runV (As := [.int ((97 : Int32) * x1), .int x5]) (rest := []) X 7 119 (c_X7_sort l D B n hK0 h47) vX7_sort kml_X7_119 hW hK0 rfl rfl ⟨by decide, by decide⟩ rfl hl.1 rfl (Nat.le_of_ble_eq_true rfl) ⟨Nat.le_refl _, Nat.le_refl _⟩ dX7_isLeast_98) hW (fun H locs hV => ?_)
    replace hW := hV
    refine lv_if_eq (tgt := 129) X.1 X.2.1 dX7_isLeast_101 (by decide) (fun c48 => ?_) (fun c48 => ?_)
    · replace hf := zif_pos c48 hf
      exact w_X7_isLeast_129 X hr hlk hK0 hkself hf hW hl
    · replace hf := zif_neg c48 hf
      refine lv_aload_n X.1 X.2.1 dX7_isLeast_104 rfl (lv_at hl 0 rfl) ?_
      refine ze_gtR X 7 17 45 (RX7, TX7, 39) rfl hf hW hK0 rfl (by decide) kfl_X7_45 dX7_isLeast_105 (fun o49 hg => ?_)
      replace hf := hg
      refine lv_aload_n X.1 X.2.1 dX7_isLeast_108 rfl (lv_at hl 0 rfl) ?_
      refine lv_bipush (v := 97) X.1 X.2.1 dX7_isLeast_109 (by decide) ?_
      refine lv_iload_n X.1 X.2.1 dX7_isLeast_111 rfl (lv_at hl 1 rfl) ?_
      refine lv_imul X.1 X.2.1 dX7_isLeast_112 ?_
      refine lv_iload X.1 X.2.1 dX7_isLeast_113 (lv_at hl 4 rfl) ?_
      obtain ⟨v50, h51, hg⟩ := zh_bd hf
      replace hf := hg
      refine ze_aftI0 (ze_runV (As := [.int ((97 : Int32) * x1), .int x5]) (rest := [zrf B o49]) X 7 159 (c_X7_number l D B n hK0 h51) vX7_number kml_X7_159 hW hK0 rfl rfl ⟨by decide, by decide⟩ rfl hl.1 rfl (by simp [zcat, zcat_i, zcat_r, zcat_l]) ⟨Nat.le_refl _, Nat.le_refl _⟩ dX7_isLeast_115) hW (fun H locs hV => ?_)
      replace hW := hV
      refine lv_aload_n X.1 X.2.1 dX7_isLeast_118 rfl (lv_at hl 0 rfl) ?_
      refine lv_bipush (v := 97) X.1 X.2.1 dX7_isLeast_119 (by decide) ?_
      refine lv_iload_n X.1 X.2.1 dX7_isLeast_121 rfl (lv_at hl 1 rfl) ?_
      refine lv_imul X.1 X.2.1 dX7_isLeast_122 ?_
      refine lv_iload X.1 X.2.1 dX7_isLeast_123 (lv_at hl 4 rfl) ?_
      obtain ⟨v52, h53, hg⟩ := zh_bd hf
      replace hf := hg
      refine ze_aftI0 (ze_runV (As := [.int ((97 : Int32) * x1), .int x5]) (rest := [.int v50, zrf B o49]) X 7 119 (c_X7_sort l D B n hK0 h53) vX7_sort kml_X7_119 hW hK0 rfl rfl ⟨by decide, by decide⟩ rfl hl.1 rfl (by simp [zcat, zcat_i, zcat_r, zcat_l]) ⟨Nat.le_refl _, Nat.le_refl _⟩ dX7_isLeast_125) hW (fun H locs hV => ?_)
      replace hW := hV
      obtain ⟨a54, rfl, k56, hg⟩ := zh_dr hf
      replace hf := hg
      refine ze_iast X hf hW k56 dX7_isLeast_128 (fun I57 H locs hg hV => ?_)
      replace hf := hg
      replace hW := hV
      exact w_X7_isLeast_129 X hr hlk hK0 hkself hf hW hl
set_option maxRecDepth 100000 in
set_option maxHeartbeats 4000000 in
theorem w_X7_isLeast_77 {F : Nat} {a0 : Nat}  (X : zX p s m c cX7_isLeast 8 RX7 D) (hr : meth.sig.returnType = some .int) (hlk : meth.locks = false) (hK0 : (K a0).1 = 17)  {t : Nat} {x1 : Int32} {x2 : Int32} {x3 : Int32} {x5 : Int32} (hf : f_X7_isLeast_77 F K R a0  t I x1 x2 x3 x5 = some (r, I')) (hW : zS (zOwn B K (B + n)) D B n K I R s.heap H locs) (hl : lv_has ls 8 [(0, .ref (B + a0)), (1, .int x1), (2, .int x2), (3, .int x3), (5, .int x5)]) : W p l e ({ frames := 7, cells := 0, slots := 0, locals := 197 } : Room) s m args below meth c H locs 0 0 (MQ below (zQi D (zOwn B K (B + n)) r B n K I' R) args s 0 0 (zOwn B K (B + n))) (F0 m 77 ls []) := by
  have key : ∀ t : Nat, ∀ (I : zI) (x1 : Int32) (x2 : Int32) (x3 : Int32) (x5 : Int32) (H : Heap) (locs : List Loc) (ls : Array Slot), f_X7_isLeast_77 F K R a0  t I x1 x2 x3 x5 = some (r, I') → zS (zOwn B K (B + n)) D B n K I R s.heap H locs → lv_has ls 8 [(0, .ref (B + a0)), (1, .int x1), (2, .int x2), (3, .int x3), (5, .int x5)] → W p l e ({ frames := 7, cells := 0, slots := 0, locals := 197 } : Room) s m args below meth c H locs 0 0 (MQ below (zQi D (zOwn B K (B + n)) r B n K I' R) args s 0 0 (zOwn B K (B + n))) (F0 m 77 ls []) := by
    intro t
    induction t with
    | zero =>
      intro I x1 x2 x3 x5 H locs ls hf hW hl
      cases hf
    | succ t ih =>
      intro I x1 x2 x3 x5 H locs ls hf hW hl
      exact wg_X7_isLeast_77 X hr hlk hK0  ih hf hW hl
  exact key t _ _ _ _ _ _ _ _ hf hW hl
set_option maxRecDepth 100000 in
set_option maxHeartbeats 4000000 in
theorem w_X7_isLeast_32 {F : Nat} {a0 : Nat}  (X : zX p s m c cX7_isLeast 8 RX7 D) (hr : meth.sig.returnType = some .int) (hlk : meth.locks = false) (hK0 : (K a0).1 = 17)  {x1 : Int32} {x2 : Int32} {x3 : Int32} {s0 : Int32} (hf : f_X7_isLeast_32 F K R a0  I x1 x2 x3 s0 = some (r, I')) (hW : zS (zOwn B K (B + n)) D B n K I R s.heap H locs) (hl : lv_has ls 8 [(0, .ref (B + a0)), (1, .int x1), (2, .int x2), (3, .int x3)]) : W p l e ({ frames := 7, cells := 0, slots := 0, locals := 197 } : Room) s m args below meth c H locs 0 0 (MQ below (zQi D (zOwn B K (B + n)) r B n K I' R) args s 0 0 (zOwn B K (B + n))) (F0 m 32 ls [.int s0]) := by
  unfold f_X7_isLeast_32 at hf
  refine lv_istore (lv' := [(4, .int s0), (0, .ref (B + a0)), (1, .int x1), (2, .int x2), (3, .int x3)]) X.1 X.2.1 dX7_isLeast_32 hl (by decide) rfl (fun ls hk => ?_)
  replace hl := hk
  refine lv_iload X.1 X.2.1 dX7_isLeast_34 (lv_at hl 0 rfl) ?_
  refine lv_if_eq (tgt := 42) X.1 X.2.1 dX7_isLeast_36 (by decide) (fun c58 => ?_) (fun c58 => ?_)
  · replace hf := zif_pos c58 hf
    refine lv_aload_n X.1 X.2.1 dX7_isLeast_42 rfl (lv_at hl 1 rfl) ?_
    refine lv_bipush (v := 97) X.1 X.2.1 dX7_isLeast_43 (by decide) ?_
    refine lv_iload_n X.1 X.2.1 dX7_isLeast_45 rfl (lv_at hl 2 rfl) ?_
    refine lv_imul X.1 X.2.1 dX7_isLeast_46 ?_
    refine lv_bipush (v := 97) X.1 X.2.1 dX7_isLeast_47 (by decide) ?_
    refine lv_iload_n X.1 X.2.1 dX7_isLeast_49 rfl (lv_at hl 3 rfl) ?_
    refine lv_imul X.1 X.2.1 dX7_isLeast_50 ?_
    obtain ⟨v59, I60, h61, hg⟩ := zh_bd2 hf
    replace hf := hg
    refine ze_aftI0 (ze_runV (As := [.int ((97 : Int32) * x1), .int ((97 : Int32) * x2)]) (rest := []) X 7 274 (c_X7_matches l D B n hK0 h61) vX7_matches kml_X7_274 hW hK0 rfl rfl ⟨by decide, by decide⟩ rfl hl.1 rfl (Nat.le_of_ble_eq_true rfl) ⟨Nat.le_refl _, Nat.le_refl _⟩ dX7_isLeast_51) hW (fun H locs hV => ?_)
    replace hW := hV
    refine lv_if_eq (tgt := 72) X.1 X.2.1 dX7_isLeast_54 (by decide) (fun c62 => ?_) (fun c62 => ?_)
    · replace hf := zif_pos c62 hf
      refine lv_iconst (v := 0) X.1 X.2.1 dX7_isLeast_72 (by decide) ?_
      obtain ⟨rfl, rfl⟩ := zi2 hf
      exact ze_retI X hr hlk hW (Nat.le_refl _) (Nat.le_refl _) dX7_isLeast_73
    · replace hf := zif_neg c62 hf
      refine lv_aload_n X.1 X.2.1 dX7_isLeast_57 rfl (lv_at hl 1 rfl) ?_
      refine lv_bipush (v := 97) X.1 X.2.1 dX7_isLeast_58 (by decide) ?_
      refine lv_iload_n X.1 X.2.1 dX7_isLeast_60 rfl (lv_at hl 2 rfl) ?_
      refine lv_imul X.1 X.2.1 dX7_isLeast_61 ?_
      refine lv_bipush (v := 97) X.1 X.2.1 dX7_isLeast_62 (by decide) ?_
      refine lv_iload_n X.1 X.2.1 dX7_isLeast_64 rfl (lv_at hl 4 rfl) ?_
      refine lv_imul X.1 X.2.1 dX7_isLeast_65 ?_
      obtain ⟨v63, I64, h65, hg⟩ := zh_bd2 hf
      replace hf := hg
      refine ze_aftI0 (ze_runV (As := [.int ((97 : Int32) * x1), .int ((97 : Int32) * x3)]) (rest := []) X 7 274 (c_X7_matches l D B n hK0 h65) vX7_matches kml_X7_274 hW hK0 rfl rfl ⟨by decide, by decide⟩ rfl hl.1 rfl (Nat.le_of_ble_eq_true rfl) ⟨Nat.le_refl _, Nat.le_refl _⟩ dX7_isLeast_66) hW (fun H locs hV => ?_)
      replace hW := hV
      refine lv_if_ne (tgt := 74) X.1 X.2.1 dX7_isLeast_69 (by decide) (fun c66 => ?_) (fun c66 => ?_)
      · replace hf := zif_neg c66 hf
        refine lv_iconst (v := 0) X.1 X.2.1 dX7_isLeast_74 (by decide) ?_
        refine lv_istore (lv' := [(5, .int (0 : Int32)), (4, .int s0), (0, .ref (B + a0)), (1, .int x1), (2, .int x2), (3, .int x3)]) X.1 X.2.1 dX7_isLeast_75 hl (by decide) rfl (fun ls hk => ?_)
        replace hl := hk
        exact w_X7_isLeast_77 X hr hlk hK0 hf hW (lv_sub hl [2, 3, 4, 5, 0] rfl)
      · replace hf := zif_pos c66 hf
        refine lv_iconst (v := 0) X.1 X.2.1 dX7_isLeast_72 (by decide) ?_
        obtain ⟨rfl, rfl⟩ := zi2 hf
        exact ze_retI X hr hlk hW (Nat.le_refl _) (Nat.le_refl _) dX7_isLeast_73
  · replace hf := zif_neg c58 hf
    refine lv_iload X.1 X.2.1 dX7_isLeast_39 (lv_at hl 0 rfl) ?_
    obtain ⟨rfl, rfl⟩ := zi2 hf
    exact ze_retI X hr hlk hW (Nat.le_refl _) (Nat.le_refl _) dX7_isLeast_41
set_option maxRecDepth 100000 in
set_option maxHeartbeats 4000000 in
theorem w_X7_isLeast_30 {F : Nat} {a0 : Nat}  (X : zX p s m c cX7_isLeast 8 RX7 D) (hr : meth.sig.returnType = some .int) (hlk : meth.locks = false) (hK0 : (K a0).1 = 17)  {x1 : Int32} {x2 : Int32} {x3 : Int32} {x4 : Int32} (hf : f_X7_isLeast_30 F K R a0  I x1 x2 x3 x4 = some (r, I')) (hW : zS (zOwn B K (B + n)) D B n K I R s.heap H locs) (hl : lv_has ls 8 [(0, .ref (B + a0)), (1, .int x1), (2, .int x2), (3, .int x3), (4, .int x4)]) : W p l e ({ frames := 7, cells := 0, slots := 0, locals := 197 } : Room) s m args below meth c H locs 0 0 (MQ below (zQi D (zOwn B K (B + n)) r B n K I' R) args s 0 0 (zOwn B K (B + n))) (F0 m 30 ls []) := by
  unfold f_X7_isLeast_30 at hf
  refine lv_iload X.1 X.2.1 dX7_isLeast_30 (lv_at hl 4 rfl) ?_
  exact w_X7_isLeast_32 X hr hlk hK0 hf hW (lv_sub hl [0, 1, 2, 3] rfl)
set_option maxRecDepth 100000 in
set_option maxHeartbeats 4000000 in
theorem c_X7_isLeast (l : Launch) (D : zD) (B n : Nat) {F : Nat} {K : zK} {I : zI} {R : zR} {a0 : Nat} {x1 : Int32} {x2 : Int32} {x3 : Int32} {r : Int32} {I' : zI} (hK0 : (K a0).1 = 17) (hf : f_X7_isLeast F K I R a0 x1 x2 x3 = some (r, I')) : zM l yX7_isLeast cX7_isLeast 8 (some .int) ({ frames := 7, cells := 0, slots := 0, locals := 197 } : Room) D B n K I R [.ref (B + a0), .int x1, .int x2, .int x3] (zQi D (zOwn B K (B + n)) r B n K I' R) := by
  refine ze_entry (lv0 := [(0, .ref (B + a0)), (1, .int x1), (2, .int x2), (3, .int x3)]) (by decide) (by simp [lg_sl, zcat, zcat_i, zcat_r, zcat_l]) (by simp [lv_args, zcat, zcat_i, zcat_r, zcat_l]) (fun p e s m below meth c X hr hlk hin hW ls hl => ?_)
  unfold f_X7_isLeast at hf
  refine lv_aload_n X.1 X.2.1 dX7_isLeast_0 rfl (lv_at hl 0 rfl) ?_
  refine lv_iload_n X.1 X.2.1 dX7_isLeast_1 rfl (lv_at hl 1 rfl) ?_
  refine lv_iload_n X.1 X.2.1 dX7_isLeast_2 rfl (lv_at hl 2 rfl) ?_
  refine lv_iload_n X.1 X.2.1 dX7_isLeast_3 rfl (lv_at hl 3 rfl) ?_
  obtain ⟨v67, h68, hg⟩ := zh_bd hf
  replace hf := hg
  refine ze_aftI0 (ze_runS (As := [.int x3]) (rest := [.int x2, .int x1, .ref (B + a0)]) X 182 (c_X7_isRegister l D B n h68) vX7_isRegister kml_X7_182 hW ⟨by decide, by decide⟩ rfl hl.1 rfl (Nat.le_of_ble_eq_true rfl) ⟨Nat.le_refl _, Nat.le_refl _⟩ dX7_isLeast_4) hW (fun H locs hV => ?_)
  replace hW := hV
  obtain ⟨v69, h70, hg⟩ := zh_bd hf
  replace hf := hg
  refine ze_aftI0 (ze_runV (As := [.int x1, .int x2, .int v67]) (rest := []) X 7 254 (c_X7_wrong l D B n hK0 h70) vX7_wrong kml_X7_254 hW hK0 rfl rfl ⟨by decide, by decide⟩ rfl hl.1 rfl (Nat.le_of_ble_eq_true rfl) ⟨Nat.le_refl _, Nat.le_refl _⟩ dX7_isLeast_7) hW (fun H locs hV => ?_)
  replace hW := hV
  refine lv_istore (lv' := [(4, .int v69), (0, .ref (B + a0)), (1, .int x1), (2, .int x2), (3, .int x3)]) X.1 X.2.1 dX7_isLeast_10 hl (by decide) rfl (fun ls hk => ?_)
  replace hl := hk
  refine lv_iload X.1 X.2.1 dX7_isLeast_12 (lv_at hl 0 rfl) ?_
  refine lv_if_ne (tgt := 30) X.1 X.2.1 dX7_isLeast_14 (by decide) (fun c71 => ?_) (fun c71 => ?_)
  · replace hf := zif_neg c71 hf
    exact w_X7_isLeast_30 X hr hlk hK0 hf hW (lv_sub hl [1, 2, 3, 4, 0] rfl)
  · replace hf := zif_pos c71 hf
    refine lv_aload_n X.1 X.2.1 dX7_isLeast_17 rfl (lv_at hl 1 rfl) ?_
    refine lv_iload_n X.1 X.2.1 dX7_isLeast_18 rfl (lv_at hl 4 rfl) ?_
    obtain ⟨v72, h73, hg⟩ := zh_bd hf
    replace hf := hg
    refine ze_aftI0 (ze_runV (As := [.int x3]) (rest := []) X 7 204 (c_X7_isEmpty l D B n hK0 h73) vX7_isEmpty kml_X7_204 hW hK0 rfl rfl ⟨by decide, by decide⟩ rfl hl.1 rfl (Nat.le_of_ble_eq_true rfl) ⟨Nat.le_refl _, Nat.le_refl _⟩ dX7_isLeast_19) hW (fun H locs hV => ?_)
    replace hW := hV
    refine lv_if_eq (tgt := 30) X.1 X.2.1 dX7_isLeast_22 (by decide) (fun c74 => ?_) (fun c74 => ?_)
    · replace hf := zif_pos c74 hf
      exact w_X7_isLeast_30 X hr hlk hK0 hf hW (lv_sub hl [1, 2, 3, 4, 0] rfl)
    · replace hf := zif_neg c74 hf
      refine lv_bipush (v := -2) X.1 X.2.1 dX7_isLeast_25 (by decide) ?_
      refine lv_goto (tgt := 32) X.1 X.2.1 dX7_isLeast_27 (by decide) ?_
      exact w_X7_isLeast_32 X hr hlk hK0 hf hW (lv_sub hl [1, 2, 3, 4] rfl)
end

/-! LeastPatternsModel.learn(IIIIII)I -/
def f_X7_learn (F : Nat) (K : zK) (I : zI) (R : zR) (a0 : Nat) (x1 : Int32) (x2 : Int32) (x3 : Int32) (x4 : Int32) (x5 : Int32) (x6 : Int32) : Option (Int32 × zI) :=
  zbd (f_X7_isRegister F K I R x1) fun v1 =>
  if v1 = (0 : Int32) then
    some ((-1 : Int32), I)
  else
    zbd (f_X7_isRegister F K I R x2) fun v4 =>
    if v4 = (0 : Int32) then
      some ((-1 : Int32), I)
    else
      zbd (f_X7_isRegister F K I R x3) fun v7 =>
      if v7 = (0 : Int32) then
        some ((-1 : Int32), I)
      else
        zbd (f_X7_isRegister F K I R x4) fun v10 =>
        if v10 = (0 : Int32) then
          some ((-1 : Int32), I)
        else
          zbd (f_X7_isRegister F K I R x5) fun v13 =>
          if v13 = (0 : Int32) then
            some ((-1 : Int32), I)
          else
            zbd (f_X7_isRegister F K I R x6) fun v16 =>
            if v16 = (0 : Int32) then
              some ((-1 : Int32), I)
            else
              if x5 = x6 then
                some ((-1 : Int32), I)
              else
                zbd (f_X7_isEmpty F K I R a0 x1) fun v20 =>
                if v20 = (0 : Int32) then
                  zbd (f_X7_isEmpty F K I R a0 x2) fun v23 =>
                  if v23 = (0 : Int32) then
                    zbd (f_X7_isEmpty F K I R a0 x3) fun v26 =>
                    if v26 = (0 : Int32) then
                      zbd (f_X7_isEmpty F K I R a0 x4) fun v29 =>
                      if v29 = (0 : Int32) then
                        zbd (some (zup I a0 16 (0 : Int32))) fun I32 =>
                        zbd2 (f_X7_joins F K I32 R a0 ((97 : Int32) * x1) ((97 : Int32) * x3) (5460 : Int32)) fun v33 I34 =>
                        if v33 = (0 : Int32) then
                          some ((-3 : Int32), I34)
                        else
                          zbd2 (f_X7_joins F K I34 R a0 ((97 : Int32) * x2) ((97 : Int32) * x4) (5557 : Int32)) fun v37 I38 =>
                          if v37 = (0 : Int32) then
                            some ((-3 : Int32), I38)
                          else
                            zbd (f_X7_records F K I38 R a0) fun I41 =>
                            zbd2 (f_X7_puts F K I41 R a0 (5460 : Int32) x5) fun v43 I44 =>
                            zbd2 (f_X7_puts F K I44 R a0 (5557 : Int32) x6) fun v46 I47 =>
                            zbd (f_X7_holesOf F K I47 R a0 (5557 : Int32)) fun v49 =>
                            zbd (f_X7_holesOf F K I47 R a0 (5460 : Int32)) fun v51 =>
                            if (v49 &&& (v51 ^^^ (-1 : Int32))) = (0 : Int32) then
                              some ((1 : Int32), I47)
                            else
                              some ((0 : Int32), I47)
                      else
                        some ((-2 : Int32), I)
                    else
                      some ((-2 : Int32), I)
                  else
                    some ((-2 : Int32), I)
                else
                  some ((-2 : Int32), I)
section
variable {p : Program} {l : Launch} {e : Env} {s : State} {m : MethodId} {args : Array Value} {below : List Frame} {meth : Method} {c : Code} {D : zD} {B n n0 n' fd ld : Nat} {K K0 K' : zK} {I I' : zI} {R R' : zR} {H : Heap} {locs : List Loc} {ls : Array Slot} {r : Int32}
set_option maxRecDepth 100000 in
set_option maxHeartbeats 4000000 in
theorem c_X7_learn (l : Launch) (D : zD) (B n : Nat) {F : Nat} {K : zK} {I : zI} {R : zR} {a0 : Nat} {x1 : Int32} {x2 : Int32} {x3 : Int32} {x4 : Int32} {x5 : Int32} {x6 : Int32} {r : Int32} {I' : zI} (hK0 : (K a0).1 = 17) (hf : f_X7_learn F K I R a0 x1 x2 x3 x4 x5 x6 = some (r, I')) : zM l yX7_learn cX7_learn 7 (some .int) ({ frames := 6, cells := 0, slots := 0, locals := 176 } : Room) D B n K I R [.ref (B + a0), .int x1, .int x2, .int x3, .int x4, .int x5, .int x6] (zQi D (zOwn B K (B + n)) r B n K I' R) := by
  refine ze_entry (lv0 := [(0, .ref (B + a0)), (1, .int x1), (2, .int x2), (3, .int x3), (4, .int x4), (5, .int x5), (6, .int x6)]) (by decide) (by simp [lg_sl, zcat, zcat_i, zcat_r, zcat_l]) (by simp [lv_args, zcat, zcat_i, zcat_r, zcat_l]) (fun p e s m below meth c X hr hlk hin hW ls hl => ?_)
  unfold f_X7_learn at hf
  refine lv_iload_n X.1 X.2.1 dX7_learn_0 rfl (lv_at hl 1 rfl) ?_
  obtain ⟨v1, h2, hg⟩ := zh_bd hf
  replace hf := hg
  refine ze_aftI0 (ze_runS (As := [.int x1]) (rest := []) X 182 (c_X7_isRegister l D B n h2) vX7_isRegister kml_X7_182 hW ⟨by decide, by decide⟩ rfl hl.1 rfl (Nat.le_of_ble_eq_true rfl) ⟨Nat.le_refl _, Nat.le_refl _⟩ dX7_learn_1) hW (fun H locs hV => ?_)
  replace hW := hV
  refine lv_if_eq (tgt := 52) X.1 X.2.1 dX7_learn_4 (by decide) (fun c3 => ?_) (fun c3 => ?_)
  · replace hf := zif_pos c3 hf
    refine lv_iconst (v := -1) X.1 X.2.1 dX7_learn_52 (by decide) ?_
    obtain ⟨rfl, rfl⟩ := zi2 hf
    exact ze_retI X hr hlk hW (Nat.le_refl _) (Nat.le_refl _) dX7_learn_53
  · replace hf := zif_neg c3 hf
    refine lv_iload_n X.1 X.2.1 dX7_learn_7 rfl (lv_at hl 2 rfl) ?_
    obtain ⟨v4, h5, hg⟩ := zh_bd hf
    replace hf := hg
    refine ze_aftI0 (ze_runS (As := [.int x2]) (rest := []) X 182 (c_X7_isRegister l D B n h5) vX7_isRegister kml_X7_182 hW ⟨by decide, by decide⟩ rfl hl.1 rfl (Nat.le_of_ble_eq_true rfl) ⟨Nat.le_refl _, Nat.le_refl _⟩ dX7_learn_8) hW (fun H locs hV => ?_)
    replace hW := hV
    refine lv_if_eq (tgt := 52) X.1 X.2.1 dX7_learn_11 (by decide) (fun c6 => ?_) (fun c6 => ?_)
    · replace hf := zif_pos c6 hf
      refine lv_iconst (v := -1) X.1 X.2.1 dX7_learn_52 (by decide) ?_
      obtain ⟨rfl, rfl⟩ := zi2 hf
      exact ze_retI X hr hlk hW (Nat.le_refl _) (Nat.le_refl _) dX7_learn_53
    · replace hf := zif_neg c6 hf
      refine lv_iload_n X.1 X.2.1 dX7_learn_14 rfl (lv_at hl 3 rfl) ?_
      obtain ⟨v7, h8, hg⟩ := zh_bd hf
      replace hf := hg
      refine ze_aftI0 (ze_runS (As := [.int x3]) (rest := []) X 182 (c_X7_isRegister l D B n h8) vX7_isRegister kml_X7_182 hW ⟨by decide, by decide⟩ rfl hl.1 rfl (Nat.le_of_ble_eq_true rfl) ⟨Nat.le_refl _, Nat.le_refl _⟩ dX7_learn_15) hW (fun H locs hV => ?_)
      replace hW := hV
      refine lv_if_eq (tgt := 52) X.1 X.2.1 dX7_learn_18 (by decide) (fun c9 => ?_) (fun c9 => ?_)
      · replace hf := zif_pos c9 hf
        refine lv_iconst (v := -1) X.1 X.2.1 dX7_learn_52 (by decide) ?_
        obtain ⟨rfl, rfl⟩ := zi2 hf
        exact ze_retI X hr hlk hW (Nat.le_refl _) (Nat.le_refl _) dX7_learn_53
      · replace hf := zif_neg c9 hf
        refine lv_iload X.1 X.2.1 dX7_learn_21 (lv_at hl 4 rfl) ?_
        obtain ⟨v10, h11, hg⟩ := zh_bd hf
        replace hf := hg
        refine ze_aftI0 (ze_runS (As := [.int x4]) (rest := []) X 182 (c_X7_isRegister l D B n h11) vX7_isRegister kml_X7_182 hW ⟨by decide, by decide⟩ rfl hl.1 rfl (Nat.le_of_ble_eq_true rfl) ⟨Nat.le_refl _, Nat.le_refl _⟩ dX7_learn_23) hW (fun H locs hV => ?_)
        replace hW := hV
        refine lv_if_eq (tgt := 52) X.1 X.2.1 dX7_learn_26 (by decide) (fun c12 => ?_) (fun c12 => ?_)
        · replace hf := zif_pos c12 hf
          refine lv_iconst (v := -1) X.1 X.2.1 dX7_learn_52 (by decide) ?_
          obtain ⟨rfl, rfl⟩ := zi2 hf
          exact ze_retI X hr hlk hW (Nat.le_refl _) (Nat.le_refl _) dX7_learn_53
        · replace hf := zif_neg c12 hf
          refine lv_iload X.1 X.2.1 dX7_learn_29 (lv_at hl 5 rfl) ?_
          obtain ⟨v13, h14, hg⟩ := zh_bd hf
          replace hf := hg
          refine ze_aftI0 (ze_runS (As := [.int x5]) (rest := []) X 182 (c_X7_isRegister l D B n h14) vX7_isRegister kml_X7_182 hW ⟨by decide, by decide⟩ rfl hl.1 rfl (Nat.le_of_ble_eq_true rfl) ⟨Nat.le_refl _, Nat.le_refl _⟩ dX7_learn_31) hW (fun H locs hV => ?_)
          replace hW := hV
          refine lv_if_eq (tgt := 52) X.1 X.2.1 dX7_learn_34 (by decide) (fun c15 => ?_) (fun c15 => ?_)
          · replace hf := zif_pos c15 hf
            refine lv_iconst (v := -1) X.1 X.2.1 dX7_learn_52 (by decide) ?_
            obtain ⟨rfl, rfl⟩ := zi2 hf
            exact ze_retI X hr hlk hW (Nat.le_refl _) (Nat.le_refl _) dX7_learn_53
          · replace hf := zif_neg c15 hf
            refine lv_iload X.1 X.2.1 dX7_learn_37 (lv_at hl 6 rfl) ?_
            obtain ⟨v16, h17, hg⟩ := zh_bd hf
            replace hf := hg
            refine ze_aftI0 (ze_runS (As := [.int x6]) (rest := []) X 182 (c_X7_isRegister l D B n h17) vX7_isRegister kml_X7_182 hW ⟨by decide, by decide⟩ rfl hl.1 rfl (Nat.le_of_ble_eq_true rfl) ⟨Nat.le_refl _, Nat.le_refl _⟩ dX7_learn_39) hW (fun H locs hV => ?_)
            replace hW := hV
            refine lv_if_eq (tgt := 52) X.1 X.2.1 dX7_learn_42 (by decide) (fun c18 => ?_) (fun c18 => ?_)
            · replace hf := zif_pos c18 hf
              refine lv_iconst (v := -1) X.1 X.2.1 dX7_learn_52 (by decide) ?_
              obtain ⟨rfl, rfl⟩ := zi2 hf
              exact ze_retI X hr hlk hW (Nat.le_refl _) (Nat.le_refl _) dX7_learn_53
            · replace hf := zif_neg c18 hf
              refine lv_iload X.1 X.2.1 dX7_learn_45 (lv_at hl 5 rfl) ?_
              refine lv_iload X.1 X.2.1 dX7_learn_47 (lv_at hl 6 rfl) ?_
              refine lv_icmp_ne (tgt := 54) X.1 X.2.1 dX7_learn_49 (by decide) (fun c19 => ?_) (fun c19 => ?_)
              · replace hf := zif_neg c19 hf
                refine lv_aload_n X.1 X.2.1 dX7_learn_54 rfl (lv_at hl 0 rfl) ?_
                refine lv_iload_n X.1 X.2.1 dX7_learn_55 rfl (lv_at hl 1 rfl) ?_
                obtain ⟨v20, h21, hg⟩ := zh_bd hf
                replace hf := hg
                refine ze_aftI0 (ze_runV (As := [.int x1]) (rest := []) X 7 204 (c_X7_isEmpty l D B n hK0 h21) vX7_isEmpty kml_X7_204 hW hK0 rfl rfl ⟨by decide, by decide⟩ rfl hl.1 rfl (Nat.le_of_ble_eq_true rfl) ⟨Nat.le_refl _, Nat.le_refl _⟩ dX7_learn_56) hW (fun H locs hV => ?_)
                replace hW := hV
                refine lv_if_ne (tgt := 87) X.1 X.2.1 dX7_learn_59 (by decide) (fun c22 => ?_) (fun c22 => ?_)
                · replace hf := zif_neg c22 hf
                  refine lv_bipush (v := -2) X.1 X.2.1 dX7_learn_87 (by decide) ?_
                  obtain ⟨rfl, rfl⟩ := zi2 hf
                  exact ze_retI X hr hlk hW (Nat.le_refl _) (Nat.le_refl _) dX7_learn_89
                · replace hf := zif_pos c22 hf
                  refine lv_aload_n X.1 X.2.1 dX7_learn_62 rfl (lv_at hl 0 rfl) ?_
                  refine lv_iload_n X.1 X.2.1 dX7_learn_63 rfl (lv_at hl 2 rfl) ?_
                  obtain ⟨v23, h24, hg⟩ := zh_bd hf
                  replace hf := hg
                  refine ze_aftI0 (ze_runV (As := [.int x2]) (rest := []) X 7 204 (c_X7_isEmpty l D B n hK0 h24) vX7_isEmpty kml_X7_204 hW hK0 rfl rfl ⟨by decide, by decide⟩ rfl hl.1 rfl (Nat.le_of_ble_eq_true rfl) ⟨Nat.le_refl _, Nat.le_refl _⟩ dX7_learn_64) hW (fun H locs hV => ?_)
                  replace hW := hV
                  refine lv_if_ne (tgt := 87) X.1 X.2.1 dX7_learn_67 (by decide) (fun c25 => ?_) (fun c25 => ?_)
                  · replace hf := zif_neg c25 hf
                    refine lv_bipush (v := -2) X.1 X.2.1 dX7_learn_87 (by decide) ?_
                    obtain ⟨rfl, rfl⟩ := zi2 hf
                    exact ze_retI X hr hlk hW (Nat.le_refl _) (Nat.le_refl _) dX7_learn_89
                  · replace hf := zif_pos c25 hf
                    refine lv_aload_n X.1 X.2.1 dX7_learn_70 rfl (lv_at hl 0 rfl) ?_
                    refine lv_iload_n X.1 X.2.1 dX7_learn_71 rfl (lv_at hl 3 rfl) ?_
                    obtain ⟨v26, h27, hg⟩ := zh_bd hf
                    replace hf := hg
                    refine ze_aftI0 (ze_runV (As := [.int x3]) (rest := []) X 7 204 (c_X7_isEmpty l D B n hK0 h27) vX7_isEmpty kml_X7_204 hW hK0 rfl rfl ⟨by decide, by decide⟩ rfl hl.1 rfl (Nat.le_of_ble_eq_true rfl) ⟨Nat.le_refl _, Nat.le_refl _⟩ dX7_learn_72) hW (fun H locs hV => ?_)
                    replace hW := hV
                    refine lv_if_ne (tgt := 87) X.1 X.2.1 dX7_learn_75 (by decide) (fun c28 => ?_) (fun c28 => ?_)
                    · replace hf := zif_neg c28 hf
                      refine lv_bipush (v := -2) X.1 X.2.1 dX7_learn_87 (by decide) ?_
                      obtain ⟨rfl, rfl⟩ := zi2 hf
                      exact ze_retI X hr hlk hW (Nat.le_refl _) (Nat.le_refl _) dX7_learn_89
                    · replace hf := zif_pos c28 hf
                      refine lv_aload_n X.1 X.2.1 dX7_learn_78 rfl (lv_at hl 0 rfl) ?_
                      refine lv_iload X.1 X.2.1 dX7_learn_79 (lv_at hl 4 rfl) ?_
                      obtain ⟨v29, h30, hg⟩ := zh_bd hf
                      replace hf := hg
                      refine ze_aftI0 (ze_runV (As := [.int x4]) (rest := []) X 7 204 (c_X7_isEmpty l D B n hK0 h30) vX7_isEmpty kml_X7_204 hW hK0 rfl rfl ⟨by decide, by decide⟩ rfl hl.1 rfl (Nat.le_of_ble_eq_true rfl) ⟨Nat.le_refl _, Nat.le_refl _⟩ dX7_learn_81) hW (fun H locs hV => ?_)
                      replace hW := hV
                      refine lv_if_eq (tgt := 90) X.1 X.2.1 dX7_learn_84 (by decide) (fun c31 => ?_) (fun c31 => ?_)
                      · replace hf := zif_pos c31 hf
                        refine lv_aload_n X.1 X.2.1 dX7_learn_90 rfl (lv_at hl 0 rfl) ?_
                        refine lv_iconst (v := 0) X.1 X.2.1 dX7_learn_91 (by decide) ?_
                        refine ze_putI X 7 16 221 (RX7, TX7, 39) rfl hf hW hK0 rfl (by decide) kfl_X7_221 rfl (by decide +kernel) dX7_learn_92 (fun I32 H locs hg hV => ?_)
                        replace hf := hg
                        replace hW := hV
                        refine lv_aload_n X.1 X.2.1 dX7_learn_95 rfl (lv_at hl 0 rfl) ?_
                        refine lv_bipush (v := 97) X.1 X.2.1 dX7_learn_96 (by decide) ?_
                        refine lv_iload_n X.1 X.2.1 dX7_learn_98 rfl (lv_at hl 1 rfl) ?_
                        refine lv_imul X.1 X.2.1 dX7_learn_99 ?_
                        refine lv_bipush (v := 97) X.1 X.2.1 dX7_learn_100 (by decide) ?_
                        refine lv_iload_n X.1 X.2.1 dX7_learn_102 rfl (lv_at hl 3 rfl) ?_
                        refine lv_imul X.1 X.2.1 dX7_learn_103 ?_
                        refine lv_sipush (v := 5460) X.1 X.2.1 dX7_learn_104 (by decide) ?_
                        obtain ⟨v33, I34, h35, hg⟩ := zh_bd2 hf
                        replace hf := hg
                        refine ze_aftI0 (ze_runV (As := [.int ((97 : Int32) * x1), .int ((97 : Int32) * x3), .int (5460 : Int32)]) (rest := []) X 7 258 (c_X7_joins l D B n hK0 h35) vX7_joins kml_X7_258 hW hK0 rfl rfl ⟨by decide, by decide⟩ rfl hl.1 rfl (Nat.le_of_ble_eq_true rfl) ⟨Nat.le_refl _, Nat.le_refl _⟩ dX7_learn_107) hW (fun H locs hV => ?_)
                        replace hW := hV
                        refine lv_if_eq (tgt := 132) X.1 X.2.1 dX7_learn_110 (by decide) (fun c36 => ?_) (fun c36 => ?_)
                        · replace hf := zif_pos c36 hf
                          refine lv_bipush (v := -3) X.1 X.2.1 dX7_learn_132 (by decide) ?_
                          obtain ⟨rfl, rfl⟩ := zi2 hf
                          exact ze_retI X hr hlk hW (Nat.le_refl _) (Nat.le_refl _) dX7_learn_134
                        · replace hf := zif_neg c36 hf
                          refine lv_aload_n X.1 X.2.1 dX7_learn_113 rfl (lv_at hl 0 rfl) ?_
                          refine lv_bipush (v := 97) X.1 X.2.1 dX7_learn_114 (by decide) ?_
                          refine lv_iload_n X.1 X.2.1 dX7_learn_116 rfl (lv_at hl 2 rfl) ?_
                          refine lv_imul X.1 X.2.1 dX7_learn_117 ?_
                          refine lv_bipush (v := 97) X.1 X.2.1 dX7_learn_118 (by decide) ?_
                          refine lv_iload X.1 X.2.1 dX7_learn_120 (lv_at hl 4 rfl) ?_
                          refine lv_imul X.1 X.2.1 dX7_learn_122 ?_
                          refine lv_sipush (v := 5557) X.1 X.2.1 dX7_learn_123 (by decide) ?_
                          obtain ⟨v37, I38, h39, hg⟩ := zh_bd2 hf
                          replace hf := hg
                          refine ze_aftI0 (ze_runV (As := [.int ((97 : Int32) * x2), .int ((97 : Int32) * x4), .int (5557 : Int32)]) (rest := []) X 7 258 (c_X7_joins l D B n hK0 h39) vX7_joins kml_X7_258 hW hK0 rfl rfl ⟨by decide, by decide⟩ rfl hl.1 rfl (Nat.le_of_ble_eq_true rfl) ⟨Nat.le_refl _, Nat.le_refl _⟩ dX7_learn_126) hW (fun H locs hV => ?_)
                          replace hW := hV
                          refine lv_if_ne (tgt := 135) X.1 X.2.1 dX7_learn_129 (by decide) (fun c40 => ?_) (fun c40 => ?_)
                          · replace hf := zif_neg c40 hf
                            refine lv_aload_n X.1 X.2.1 dX7_learn_135 rfl (lv_at hl 0 rfl) ?_
                            obtain ⟨I41, h42, hg⟩ := zh_bd hf
                            replace hf := hg
                            refine ze_aftV0 (ze_runV (As := []) (rest := []) X 7 198 (c_X7_records l D B n hK0 h42) vX7_records kml_X7_198 hW hK0 rfl rfl ⟨by decide, by decide⟩ rfl hl.1 rfl (Nat.le_of_ble_eq_true rfl) ⟨Nat.le_refl _, Nat.le_refl _⟩ dX7_learn_136) hW (fun H locs hV => ?_)
                            replace hW := hV
                            refine lv_aload_n X.1 X.2.1 dX7_learn_139 rfl (lv_at hl 0 rfl) ?_
                            refine lv_sipush (v := 5460) X.1 X.2.1 dX7_learn_140 (by decide) ?_
                            refine lv_iload X.1 X.2.1 dX7_learn_143 (lv_at hl 5 rfl) ?_
                            obtain ⟨v43, I44, h45, hg⟩ := zh_bd2 hf
                            replace hf := hg
                            refine ze_aftI0 (ze_runV (As := [.int (5460 : Int32), .int x5]) (rest := []) X 7 201 (c_X7_puts l D B n hK0 h45) vX7_puts kml_X7_201 hW hK0 rfl rfl ⟨by decide, by decide⟩ rfl hl.1 rfl (Nat.le_of_ble_eq_true rfl) ⟨Nat.le_refl _, Nat.le_refl _⟩ dX7_learn_145) hW (fun H locs hV => ?_)
                            replace hW := hV
                            refine lv_pop X.1 X.2.1 dX7_learn_148 rfl ?_
                            refine lv_aload_n X.1 X.2.1 dX7_learn_149 rfl (lv_at hl 0 rfl) ?_
                            refine lv_sipush (v := 5557) X.1 X.2.1 dX7_learn_150 (by decide) ?_
                            refine lv_iload X.1 X.2.1 dX7_learn_153 (lv_at hl 6 rfl) ?_
                            obtain ⟨v46, I47, h48, hg⟩ := zh_bd2 hf
                            replace hf := hg
                            refine ze_aftI0 (ze_runV (As := [.int (5557 : Int32), .int x6]) (rest := []) X 7 201 (c_X7_puts l D B n hK0 h48) vX7_puts kml_X7_201 hW hK0 rfl rfl ⟨by decide, by decide⟩ rfl hl.1 rfl (Nat.le_of_ble_eq_true rfl) ⟨Nat.le_refl _, Nat.le_refl _⟩ dX7_learn_155) hW (fun H locs hV => ?_)
                            replace hW := hV
                            refine lv_pop X.1 X.2.1 dX7_learn_158 rfl ?_
                            refine lv_aload_n X.1 X.2.1 dX7_learn_159 rfl (lv_at hl 0 rfl) ?_
                            refine lv_sipush (v := 5557) X.1 X.2.1 dX7_learn_160 (by decide) ?_
                            obtain ⟨v49, h50, hg⟩ := zh_bd hf
                            replace hf := hg
                            refine ze_aftI0 (ze_runV (As := [.int (5557 : Int32)]) (rest := []) X 7 211 (c_X7_holesOf l D B n hK0 h50) vX7_holesOf kml_X7_211 hW hK0 rfl rfl ⟨by decide, by decide⟩ rfl hl.1 rfl (Nat.le_of_ble_eq_true rfl) ⟨Nat.le_refl _, Nat.le_refl _⟩ dX7_learn_163) hW (fun H locs hV => ?_)
                            replace hW := hV
                            refine lv_aload_n X.1 X.2.1 dX7_learn_166 rfl (lv_at hl 0 rfl) ?_
                            refine lv_sipush (v := 5460) X.1 X.2.1 dX7_learn_167 (by decide) ?_
                            obtain ⟨v51, h52, hg⟩ := zh_bd hf
                            replace hf := hg
                            refine ze_aftI0 (ze_runV (As := [.int (5460 : Int32)]) (rest := [.int v49]) X 7 211 (c_X7_holesOf l D B n hK0 h52) vX7_holesOf kml_X7_211 hW hK0 rfl rfl ⟨by decide, by decide⟩ rfl hl.1 rfl (Nat.le_of_ble_eq_true rfl) ⟨Nat.le_refl _, Nat.le_refl _⟩ dX7_learn_170) hW (fun H locs hV => ?_)
                            replace hW := hV
                            refine lv_iconst (v := -1) X.1 X.2.1 dX7_learn_173 (by decide) ?_
                            refine lv_ixor X.1 X.2.1 dX7_learn_174 ?_
                            refine lv_iand X.1 X.2.1 dX7_learn_175 ?_
                            refine lv_if_ne (tgt := 183) X.1 X.2.1 dX7_learn_176 (by decide) (fun c53 => ?_) (fun c53 => ?_)
                            · replace hf := zif_neg c53 hf
                              refine lv_iconst (v := 0) X.1 X.2.1 dX7_learn_183 (by decide) ?_
                              obtain ⟨rfl, rfl⟩ := zi2 hf
                              exact ze_retI X hr hlk hW (Nat.le_refl _) (Nat.le_refl _) dX7_learn_184
                            · replace hf := zif_pos c53 hf
                              refine lv_iconst (v := 1) X.1 X.2.1 dX7_learn_179 (by decide) ?_
                              refine lv_goto (tgt := 184) X.1 X.2.1 dX7_learn_180 (by decide) ?_
                              obtain ⟨rfl, rfl⟩ := zi2 hf
                              exact ze_retI X hr hlk hW (Nat.le_refl _) (Nat.le_refl _) dX7_learn_184
                          · replace hf := zif_pos c40 hf
                            refine lv_bipush (v := -3) X.1 X.2.1 dX7_learn_132 (by decide) ?_
                            obtain ⟨rfl, rfl⟩ := zi2 hf
                            exact ze_retI X hr hlk hW (Nat.le_refl _) (Nat.le_refl _) dX7_learn_134
                      · replace hf := zif_neg c31 hf
                        refine lv_bipush (v := -2) X.1 X.2.1 dX7_learn_87 (by decide) ?_
                        obtain ⟨rfl, rfl⟩ := zi2 hf
                        exact ze_retI X hr hlk hW (Nat.le_refl _) (Nat.le_refl _) dX7_learn_89
              · replace hf := zif_pos c19 hf
                refine lv_iconst (v := -1) X.1 X.2.1 dX7_learn_52 (by decide) ?_
                obtain ⟨rfl, rfl⟩ := zi2 hf
                exact ze_retI X hr hlk hW (Nat.le_refl _) (Nat.le_refl _) dX7_learn_53
end

/-! LeastPatternsModel.sortOf(II)I -/
def f_X7_sortOf_38 (F : Nat) (K : zK) (I : zI) (R : zR) (a0 : Nat) (k2 : Int32 → Int32 → Int32 → Option (Int32)) (x1 : Int32) (x2 : Int32) (x3 : Int32) : Option (Int32) :=
  k2 x1 x2 (x3 + (1 : Int32))
def g_X7_sortOf_2 (F : Nat) (K : zK) (I : zI) (R : zR) (a0 : Nat)  (kself : Int32 → Int32 → Int32 → Option (Int32)) (x1 : Int32) (x2 : Int32) (x3 : Int32) : Option (Int32) :=
  zbd (some (R a0 0)) fun o1 =>
  zbd (zdr K o1 1) fun a2 =>
  zbd (zrd K I a2 x1) fun v5 =>
  if v5 ≤ x3 then
    some (-9 : Int32)
  else
    zbd (f_X7_sort F K I R a0 x1 x3) fun v7 =>
    if v7 = (0 : Int32) then
      f_X7_sortOf_38 F K I R a0 kself x1 x2 x3
    else
      zbd (f_X7_number F K I R a0 x1 x3) fun v10 =>
      if v10 = x2 then
        zbd (f_X7_sort F K I R a0 x1 x3) fun v13 =>
        some v13
      else
        f_X7_sortOf_38 F K I R a0 kself x1 x2 x3
def f_X7_sortOf_2 (F : Nat) (K : zK) (I : zI) (R : zR) (a0 : Nat)  : Nat → Int32 → Int32 → Int32 → Option (Int32)
  | 0, _, _, _ => none
  | t + 1, x1, x2, x3 => g_X7_sortOf_2 F K I R a0  (f_X7_sortOf_2 F K I R a0  t) x1 x2 x3
def f_X7_sortOf (F : Nat) (K : zK) (I : zI) (R : zR) (a0 : Nat) (x1 : Int32) (x2 : Int32) : Option (Int32) :=
  f_X7_sortOf_2 F K I R a0 F x1 x2 (0 : Int32)
section
variable {p : Program} {l : Launch} {e : Env} {s : State} {m : MethodId} {args : Array Value} {below : List Frame} {meth : Method} {c : Code} {D : zD} {B n n0 n' fd ld : Nat} {K K0 K' : zK} {I I' : zI} {R R' : zR} {H : Heap} {locs : List Loc} {ls : Array Slot} {r : Int32}
set_option maxRecDepth 100000 in
set_option maxHeartbeats 4000000 in
theorem w_X7_sortOf_38 {F : Nat} {a0 : Nat} {k2 : Int32 → Int32 → Int32 → Option (Int32)} (X : zX p s m c cX7_sortOf 4 RX7 D) (hr : meth.sig.returnType = some .int) (hlk : meth.locks = false) (hK0 : (K a0).1 = 17) (hk2 : ∀ (x1 : Int32) (x2 : Int32) (x3 : Int32) (H : Heap) (locs : List Loc) (ls : Array Slot), k2 x1 x2 x3 = some r → zS (zOwn B K (B + n)) D B n K I R s.heap H locs → lv_has ls 4 [(0, .ref (B + a0)), (1, .int x1), (2, .int x2), (3, .int x3)] → W p l e ({ frames := 2, cells := 0, slots := 0, locals := 62 } : Room) s m args below meth c H locs 0 0 (MQ below (zQi D (zOwn B K (B + n)) r B n K I R) args s 0 0 (zOwn B K (B + n))) (F0 m 2 ls [])) {x1 : Int32} {x2 : Int32} {x3 : Int32} (hf : f_X7_sortOf_38 F K I R a0 k2 x1 x2 x3 = some r) (hW : zS (zOwn B K (B + n)) D B n K I R s.heap H locs) (hl : lv_has ls 4 [(0, .ref (B + a0)), (1, .int x1), (2, .int x2), (3, .int x3)]) : W p l e ({ frames := 2, cells := 0, slots := 0, locals := 62 } : Room) s m args below meth c H locs 0 0 (MQ below (zQi D (zOwn B K (B + n)) r B n K I R) args s 0 0 (zOwn B K (B + n))) (F0 m 38 ls []) := by
  unfold f_X7_sortOf_38 at hf
  refine ze_iinc (lv' := [(3, .int (x3 + (1 : Int32))), (0, .ref (B + a0)), (1, .int x1), (2, .int x2)]) (d := 1) X.1 X.2.1 dX7_sortOf_38 hl (k := 3) rfl (by decide) (by decide) rfl (fun ls hk => ?_)
  replace hl := hk
  refine lv_goto (tgt := 2) X.1 X.2.1 dX7_sortOf_41 (by decide) ?_
  exact hk2 _ _ _ _ _ _ hf hW (lv_sub hl [1, 2, 3, 0] rfl)
set_option maxRecDepth 100000 in
set_option maxHeartbeats 4000000 in
theorem wg_X7_sortOf_2 {F : Nat} {a0 : Nat}  (X : zX p s m c cX7_sortOf 4 RX7 D) (hr : meth.sig.returnType = some .int) (hlk : meth.locks = false) (hK0 : (K a0).1 = 17)  {kself : Int32 → Int32 → Int32 → Option (Int32)} (hkself : ∀ (x1 : Int32) (x2 : Int32) (x3 : Int32) (H : Heap) (locs : List Loc) (ls : Array Slot), kself x1 x2 x3 = some r → zS (zOwn B K (B + n)) D B n K I R s.heap H locs → lv_has ls 4 [(0, .ref (B + a0)), (1, .int x1), (2, .int x2), (3, .int x3)] → W p l e ({ frames := 2, cells := 0, slots := 0, locals := 62 } : Room) s m args below meth c H locs 0 0 (MQ below (zQi D (zOwn B K (B + n)) r B n K I R) args s 0 0 (zOwn B K (B + n))) (F0 m 2 ls [])) {x1 : Int32} {x2 : Int32} {x3 : Int32} (hf : g_X7_sortOf_2 F K I R a0  kself x1 x2 x3 = some r) (hW : zS (zOwn B K (B + n)) D B n K I R s.heap H locs) (hl : lv_has ls 4 [(0, .ref (B + a0)), (1, .int x1), (2, .int x2), (3, .int x3)]) : W p l e ({ frames := 2, cells := 0, slots := 0, locals := 62 } : Room) s m args below meth c H locs 0 0 (MQ below (zQi D (zOwn B K (B + n)) r B n K I R) args s 0 0 (zOwn B K (B + n))) (F0 m 2 ls []) := by
  unfold g_X7_sortOf_2 at hf
  refine lv_iload_n X.1 X.2.1 dX7_sortOf_2 rfl (lv_at hl 3 rfl) ?_
  refine lv_aload_n X.1 X.2.1 dX7_sortOf_3 rfl (lv_at hl 0 rfl) ?_
  refine ze_gtR X 7 0 7 (RX7, TX7, 39) rfl hf hW hK0 rfl (by decide) kfl_X7_7 dX7_sortOf_4 (fun o1 hg => ?_)
  replace hf := hg
  refine lv_iload_n X.1 X.2.1 dX7_sortOf_7 rfl (lv_at hl 1 rfl) ?_
  obtain ⟨a2, rfl, k4, hg⟩ := zh_dr hf
  replace hf := hg
  refine ze_iald X hf hW k4 dX7_sortOf_8 (fun v5 hg => ?_)
  replace hf := hg
  refine lv_icmp_ge (tgt := 44) X.1 X.2.1 dX7_sortOf_9 (by decide) (fun c6 => ?_) (fun c6 => ?_)
  · replace hf := zif_pos c6 hf
    refine lv_bipush (v := -9) X.1 X.2.1 dX7_sortOf_44 (by decide) ?_
    obtain rfl := zi1 hf
    exact ze_retI X hr hlk hW (Nat.le_refl _) (Nat.le_refl _) dX7_sortOf_46
  · replace hf := zif_neg c6 hf
    refine lv_aload_n X.1 X.2.1 dX7_sortOf_12 rfl (lv_at hl 0 rfl) ?_
    refine lv_iload_n X.1 X.2.1 dX7_sortOf_13 rfl (lv_at hl 1 rfl) ?_
    refine lv_iload_n X.1 X.2.1 dX7_sortOf_14 rfl (lv_at hl 3 rfl) ?_
    obtain ⟨v7, h8, hg⟩ := zh_bd hf
    replace hf := hg
    refine ze_aftI0 (ze_runV (As := [.int x1, .int x3]) (rest := []) X 7 119 (c_X7_sort l D B n hK0 h8) vX7_sort kml_X7_119 hW hK0 rfl rfl ⟨by decide, by decide⟩ rfl hl.1 rfl (Nat.le_of_ble_eq_true rfl) ⟨Nat.le_refl _, Nat.le_refl _⟩ dX7_sortOf_15) hW (fun H locs hV => ?_)
    replace hW := hV
    refine lv_if_eq (tgt := 38) X.1 X.2.1 dX7_sortOf_18 (by decide) (fun c9 => ?_) (fun c9 => ?_)
    · replace hf := zif_pos c9 hf
      exact w_X7_sortOf_38 X hr hlk hK0 hkself hf hW hl
    · replace hf := zif_neg c9 hf
      refine lv_aload_n X.1 X.2.1 dX7_sortOf_21 rfl (lv_at hl 0 rfl) ?_
      refine lv_iload_n X.1 X.2.1 dX7_sortOf_22 rfl (lv_at hl 1 rfl) ?_
      refine lv_iload_n X.1 X.2.1 dX7_sortOf_23 rfl (lv_at hl 3 rfl) ?_
      obtain ⟨v10, h11, hg⟩ := zh_bd hf
      replace hf := hg
      refine ze_aftI0 (ze_runV (As := [.int x1, .int x3]) (rest := []) X 7 159 (c_X7_number l D B n hK0 h11) vX7_number kml_X7_159 hW hK0 rfl rfl ⟨by decide, by decide⟩ rfl hl.1 rfl (Nat.le_of_ble_eq_true rfl) ⟨Nat.le_refl _, Nat.le_refl _⟩ dX7_sortOf_24) hW (fun H locs hV => ?_)
      replace hW := hV
      refine lv_iload_n X.1 X.2.1 dX7_sortOf_27 rfl (lv_at hl 2 rfl) ?_
      refine lv_icmp_ne (tgt := 38) X.1 X.2.1 dX7_sortOf_28 (by decide) (fun c12 => ?_) (fun c12 => ?_)
      · replace hf := zif_neg c12 hf
        exact w_X7_sortOf_38 X hr hlk hK0 hkself hf hW hl
      · replace hf := zif_pos c12 hf
        refine lv_aload_n X.1 X.2.1 dX7_sortOf_31 rfl (lv_at hl 0 rfl) ?_
        refine lv_iload_n X.1 X.2.1 dX7_sortOf_32 rfl (lv_at hl 1 rfl) ?_
        refine lv_iload_n X.1 X.2.1 dX7_sortOf_33 rfl (lv_at hl 3 rfl) ?_
        obtain ⟨v13, h14, hg⟩ := zh_bd hf
        replace hf := hg
        refine ze_aftI0 (ze_runV (As := [.int x1, .int x3]) (rest := []) X 7 119 (c_X7_sort l D B n hK0 h14) vX7_sort kml_X7_119 hW hK0 rfl rfl ⟨by decide, by decide⟩ rfl hl.1 rfl (Nat.le_of_ble_eq_true rfl) ⟨Nat.le_refl _, Nat.le_refl _⟩ dX7_sortOf_34) hW (fun H locs hV => ?_)
        replace hW := hV
        obtain rfl := zi1 hf
        exact ze_retI X hr hlk hW (Nat.le_refl _) (Nat.le_refl _) dX7_sortOf_37
set_option maxRecDepth 100000 in
set_option maxHeartbeats 4000000 in
theorem w_X7_sortOf_2 {F : Nat} {a0 : Nat}  (X : zX p s m c cX7_sortOf 4 RX7 D) (hr : meth.sig.returnType = some .int) (hlk : meth.locks = false) (hK0 : (K a0).1 = 17)  {t : Nat} {x1 : Int32} {x2 : Int32} {x3 : Int32} (hf : f_X7_sortOf_2 F K I R a0  t x1 x2 x3 = some r) (hW : zS (zOwn B K (B + n)) D B n K I R s.heap H locs) (hl : lv_has ls 4 [(0, .ref (B + a0)), (1, .int x1), (2, .int x2), (3, .int x3)]) : W p l e ({ frames := 2, cells := 0, slots := 0, locals := 62 } : Room) s m args below meth c H locs 0 0 (MQ below (zQi D (zOwn B K (B + n)) r B n K I R) args s 0 0 (zOwn B K (B + n))) (F0 m 2 ls []) := by
  have key : ∀ t : Nat, ∀ (x1 : Int32) (x2 : Int32) (x3 : Int32) (H : Heap) (locs : List Loc) (ls : Array Slot), f_X7_sortOf_2 F K I R a0  t x1 x2 x3 = some r → zS (zOwn B K (B + n)) D B n K I R s.heap H locs → lv_has ls 4 [(0, .ref (B + a0)), (1, .int x1), (2, .int x2), (3, .int x3)] → W p l e ({ frames := 2, cells := 0, slots := 0, locals := 62 } : Room) s m args below meth c H locs 0 0 (MQ below (zQi D (zOwn B K (B + n)) r B n K I R) args s 0 0 (zOwn B K (B + n))) (F0 m 2 ls []) := by
    intro t
    induction t with
    | zero =>
      intro x1 x2 x3 H locs ls hf hW hl
      cases hf
    | succ t ih =>
      intro x1 x2 x3 H locs ls hf hW hl
      exact wg_X7_sortOf_2 X hr hlk hK0  ih hf hW hl
  exact key t _ _ _ _ _ _ hf hW hl
set_option maxRecDepth 100000 in
set_option maxHeartbeats 4000000 in
theorem c_X7_sortOf (l : Launch) (D : zD) (B n : Nat) {F : Nat} {K : zK} {I : zI} {R : zR} {a0 : Nat} {x1 : Int32} {x2 : Int32} {r : Int32} (hK0 : (K a0).1 = 17) (hf : f_X7_sortOf F K I R a0 x1 x2 = some r) : zM l yX7_sortOf cX7_sortOf 4 (some .int) ({ frames := 2, cells := 0, slots := 0, locals := 62 } : Room) D B n K I R [.ref (B + a0), .int x1, .int x2] (zQi D (zOwn B K (B + n)) r B n K I R) := by
  refine ze_entry (lv0 := [(0, .ref (B + a0)), (1, .int x1), (2, .int x2)]) (by decide) (by simp [lg_sl, zcat, zcat_i, zcat_r, zcat_l]) (by simp [lv_args, zcat, zcat_i, zcat_r, zcat_l]) (fun p e s m below meth c X hr hlk hin hW ls hl => ?_)
  unfold f_X7_sortOf at hf
  refine lv_iconst (v := 0) X.1 X.2.1 dX7_sortOf_0 (by decide) ?_
  refine lv_istore_n (i := 3) (lv' := [(3, .int (0 : Int32)), (0, .ref (B + a0)), (1, .int x1), (2, .int x2)]) X.1 X.2.1 dX7_sortOf_1 rfl hl (by decide) rfl (fun ls hk => ?_)
  replace hl := hk
  exact w_X7_sortOf_2 X hr hlk hK0 hf hW (lv_sub hl [1, 2, 3, 0] rfl)
end

/-! LeastPatternsModel.widthOf(II)I -/
def f_X7_widthOf_49 (F : Nat) (K : zK) (I : zI) (R : zR) (a0 : Nat) (k10 : Int32 → Int32 → Int32 → Int32 → Int32 → Option (Int32)) (x1 : Int32) (x2 : Int32) (x4 : Int32) (x5 : Int32) (s0 : Int32) (s1 : Int32) : Option (Int32) :=
  zbd (some (s0 + s1)) fun v1 =>
  zbd (some (R a0 5)) fun o2 =>
  zbd (zdr K o2 1) fun a3 =>
  zbd (zrd K I a3 x4) fun v6 =>
  zbd (some (x4 + v6)) fun v7 =>
  k10 x1 x2 v1 v7 (x5 + (1 : Int32))
def g_X7_widthOf_10 (F : Nat) (K : zK) (I : zI) (R : zR) (a0 : Nat)  (kself : Int32 → Int32 → Int32 → Int32 → Int32 → Option (Int32)) (x1 : Int32) (x2 : Int32) (x3 : Int32) (x4 : Int32) (x5 : Int32) : Option (Int32) :=
  zbd (f_X7_arguments F K I R a0 x1 x2) fun v8 =>
  if v8 ≤ x5 then
    some x3
  else
    zbd (f_X7_sort F K I R a0 x1 x4) fun v11 =>
    if v11 = (3 : Int32) then
      zbd (some (R a0 32)) fun o14 =>
      zbd (f_X7_number F K I R a0 x1 x4) fun v15 =>
      zbd (zdr K o14 1) fun a17 =>
      zbd (zrd K I a17 v15) fun v20 =>
      f_X7_widthOf_49 F K I R a0 kself x1 x2 x4 x5 x3 v20
    else
      f_X7_widthOf_49 F K I R a0 kself x1 x2 x4 x5 x3 (1 : Int32)
def f_X7_widthOf_10 (F : Nat) (K : zK) (I : zI) (R : zR) (a0 : Nat)  : Nat → Int32 → Int32 → Int32 → Int32 → Int32 → Option (Int32)
  | 0, _, _, _, _, _ => none
  | t + 1, x1, x2, x3, x4, x5 => g_X7_widthOf_10 F K I R a0  (f_X7_widthOf_10 F K I R a0  t) x1 x2 x3 x4 x5
def f_X7_widthOf (F : Nat) (K : zK) (I : zI) (R : zR) (a0 : Nat) (x1 : Int32) (x2 : Int32) : Option (Int32) :=
  zbd (some (x2 + (1 : Int32))) fun v21 =>
  f_X7_widthOf_10 F K I R a0 F x1 x2 (0 : Int32) v21 (0 : Int32)
section
variable {p : Program} {l : Launch} {e : Env} {s : State} {m : MethodId} {args : Array Value} {below : List Frame} {meth : Method} {c : Code} {D : zD} {B n n0 n' fd ld : Nat} {K K0 K' : zK} {I I' : zI} {R R' : zR} {H : Heap} {locs : List Loc} {ls : Array Slot} {r : Int32}
set_option maxRecDepth 100000 in
set_option maxHeartbeats 4000000 in
theorem w_X7_widthOf_49 {F : Nat} {a0 : Nat} {k10 : Int32 → Int32 → Int32 → Int32 → Int32 → Option (Int32)} (X : zX p s m c cX7_widthOf 6 RX7 D) (hr : meth.sig.returnType = some .int) (hlk : meth.locks = false) (hK0 : (K a0).1 = 17) (hk10 : ∀ (x1 : Int32) (x2 : Int32) (x3 : Int32) (x4 : Int32) (x5 : Int32) (H : Heap) (locs : List Loc) (ls : Array Slot), k10 x1 x2 x3 x4 x5 = some r → zS (zOwn B K (B + n)) D B n K I R s.heap H locs → lv_has ls 6 [(0, .ref (B + a0)), (1, .int x1), (2, .int x2), (3, .int x3), (4, .int x4), (5, .int x5)] → W p l e ({ frames := 2, cells := 0, slots := 0, locals := 62 } : Room) s m args below meth c H locs 0 0 (MQ below (zQi D (zOwn B K (B + n)) r B n K I R) args s 0 0 (zOwn B K (B + n))) (F0 m 10 ls [])) {x1 : Int32} {x2 : Int32} {x4 : Int32} {x5 : Int32} {s0 : Int32} {s1 : Int32} (hf : f_X7_widthOf_49 F K I R a0 k10 x1 x2 x4 x5 s0 s1 = some r) (hW : zS (zOwn B K (B + n)) D B n K I R s.heap H locs) (hl : lv_has ls 6 [(0, .ref (B + a0)), (1, .int x1), (2, .int x2), (4, .int x4), (5, .int x5)]) : W p l e ({ frames := 2, cells := 0, slots := 0, locals := 62 } : Room) s m args below meth c H locs 0 0 (MQ below (zQi D (zOwn B K (B + n)) r B n K I R) args s 0 0 (zOwn B K (B + n))) (F0 m 49 ls [.int s1, .int s0]) := by
  unfold f_X7_widthOf_49 at hf
  refine lv_iadd X.1 X.2.1 dX7_widthOf_49 ?_
  refine ze_nm hf (fun v1 hg => ?_)
  replace hf := hg
  refine lv_istore_n (i := 3) (lv' := [(3, .int v1), (0, .ref (B + a0)), (1, .int x1), (2, .int x2), (4, .int x4), (5, .int x5)]) X.1 X.2.1 dX7_widthOf_50 rfl hl (by decide) rfl (fun ls hk => ?_)
  replace hl := hk
  refine lv_iload X.1 X.2.1 dX7_widthOf_51 (lv_at hl 4 rfl) ?_
  refine lv_aload_n X.1 X.2.1 dX7_widthOf_53 rfl (lv_at hl 1 rfl) ?_
  refine ze_gtR X 7 5 20 (RX7, TX7, 39) rfl hf hW hK0 rfl (by decide) kfl_X7_20 dX7_widthOf_54 (fun o2 hg => ?_)
  replace hf := hg
  refine lv_iload X.1 X.2.1 dX7_widthOf_57 (lv_at hl 4 rfl) ?_
  obtain ⟨a3, rfl, k5, hg⟩ := zh_dr hf
  replace hf := hg
  refine ze_iald X hf hW k5 dX7_widthOf_59 (fun v6 hg => ?_)
  replace hf := hg
  refine lv_iadd X.1 X.2.1 dX7_widthOf_60 ?_
  refine ze_nm hf (fun v7 hg => ?_)
  replace hf := hg
  refine lv_istore (lv' := [(4, .int v7), (3, .int v1), (0, .ref (B + a0)), (1, .int x1), (2, .int x2), (5, .int x5)]) X.1 X.2.1 dX7_widthOf_61 hl (by decide) rfl (fun ls hk => ?_)
  replace hl := hk
  refine ze_iinc (lv' := [(5, .int (x5 + (1 : Int32))), (4, .int v7), (3, .int v1), (0, .ref (B + a0)), (1, .int x1), (2, .int x2)]) (d := 1) X.1 X.2.1 dX7_widthOf_63 hl (k := 5) rfl (by decide) (by decide) rfl (fun ls hk => ?_)
  replace hl := hk
  refine lv_goto (tgt := 10) X.1 X.2.1 dX7_widthOf_66 (by decide) ?_
  exact hk10 _ _ _ _ _ _ _ _ hf hW (lv_sub hl [3, 4, 5, 2, 1, 0] rfl)
set_option maxRecDepth 100000 in
set_option maxHeartbeats 4000000 in
theorem wg_X7_widthOf_10 {F : Nat} {a0 : Nat}  (X : zX p s m c cX7_widthOf 6 RX7 D) (hr : meth.sig.returnType = some .int) (hlk : meth.locks = false) (hK0 : (K a0).1 = 17)  {kself : Int32 → Int32 → Int32 → Int32 → Int32 → Option (Int32)} (hkself : ∀ (x1 : Int32) (x2 : Int32) (x3 : Int32) (x4 : Int32) (x5 : Int32) (H : Heap) (locs : List Loc) (ls : Array Slot), kself x1 x2 x3 x4 x5 = some r → zS (zOwn B K (B + n)) D B n K I R s.heap H locs → lv_has ls 6 [(0, .ref (B + a0)), (1, .int x1), (2, .int x2), (3, .int x3), (4, .int x4), (5, .int x5)] → W p l e ({ frames := 2, cells := 0, slots := 0, locals := 62 } : Room) s m args below meth c H locs 0 0 (MQ below (zQi D (zOwn B K (B + n)) r B n K I R) args s 0 0 (zOwn B K (B + n))) (F0 m 10 ls [])) {x1 : Int32} {x2 : Int32} {x3 : Int32} {x4 : Int32} {x5 : Int32} (hf : g_X7_widthOf_10 F K I R a0  kself x1 x2 x3 x4 x5 = some r) (hW : zS (zOwn B K (B + n)) D B n K I R s.heap H locs) (hl : lv_has ls 6 [(0, .ref (B + a0)), (1, .int x1), (2, .int x2), (3, .int x3), (4, .int x4), (5, .int x5)]) : W p l e ({ frames := 2, cells := 0, slots := 0, locals := 62 } : Room) s m args below meth c H locs 0 0 (MQ below (zQi D (zOwn B K (B + n)) r B n K I R) args s 0 0 (zOwn B K (B + n))) (F0 m 10 ls []) := by
  unfold g_X7_widthOf_10 at hf
  refine lv_iload X.1 X.2.1 dX7_widthOf_10 (lv_at hl 5 rfl) ?_
  refine lv_aload_n X.1 X.2.1 dX7_widthOf_12 rfl (lv_at hl 0 rfl) ?_
  refine lv_iload_n X.1 X.2.1 dX7_widthOf_13 rfl (lv_at hl 1 rfl) ?_
  refine lv_iload_n X.1 X.2.1 dX7_widthOf_14 rfl (lv_at hl 2 rfl) ?_
  obtain ⟨v8, h9, hg⟩ := zh_bd hf
  replace hf := hg
  refine ze_aftI0 (ze_runV (As := [.int x1, .int x2]) (rest := [.int x5]) X 7 111 (c_X7_arguments l D B n hK0 h9) vX7_arguments kml_X7_111 hW hK0 rfl rfl ⟨by decide, by decide⟩ rfl hl.1 rfl (Nat.le_of_ble_eq_true rfl) ⟨Nat.le_refl _, Nat.le_refl _⟩ dX7_widthOf_15) hW (fun H locs hV => ?_)
  replace hW := hV
  refine lv_icmp_ge (tgt := 69) X.1 X.2.1 dX7_widthOf_18 (by decide) (fun c10 => ?_) (fun c10 => ?_)
  · replace hf := zif_pos c10 hf
    refine lv_iload_n X.1 X.2.1 dX7_widthOf_69 rfl (lv_at hl 3 rfl) ?_
    obtain rfl := zi1 hf
    exact ze_retI X hr hlk hW (Nat.le_refl _) (Nat.le_refl _) dX7_widthOf_70
  · replace hf := zif_neg c10 hf
    refine lv_iload_n X.1 X.2.1 dX7_widthOf_21 rfl (lv_at hl 3 rfl) ?_
    refine lv_aload_n X.1 X.2.1 dX7_widthOf_22 rfl (lv_at hl 0 rfl) ?_
    refine lv_iload_n X.1 X.2.1 dX7_widthOf_23 rfl (lv_at hl 1 rfl) ?_
    refine lv_iload X.1 X.2.1 dX7_widthOf_24 (lv_at hl 4 rfl) ?_
    obtain ⟨v11, h12, hg⟩ := zh_bd hf
    replace hf := hg
    refine ze_aftI0 (ze_runV (As := [.int x1, .int x4]) (rest := [.int x3]) X 7 119 (c_X7_sort l D B n hK0 h12) vX7_sort kml_X7_119 hW hK0 rfl rfl ⟨by decide, by decide⟩ rfl hl.1 rfl (Nat.le_of_ble_eq_true rfl) ⟨Nat.le_refl _, Nat.le_refl _⟩ dX7_widthOf_26) hW (fun H locs hV => ?_)
    replace hW := hV
    refine lv_iconst (v := 3) X.1 X.2.1 dX7_widthOf_29 (by decide) ?_
    refine lv_icmp_ne (tgt := 48) X.1 X.2.1 dX7_widthOf_30 (by decide) (fun c13 => ?_) (fun c13 => ?_)
    · replace hf := zif_neg c13 hf
      refine lv_iconst (v := 1) X.1 X.2.1 dX7_widthOf_48 (by decide) ?_
      exact w_X7_widthOf_49 X hr hlk hK0 hkself hf hW (lv_sub hl [0, 1, 2, 4, 5] rfl)
    · replace hf := zif_pos c13 hf
      refine lv_aload_n X.1 X.2.1 dX7_widthOf_33 rfl (lv_at hl 0 rfl) ?_
      refine ze_gtR X 7 32 87 (RX7, TX7, 39) rfl hf hW hK0 rfl (by decide) kfl_X7_87 dX7_widthOf_34 (fun o14 hg => ?_)
      replace hf := hg
      refine lv_aload_n X.1 X.2.1 dX7_widthOf_37 rfl (lv_at hl 0 rfl) ?_
      refine lv_iload_n X.1 X.2.1 dX7_widthOf_38 rfl (lv_at hl 1 rfl) ?_
      refine lv_iload X.1 X.2.1 dX7_widthOf_39 (lv_at hl 4 rfl) ?_
      obtain ⟨v15, h16, hg⟩ := zh_bd hf
      replace hf := hg
      refine ze_aftI0 (ze_runV (As := [.int x1, .int x4]) (rest := [zrf B o14, .int x3]) X 7 159 (c_X7_number l D B n hK0 h16) vX7_number kml_X7_159 hW hK0 rfl rfl ⟨by decide, by decide⟩ rfl hl.1 rfl (by simp [zcat, zcat_i, zcat_r, zcat_l]) ⟨Nat.le_refl _, Nat.le_refl _⟩ dX7_widthOf_41) hW (fun H locs hV => ?_)
      replace hW := hV
      obtain ⟨a17, rfl, k19, hg⟩ := zh_dr hf
      replace hf := hg
      refine ze_iald X hf hW k19 dX7_widthOf_44 (fun v20 hg => ?_)
      replace hf := hg
      refine lv_goto (tgt := 49) X.1 X.2.1 dX7_widthOf_45 (by decide) ?_
      exact w_X7_widthOf_49 X hr hlk hK0 hkself hf hW (lv_sub hl [0, 1, 2, 4, 5] rfl)
set_option maxRecDepth 100000 in
set_option maxHeartbeats 4000000 in
theorem w_X7_widthOf_10 {F : Nat} {a0 : Nat}  (X : zX p s m c cX7_widthOf 6 RX7 D) (hr : meth.sig.returnType = some .int) (hlk : meth.locks = false) (hK0 : (K a0).1 = 17)  {t : Nat} {x1 : Int32} {x2 : Int32} {x3 : Int32} {x4 : Int32} {x5 : Int32} (hf : f_X7_widthOf_10 F K I R a0  t x1 x2 x3 x4 x5 = some r) (hW : zS (zOwn B K (B + n)) D B n K I R s.heap H locs) (hl : lv_has ls 6 [(0, .ref (B + a0)), (1, .int x1), (2, .int x2), (3, .int x3), (4, .int x4), (5, .int x5)]) : W p l e ({ frames := 2, cells := 0, slots := 0, locals := 62 } : Room) s m args below meth c H locs 0 0 (MQ below (zQi D (zOwn B K (B + n)) r B n K I R) args s 0 0 (zOwn B K (B + n))) (F0 m 10 ls []) := by
  have key : ∀ t : Nat, ∀ (x1 : Int32) (x2 : Int32) (x3 : Int32) (x4 : Int32) (x5 : Int32) (H : Heap) (locs : List Loc) (ls : Array Slot), f_X7_widthOf_10 F K I R a0  t x1 x2 x3 x4 x5 = some r → zS (zOwn B K (B + n)) D B n K I R s.heap H locs → lv_has ls 6 [(0, .ref (B + a0)), (1, .int x1), (2, .int x2), (3, .int x3), (4, .int x4), (5, .int x5)] → W p l e ({ frames := 2, cells := 0, slots := 0, locals := 62 } : Room) s m args below meth c H locs 0 0 (MQ below (zQi D (zOwn B K (B + n)) r B n K I R) args s 0 0 (zOwn B K (B + n))) (F0 m 10 ls []) := by
    intro t
    induction t with
    | zero =>
      intro x1 x2 x3 x4 x5 H locs ls hf hW hl
      cases hf
    | succ t ih =>
      intro x1 x2 x3 x4 x5 H locs ls hf hW hl
      exact wg_X7_widthOf_10 X hr hlk hK0  ih hf hW hl
  exact key t _ _ _ _ _ _ _ _ hf hW hl
set_option maxRecDepth 100000 in
set_option maxHeartbeats 4000000 in
theorem c_X7_widthOf (l : Launch) (D : zD) (B n : Nat) {F : Nat} {K : zK} {I : zI} {R : zR} {a0 : Nat} {x1 : Int32} {x2 : Int32} {r : Int32} (hK0 : (K a0).1 = 17) (hf : f_X7_widthOf F K I R a0 x1 x2 = some r) : zM l yX7_widthOf cX7_widthOf 6 (some .int) ({ frames := 2, cells := 0, slots := 0, locals := 62 } : Room) D B n K I R [.ref (B + a0), .int x1, .int x2] (zQi D (zOwn B K (B + n)) r B n K I R) := by
  refine ze_entry (lv0 := [(0, .ref (B + a0)), (1, .int x1), (2, .int x2)]) (by decide) (by simp [lg_sl, zcat, zcat_i, zcat_r, zcat_l]) (by simp [lv_args, zcat, zcat_i, zcat_r, zcat_l]) (fun p e s m below meth c X hr hlk hin hW ls hl => ?_)
  unfold f_X7_widthOf at hf
  refine lv_iconst (v := 0) X.1 X.2.1 dX7_widthOf_0 (by decide) ?_
  refine lv_istore_n (i := 3) (lv' := [(3, .int (0 : Int32)), (0, .ref (B + a0)), (1, .int x1), (2, .int x2)]) X.1 X.2.1 dX7_widthOf_1 rfl hl (by decide) rfl (fun ls hk => ?_)
  replace hl := hk
  refine lv_iload_n X.1 X.2.1 dX7_widthOf_2 rfl (lv_at hl 3 rfl) ?_
  refine lv_iconst (v := 1) X.1 X.2.1 dX7_widthOf_3 (by decide) ?_
  refine lv_iadd X.1 X.2.1 dX7_widthOf_4 ?_
  refine ze_nm hf (fun v21 hg => ?_)
  replace hf := hg
  refine lv_istore (lv' := [(4, .int v21), (3, .int (0 : Int32)), (0, .ref (B + a0)), (1, .int x1), (2, .int x2)]) X.1 X.2.1 dX7_widthOf_5 hl (by decide) rfl (fun ls hk => ?_)
  replace hl := hk
  refine lv_iconst (v := 0) X.1 X.2.1 dX7_widthOf_7 (by decide) ?_
  refine lv_istore (lv' := [(5, .int (0 : Int32)), (4, .int v21), (3, .int (0 : Int32)), (0, .ref (B + a0)), (1, .int x1), (2, .int x2)]) X.1 X.2.1 dX7_widthOf_8 hl (by decide) rfl (fun ls hk => ?_)
  replace hl := hk
  exact w_X7_widthOf_10 X hr hlk hK0 hf hW (lv_sub hl [3, 4, 5, 2, 1, 0] rfl)
end

/-! LeastPatternsModel.isApplicable(III)Z -/
def f_X7_isApplicable_146 (F : Nat) (K : zK) (R : zR) (a0 : Nat) (k71 : zI → Int32 → Int32 → Int32 → Int32 → Option (Int32 × zI)) (I : zI) (x2 : Int32) (x3 : Int32) (x5 : Int32) (s0 : Int32) : Option (Int32 × zI) :=
  k71 I x2 x3 s0 (x5 + (1 : Int32))
def f_X7_isApplicable_141 (F : Nat) (K : zK) (R : zR) (a0 : Nat) (k71 : zI → Int32 → Int32 → Int32 → Int32 → Option (Int32 × zI)) (I : zI) (x2 : Int32) (x3 : Int32) (x5 : Int32) : Option (Int32 × zI) :=
  f_X7_isApplicable_146 F K R a0 k71 I x2 x3 x5 (1 : Int32)
def f_X7_isApplicable_124 (F : Nat) (K : zK) (R : zR) (a0 : Nat) (k71 : zI → Int32 → Int32 → Int32 → Int32 → Option (Int32 × zI)) (I : zI) (x2 : Int32) (x3 : Int32) (x5 : Int32) (s0 : Int32) : Option (Int32 × zI) :=
  if s0 = (0 : Int32) then
    f_X7_isApplicable_141 F K R a0 k71 I x2 x3 x5
  else
    zbd (f_X7_widthOf F K I R a0 x2 x5) fun v2 =>
    if v2 ≤ (0 : Int32) then
      f_X7_isApplicable_146 F K R a0 k71 I x2 x3 x5 (0 : Int32)
    else
      f_X7_isApplicable_141 F K R a0 k71 I x2 x3 x5
def f_X7_isApplicable_123 (F : Nat) (K : zK) (R : zR) (a0 : Nat) (k71 : zI → Int32 → Int32 → Int32 → Int32 → Option (Int32 × zI)) (I : zI) (x2 : Int32) (x3 : Int32) (x5 : Int32) : Option (Int32 × zI) :=
  f_X7_isApplicable_124 F K R a0 k71 I x2 x3 x5 (0 : Int32)
def g_X7_isApplicable_71 (F : Nat) (K : zK) (R : zR) (a0 : Nat)  (kself : zI → Int32 → Int32 → Int32 → Int32 → Option (Int32 × zI)) (I : zI) (x2 : Int32) (x3 : Int32) (x4 : Int32) (x5 : Int32) : Option (Int32 × zI) :=
  zbd (some (R a0 0)) fun o5 =>
  zbd (zdr K o5 1) fun a6 =>
  zbd (zrd K I a6 x2) fun v9 =>
  if v9 ≤ x5 then
    if x4 = 0 ∨ x4 = 1 then
    some (x4, I)
    else
    none
  else
    if x4 = (0 : Int32) then
      if x4 = 0 ∨ x4 = 1 then
      some (x4, I)
      else
      none
    else
      zbd (f_X7_sort F K I R a0 x2 x5) fun v14 =>
      if v14 = (2 : Int32) then
        zbd (some (R a0 30)) fun o17 =>
        zbd (f_X7_number F K I R a0 x2 x5) fun v18 =>
        zbd (zdr K o17 1) fun a20 =>
        zbd (zrd K I a20 v18) fun v23 =>
        zbd (f_X7_sort F K I R a0 x3 v23) fun v24 =>
        if v24 = (2 : Int32) then
          f_X7_isApplicable_124 F K R a0 kself I x2 x3 x5 (1 : Int32)
        else
          f_X7_isApplicable_123 F K R a0 kself I x2 x3 x5
      else
        f_X7_isApplicable_123 F K R a0 kself I x2 x3 x5
def f_X7_isApplicable_71 (F : Nat) (K : zK) (R : zR) (a0 : Nat)  : Nat → zI → Int32 → Int32 → Int32 → Int32 → Option (Int32 × zI)
  | 0, _, _, _, _, _ => none
  | t + 1, I, x2, x3, x4, x5 => g_X7_isApplicable_71 F K R a0  (f_X7_isApplicable_71 F K R a0  t) I x2 x3 x4 x5
def f_X7_isApplicable_51 (F : Nat) (K : zK) (R : zR) (a0 : Nat) (k6 : zI → Int32 → Int32 → Int32 → Int32 → Int32 → Option (Int32 × zI)) (I : zI) (x1 : Int32) (x2 : Int32) (x3 : Int32) (x5 : Int32) (s0 : Int32) : Option (Int32 × zI) :=
  k6 I x1 x2 x3 s0 (x5 + (1 : Int32))
def f_X7_isApplicable_50 (F : Nat) (K : zK) (R : zR) (a0 : Nat) (k6 : zI → Int32 → Int32 → Int32 → Int32 → Int32 → Option (Int32 × zI)) (I : zI) (x1 : Int32) (x2 : Int32) (x3 : Int32) (x5 : Int32) : Option (Int32 × zI) :=
  f_X7_isApplicable_51 F K R a0 k6 I x1 x2 x3 x5 (0 : Int32)
def f_X7_isApplicable_46 (F : Nat) (K : zK) (R : zR) (a0 : Nat) (k6 : zI → Int32 → Int32 → Int32 → Int32 → Int32 → Option (Int32 × zI)) (I : zI) (x1 : Int32) (x2 : Int32) (x3 : Int32) (x5 : Int32) : Option (Int32 × zI) :=
  f_X7_isApplicable_51 F K R a0 k6 I x1 x2 x3 x5 (1 : Int32)
def g_X7_isApplicable_6 (F : Nat) (K : zK) (R : zR) (a0 : Nat)  (kself : zI → Int32 → Int32 → Int32 → Int32 → Int32 → Option (Int32 × zI)) (I : zI) (x1 : Int32) (x2 : Int32) (x3 : Int32) (x4 : Int32) (x5 : Int32) : Option (Int32 × zI) :=
  if (10 : Int32) ≤ x5 then
    zbd (some (R a0 5)) fun o28 =>
    zbd (f_X7_counts F K I R a0 x2 o28) fun I29 =>
    f_X7_isApplicable_71 F K R a0 F I29 x2 x3 x4 (0 : Int32)
  else
    zbd (f_X7_sortOf F K I R a0 x2 x5) fun v31 =>
    if x4 = (0 : Int32) then
      f_X7_isApplicable_50 F K R a0 kself I x1 x2 x3 x5
    else
      if v31 = (-9 : Int32) then
        f_X7_isApplicable_46 F K R a0 kself I x1 x2 x3 x5
      else
        zbd (f_X7_sortOf F K I R a0 x1 x5) fun v35 =>
        if v31 = v35 then
          f_X7_isApplicable_46 F K R a0 kself I x1 x2 x3 x5
        else
          f_X7_isApplicable_50 F K R a0 kself I x1 x2 x3 x5
def f_X7_isApplicable_6 (F : Nat) (K : zK) (R : zR) (a0 : Nat)  : Nat → zI → Int32 → Int32 → Int32 → Int32 → Int32 → Option (Int32 × zI)
  | 0, _, _, _, _, _, _ => none
  | t + 1, I, x1, x2, x3, x4, x5 => g_X7_isApplicable_6 F K R a0  (f_X7_isApplicable_6 F K R a0  t) I x1 x2 x3 x4 x5
def f_X7_isApplicable (F : Nat) (K : zK) (I : zI) (R : zR) (a0 : Nat) (x1 : Int32) (x2 : Int32) (x3 : Int32) : Option (Int32 × zI) :=
  f_X7_isApplicable_6 F K R a0 F I x1 x2 x3 (1 : Int32) (0 : Int32)
section
variable {p : Program} {l : Launch} {e : Env} {s : State} {m : MethodId} {args : Array Value} {below : List Frame} {meth : Method} {c : Code} {D : zD} {B n n0 n' fd ld : Nat} {K K0 K' : zK} {I I' : zI} {R R' : zR} {H : Heap} {locs : List Loc} {ls : Array Slot} {r : Int32}
set_option maxRecDepth 100000 in
set_option maxHeartbeats 4000000 in
theorem w_X7_isApplicable_146 {F : Nat} {a0 : Nat} {k71 : zI → Int32 → Int32 → Int32 → Int32 → Option (Int32 × zI)} (X : zX p s m c cX7_isApplicable 7 RX7 D) (hr : meth.sig.returnType = some .boolean) (hlk : meth.locks = false) (hK0 : (K a0).1 = 17) (hk71 : ∀ (I : zI) (x2 : Int32) (x3 : Int32) (x4 : Int32) (x5 : Int32) (H : Heap) (locs : List Loc) (ls : Array Slot), k71 I x2 x3 x4 x5 = some (r, I') → zS (zOwn B K (B + n)) D B n K I R s.heap H locs → lv_has ls 7 [(0, .ref (B + a0)), (2, .int x2), (3, .int x3), (4, .int x4), (5, .int x5)] → W p l e ({ frames := 3, cells := 0, slots := 0, locals := 87 } : Room) s m args below meth c H locs 0 0 (MQ below (zQi D (zOwn B K (B + n)) r B n K I' R) args s 0 0 (zOwn B K (B + n))) (F0 m 71 ls [])) {x2 : Int32} {x3 : Int32} {x5 : Int32} {s0 : Int32} (hf : f_X7_isApplicable_146 F K R a0 k71 I x2 x3 x5 s0 = some (r, I')) (hW : zS (zOwn B K (B + n)) D B n K I R s.heap H locs) (hl : lv_has ls 7 [(0, .ref (B + a0)), (2, .int x2), (3, .int x3), (5, .int x5)]) : W p l e ({ frames := 3, cells := 0, slots := 0, locals := 87 } : Room) s m args below meth c H locs 0 0 (MQ below (zQi D (zOwn B K (B + n)) r B n K I' R) args s 0 0 (zOwn B K (B + n))) (F0 m 146 ls [.int s0]) := by
  unfold f_X7_isApplicable_146 at hf
  refine lv_istore (lv' := [(4, .int s0), (0, .ref (B + a0)), (2, .int x2), (3, .int x3), (5, .int x5)]) X.1 X.2.1 dX7_isApplicable_146 hl (by decide) rfl (fun ls hk => ?_)
  replace hl := hk
  refine ze_iinc (lv' := [(5, .int (x5 + (1 : Int32))), (4, .int s0), (0, .ref (B + a0)), (2, .int x2), (3, .int x3)]) (d := 1) X.1 X.2.1 dX7_isApplicable_148 hl (k := 4) rfl (by decide) (by decide) rfl (fun ls hk => ?_)
  replace hl := hk
  refine lv_goto (tgt := 71) X.1 X.2.1 dX7_isApplicable_151 (by decide) ?_
  exact hk71 _ _ _ _ _ _ _ _ hf hW (lv_sub hl [2, 3, 4, 1, 0] rfl)
set_option maxRecDepth 100000 in
set_option maxHeartbeats 4000000 in
theorem w_X7_isApplicable_141 {F : Nat} {a0 : Nat} {k71 : zI → Int32 → Int32 → Int32 → Int32 → Option (Int32 × zI)} (X : zX p s m c cX7_isApplicable 7 RX7 D) (hr : meth.sig.returnType = some .boolean) (hlk : meth.locks = false) (hK0 : (K a0).1 = 17) (hk71 : ∀ (I : zI) (x2 : Int32) (x3 : Int32) (x4 : Int32) (x5 : Int32) (H : Heap) (locs : List Loc) (ls : Array Slot), k71 I x2 x3 x4 x5 = some (r, I') → zS (zOwn B K (B + n)) D B n K I R s.heap H locs → lv_has ls 7 [(0, .ref (B + a0)), (2, .int x2), (3, .int x3), (4, .int x4), (5, .int x5)] → W p l e ({ frames := 3, cells := 0, slots := 0, locals := 87 } : Room) s m args below meth c H locs 0 0 (MQ below (zQi D (zOwn B K (B + n)) r B n K I' R) args s 0 0 (zOwn B K (B + n))) (F0 m 71 ls [])) {x2 : Int32} {x3 : Int32} {x5 : Int32} (hf : f_X7_isApplicable_141 F K R a0 k71 I x2 x3 x5 = some (r, I')) (hW : zS (zOwn B K (B + n)) D B n K I R s.heap H locs) (hl : lv_has ls 7 [(0, .ref (B + a0)), (2, .int x2), (3, .int x3), (5, .int x5)]) : W p l e ({ frames := 3, cells := 0, slots := 0, locals := 87 } : Room) s m args below meth c H locs 0 0 (MQ below (zQi D (zOwn B K (B + n)) r B n K I' R) args s 0 0 (zOwn B K (B + n))) (F0 m 141 ls []) := by
  unfold f_X7_isApplicable_141 at hf
  refine lv_iconst (v := 1) X.1 X.2.1 dX7_isApplicable_141 (by decide) ?_
  refine lv_goto (tgt := 146) X.1 X.2.1 dX7_isApplicable_142 (by decide) ?_
  exact w_X7_isApplicable_146 X hr hlk hK0 hk71 hf hW hl
set_option maxRecDepth 100000 in
set_option maxHeartbeats 4000000 in
theorem w_X7_isApplicable_124 {F : Nat} {a0 : Nat} {k71 : zI → Int32 → Int32 → Int32 → Int32 → Option (Int32 × zI)} (X : zX p s m c cX7_isApplicable 7 RX7 D) (hr : meth.sig.returnType = some .boolean) (hlk : meth.locks = false) (hK0 : (K a0).1 = 17) (hk71 : ∀ (I : zI) (x2 : Int32) (x3 : Int32) (x4 : Int32) (x5 : Int32) (H : Heap) (locs : List Loc) (ls : Array Slot), k71 I x2 x3 x4 x5 = some (r, I') → zS (zOwn B K (B + n)) D B n K I R s.heap H locs → lv_has ls 7 [(0, .ref (B + a0)), (2, .int x2), (3, .int x3), (4, .int x4), (5, .int x5)] → W p l e ({ frames := 3, cells := 0, slots := 0, locals := 87 } : Room) s m args below meth c H locs 0 0 (MQ below (zQi D (zOwn B K (B + n)) r B n K I' R) args s 0 0 (zOwn B K (B + n))) (F0 m 71 ls [])) {x2 : Int32} {x3 : Int32} {x5 : Int32} {s0 : Int32} (hf : f_X7_isApplicable_124 F K R a0 k71 I x2 x3 x5 s0 = some (r, I')) (hW : zS (zOwn B K (B + n)) D B n K I R s.heap H locs) (hl : lv_has ls 7 [(0, .ref (B + a0)), (2, .int x2), (3, .int x3), (5, .int x5)]) : W p l e ({ frames := 3, cells := 0, slots := 0, locals := 87 } : Room) s m args below meth c H locs 0 0 (MQ below (zQi D (zOwn B K (B + n)) r B n K I' R) args s 0 0 (zOwn B K (B + n))) (F0 m 124 ls [.int s0]) := by
  unfold f_X7_isApplicable_124 at hf
  refine lv_istore (lv' := [(6, .int s0), (0, .ref (B + a0)), (2, .int x2), (3, .int x3), (5, .int x5)]) X.1 X.2.1 dX7_isApplicable_124 hl (by decide) rfl (fun ls hk => ?_)
  replace hl := hk
  refine lv_iload X.1 X.2.1 dX7_isApplicable_126 (lv_at hl 0 rfl) ?_
  refine lv_if_eq (tgt := 141) X.1 X.2.1 dX7_isApplicable_128 (by decide) (fun c1 => ?_) (fun c1 => ?_)
  · replace hf := zif_pos c1 hf
    exact w_X7_isApplicable_141 X hr hlk hK0 hk71 hf hW (lv_sub hl [1, 2, 3, 4] rfl)
  · replace hf := zif_neg c1 hf
    refine lv_aload_n X.1 X.2.1 dX7_isApplicable_131 rfl (lv_at hl 1 rfl) ?_
    refine lv_iload_n X.1 X.2.1 dX7_isApplicable_132 rfl (lv_at hl 2 rfl) ?_
    refine lv_iload X.1 X.2.1 dX7_isApplicable_133 (lv_at hl 4 rfl) ?_
    obtain ⟨v2, h3, hg⟩ := zh_bd hf
    replace hf := hg
    refine ze_aftI0 (ze_runV (As := [.int x2, .int x5]) (rest := []) X 7 293 (c_X7_widthOf l D B n hK0 h3) vX7_widthOf kml_X7_293 hW hK0 rfl rfl ⟨by decide, by decide⟩ rfl hl.1 rfl (Nat.le_of_ble_eq_true rfl) ⟨Nat.le_refl _, Nat.le_refl _⟩ dX7_isApplicable_135) hW (fun H locs hV => ?_)
    replace hW := hV
    refine lv_if_le (tgt := 145) X.1 X.2.1 dX7_isApplicable_138 (by decide) (fun c4 => ?_) (fun c4 => ?_)
    · replace hf := zif_pos c4 hf
      refine lv_iconst (v := 0) X.1 X.2.1 dX7_isApplicable_145 (by decide) ?_
      exact w_X7_isApplicable_146 X hr hlk hK0 hk71 hf hW (lv_sub hl [1, 2, 3, 4] rfl)
    · replace hf := zif_neg c4 hf
      exact w_X7_isApplicable_141 X hr hlk hK0 hk71 hf hW (lv_sub hl [1, 2, 3, 4] rfl)
set_option maxRecDepth 100000 in
set_option maxHeartbeats 4000000 in
theorem w_X7_isApplicable_123 {F : Nat} {a0 : Nat} {k71 : zI → Int32 → Int32 → Int32 → Int32 → Option (Int32 × zI)} (X : zX p s m c cX7_isApplicable 7 RX7 D) (hr : meth.sig.returnType = some .boolean) (hlk : meth.locks = false) (hK0 : (K a0).1 = 17) (hk71 : ∀ (I : zI) (x2 : Int32) (x3 : Int32) (x4 : Int32) (x5 : Int32) (H : Heap) (locs : List Loc) (ls : Array Slot), k71 I x2 x3 x4 x5 = some (r, I') → zS (zOwn B K (B + n)) D B n K I R s.heap H locs → lv_has ls 7 [(0, .ref (B + a0)), (2, .int x2), (3, .int x3), (4, .int x4), (5, .int x5)] → W p l e ({ frames := 3, cells := 0, slots := 0, locals := 87 } : Room) s m args below meth c H locs 0 0 (MQ below (zQi D (zOwn B K (B + n)) r B n K I' R) args s 0 0 (zOwn B K (B + n))) (F0 m 71 ls [])) {x2 : Int32} {x3 : Int32} {x5 : Int32} (hf : f_X7_isApplicable_123 F K R a0 k71 I x2 x3 x5 = some (r, I')) (hW : zS (zOwn B K (B + n)) D B n K I R s.heap H locs) (hl : lv_has ls 7 [(0, .ref (B + a0)), (2, .int x2), (3, .int x3), (5, .int x5)]) : W p l e ({ frames := 3, cells := 0, slots := 0, locals := 87 } : Room) s m args below meth c H locs 0 0 (MQ below (zQi D (zOwn B K (B + n)) r B n K I' R) args s 0 0 (zOwn B K (B + n))) (F0 m 123 ls []) := by
  unfold f_X7_isApplicable_123 at hf
  refine lv_iconst (v := 0) X.1 X.2.1 dX7_isApplicable_123 (by decide) ?_
  exact w_X7_isApplicable_124 X hr hlk hK0 hk71 hf hW hl
set_option maxRecDepth 100000 in
set_option maxHeartbeats 4000000 in
theorem wg_X7_isApplicable_71 {F : Nat} {a0 : Nat}  (X : zX p s m c cX7_isApplicable 7 RX7 D) (hr : meth.sig.returnType = some .boolean) (hlk : meth.locks = false) (hK0 : (K a0).1 = 17)  {kself : zI → Int32 → Int32 → Int32 → Int32 → Option (Int32 × zI)} (hkself : ∀ (I : zI) (x2 : Int32) (x3 : Int32) (x4 : Int32) (x5 : Int32) (H : Heap) (locs : List Loc) (ls : Array Slot), kself I x2 x3 x4 x5 = some (r, I') → zS (zOwn B K (B + n)) D B n K I R s.heap H locs → lv_has ls 7 [(0, .ref (B + a0)), (2, .int x2), (3, .int x3), (4, .int x4), (5, .int x5)] → W p l e ({ frames := 3, cells := 0, slots := 0, locals := 87 } : Room) s m args below meth c H locs 0 0 (MQ below (zQi D (zOwn B K (B + n)) r B n K I' R) args s 0 0 (zOwn B K (B + n))) (F0 m 71 ls [])) {x2 : Int32} {x3 : Int32} {x4 : Int32} {x5 : Int32} (hf : g_X7_isApplicable_71 F K R a0  kself I x2 x3 x4 x5 = some (r, I')) (hW : zS (zOwn B K (B + n)) D B n K I R s.heap H locs) (hl : lv_has ls 7 [(0, .ref (B + a0)), (2, .int x2), (3, .int x3), (4, .int x4), (5, .int x5)]) : W p l e ({ frames := 3, cells := 0, slots := 0, locals := 87 } : Room) s m args below meth c H locs 0 0 (MQ below (zQi D (zOwn B K (B + n)) r B n K I' R) args s 0 0 (zOwn B K (B + n))) (F0 m 71 ls []) := by
  unfold g_X7_isApplicable_71 at hf
  refine lv_iload X.1 X.2.1 dX7_isApplicable_71 (lv_at hl 4 rfl) ?_
  refine lv_aload_n X.1 X.2.1 dX7_isApplicable_73 rfl (lv_at hl 0 rfl) ?_
  refine ze_gtR X 7 0 7 (RX7, TX7, 39) rfl hf hW hK0 rfl (by decide) kfl_X7_7 dX7_isApplicable_74 (fun o5 hg => ?_)
  replace hf := hg
  refine lv_iload_n X.1 X.2.1 dX7_isApplicable_77 rfl (lv_at hl 1 rfl) ?_
  obtain ⟨a6, rfl, k8, hg⟩ := zh_dr hf
  replace hf := hg
  refine ze_iald X hf hW k8 dX7_isApplicable_78 (fun v9 hg => ?_)
  replace hf := hg
  refine lv_icmp_ge (tgt := 154) X.1 X.2.1 dX7_isApplicable_79 (by decide) (fun c10 => ?_) (fun c10 => ?_)
  · replace hf := zif_pos c10 hf
    refine lv_iload X.1 X.2.1 dX7_isApplicable_154 (lv_at hl 3 rfl) ?_
    obtain ⟨hv11, hg⟩ := zh_if hf
    replace hf := hg
    obtain ⟨rfl, rfl⟩ := zi2 hf
    exact ze_retZ X hr hlk hv11 hW (Nat.le_refl _) (Nat.le_refl _) dX7_isApplicable_156
  · replace hf := zif_neg c10 hf
    refine lv_iload X.1 X.2.1 dX7_isApplicable_82 (lv_at hl 3 rfl) ?_
    refine lv_if_eq (tgt := 154) X.1 X.2.1 dX7_isApplicable_84 (by decide) (fun c12 => ?_) (fun c12 => ?_)
    · replace hf := zif_pos c12 hf
      refine lv_iload X.1 X.2.1 dX7_isApplicable_154 (lv_at hl 3 rfl) ?_
      obtain ⟨hv13, hg⟩ := zh_if hf
      replace hf := hg
      obtain ⟨rfl, rfl⟩ := zi2 hf
      exact ze_retZ X hr hlk hv13 hW (Nat.le_refl _) (Nat.le_refl _) dX7_isApplicable_156
    · replace hf := zif_neg c12 hf
      refine lv_aload_n X.1 X.2.1 dX7_isApplicable_87 rfl (lv_at hl 0 rfl) ?_
      refine lv_iload_n X.1 X.2.1 dX7_isApplicable_88 rfl (lv_at hl 1 rfl) ?_
      refine lv_iload X.1 X.2.1 dX7_isApplicable_89 (lv_at hl 4 rfl) ?_
      obtain ⟨v14, h15, hg⟩ := zh_bd hf
      replace hf := hg
      refine ze_aftI0 (ze_runV (As := [.int x2, .int x5]) (rest := []) X 7 119 (c_X7_sort l D B n hK0 h15) vX7_sort kml_X7_119 hW hK0 rfl rfl ⟨by decide, by decide⟩ rfl hl.1 rfl (Nat.le_of_ble_eq_true rfl) ⟨Nat.le_refl _, Nat.le_refl _⟩ dX7_isApplicable_91) hW (fun H locs hV => ?_)
      replace hW := hV
      refine lv_iconst (v := 2) X.1 X.2.1 dX7_isApplicable_94 (by decide) ?_
      refine lv_icmp_ne (tgt := 123) X.1 X.2.1 dX7_isApplicable_95 (by decide) (fun c16 => ?_) (fun c16 => ?_)
      · replace hf := zif_neg c16 hf
        exact w_X7_isApplicable_123 X hr hlk hK0 hkself hf hW (lv_sub hl [0, 1, 2, 4] rfl)
      · replace hf := zif_pos c16 hf
        refine lv_aload_n X.1 X.2.1 dX7_isApplicable_98 rfl (lv_at hl 0 rfl) ?_
        refine lv_iload_n X.1 X.2.1 dX7_isApplicable_99 rfl (lv_at hl 2 rfl) ?_
        refine lv_aload_n X.1 X.2.1 dX7_isApplicable_100 rfl (lv_at hl 0 rfl) ?_
        refine ze_gtR X 7 30 81 (RX7, TX7, 39) rfl hf hW hK0 rfl (by decide) kfl_X7_81 dX7_isApplicable_101 (fun o17 hg => ?_)
        replace hf := hg
        refine lv_aload_n X.1 X.2.1 dX7_isApplicable_104 rfl (lv_at hl 0 rfl) ?_
        refine lv_iload_n X.1 X.2.1 dX7_isApplicable_105 rfl (lv_at hl 1 rfl) ?_
        refine lv_iload X.1 X.2.1 dX7_isApplicable_106 (lv_at hl 4 rfl) ?_
        obtain ⟨v18, h19, hg⟩ := zh_bd hf
        replace hf := hg
        refine ze_aftI0 (ze_runV (As := [.int x2, .int x5]) (rest := [zrf B o17, .int x3, .ref (B + a0)]) X 7 159 (c_X7_number l D B n hK0 h19) vX7_number kml_X7_159 hW hK0 rfl rfl ⟨by decide, by decide⟩ rfl hl.1 rfl (by simp [zcat, zcat_i, zcat_r, zcat_l]) ⟨Nat.le_refl _, Nat.le_refl _⟩ dX7_isApplicable_108) hW (fun H locs hV => ?_)
        replace hW := hV
        obtain ⟨a20, rfl, k22, hg⟩ := zh_dr hf
        replace hf := hg
        refine ze_iald X hf hW k22 dX7_isApplicable_111 (fun v23 hg => ?_)
        replace hf := hg
        obtain ⟨v24, h25, hg⟩ := zh_bd hf
        replace hf := hg
        refine ze_aftI0 (ze_runV (As := [.int x3, .int v23]) (rest := []) X 7 119 (c_X7_sort l D B n hK0 h25) vX7_sort kml_X7_119 hW hK0 rfl rfl ⟨by decide, by decide⟩ rfl hl.1 rfl (Nat.le_of_ble_eq_true rfl) ⟨Nat.le_refl _, Nat.le_refl _⟩ dX7_isApplicable_112) hW (fun H locs hV => ?_)
        replace hW := hV
        refine lv_iconst (v := 2) X.1 X.2.1 dX7_isApplicable_115 (by decide) ?_
        refine lv_icmp_ne (tgt := 123) X.1 X.2.1 dX7_isApplicable_116 (by decide) (fun c26 => ?_) (fun c26 => ?_)
        · replace hf := zif_neg c26 hf
          exact w_X7_isApplicable_123 X hr hlk hK0 hkself hf hW (lv_sub hl [0, 1, 2, 4] rfl)
        · replace hf := zif_pos c26 hf
          refine lv_iconst (v := 1) X.1 X.2.1 dX7_isApplicable_119 (by decide) ?_
          refine lv_goto (tgt := 124) X.1 X.2.1 dX7_isApplicable_120 (by decide) ?_
          exact w_X7_isApplicable_124 X hr hlk hK0 hkself hf hW (lv_sub hl [0, 1, 2, 4] rfl)
set_option maxRecDepth 100000 in
set_option maxHeartbeats 4000000 in
theorem w_X7_isApplicable_71 {F : Nat} {a0 : Nat}  (X : zX p s m c cX7_isApplicable 7 RX7 D) (hr : meth.sig.returnType = some .boolean) (hlk : meth.locks = false) (hK0 : (K a0).1 = 17)  {t : Nat} {x2 : Int32} {x3 : Int32} {x4 : Int32} {x5 : Int32} (hf : f_X7_isApplicable_71 F K R a0  t I x2 x3 x4 x5 = some (r, I')) (hW : zS (zOwn B K (B + n)) D B n K I R s.heap H locs) (hl : lv_has ls 7 [(0, .ref (B + a0)), (2, .int x2), (3, .int x3), (4, .int x4), (5, .int x5)]) : W p l e ({ frames := 3, cells := 0, slots := 0, locals := 87 } : Room) s m args below meth c H locs 0 0 (MQ below (zQi D (zOwn B K (B + n)) r B n K I' R) args s 0 0 (zOwn B K (B + n))) (F0 m 71 ls []) := by
  have key : ∀ t : Nat, ∀ (I : zI) (x2 : Int32) (x3 : Int32) (x4 : Int32) (x5 : Int32) (H : Heap) (locs : List Loc) (ls : Array Slot), f_X7_isApplicable_71 F K R a0  t I x2 x3 x4 x5 = some (r, I') → zS (zOwn B K (B + n)) D B n K I R s.heap H locs → lv_has ls 7 [(0, .ref (B + a0)), (2, .int x2), (3, .int x3), (4, .int x4), (5, .int x5)] → W p l e ({ frames := 3, cells := 0, slots := 0, locals := 87 } : Room) s m args below meth c H locs 0 0 (MQ below (zQi D (zOwn B K (B + n)) r B n K I' R) args s 0 0 (zOwn B K (B + n))) (F0 m 71 ls []) := by
    intro t
    induction t with
    | zero =>
      intro I x2 x3 x4 x5 H locs ls hf hW hl
      cases hf
    | succ t ih =>
      intro I x2 x3 x4 x5 H locs ls hf hW hl
      exact wg_X7_isApplicable_71 X hr hlk hK0  ih hf hW hl
  exact key t _ _ _ _ _ _ _ _ hf hW hl
set_option maxRecDepth 100000 in
set_option maxHeartbeats 4000000 in
theorem w_X7_isApplicable_51 {F : Nat} {a0 : Nat} {k6 : zI → Int32 → Int32 → Int32 → Int32 → Int32 → Option (Int32 × zI)} (X : zX p s m c cX7_isApplicable 7 RX7 D) (hr : meth.sig.returnType = some .boolean) (hlk : meth.locks = false) (hK0 : (K a0).1 = 17) (hk6 : ∀ (I : zI) (x1 : Int32) (x2 : Int32) (x3 : Int32) (x4 : Int32) (x5 : Int32) (H : Heap) (locs : List Loc) (ls : Array Slot), k6 I x1 x2 x3 x4 x5 = some (r, I') → zS (zOwn B K (B + n)) D B n K I R s.heap H locs → lv_has ls 7 [(0, .ref (B + a0)), (1, .int x1), (2, .int x2), (3, .int x3), (4, .int x4), (5, .int x5)] → W p l e ({ frames := 3, cells := 0, slots := 0, locals := 87 } : Room) s m args below meth c H locs 0 0 (MQ below (zQi D (zOwn B K (B + n)) r B n K I' R) args s 0 0 (zOwn B K (B + n))) (F0 m 6 ls [])) {x1 : Int32} {x2 : Int32} {x3 : Int32} {x5 : Int32} {s0 : Int32} (hf : f_X7_isApplicable_51 F K R a0 k6 I x1 x2 x3 x5 s0 = some (r, I')) (hW : zS (zOwn B K (B + n)) D B n K I R s.heap H locs) (hl : lv_has ls 7 [(0, .ref (B + a0)), (1, .int x1), (2, .int x2), (3, .int x3), (5, .int x5)]) : W p l e ({ frames := 3, cells := 0, slots := 0, locals := 87 } : Room) s m args below meth c H locs 0 0 (MQ below (zQi D (zOwn B K (B + n)) r B n K I' R) args s 0 0 (zOwn B K (B + n))) (F0 m 51 ls [.int s0]) := by
  unfold f_X7_isApplicable_51 at hf
  refine lv_istore (lv' := [(4, .int s0), (0, .ref (B + a0)), (1, .int x1), (2, .int x2), (3, .int x3), (5, .int x5)]) X.1 X.2.1 dX7_isApplicable_51 hl (by decide) rfl (fun ls hk => ?_)
  replace hl := hk
  refine ze_iinc (lv' := [(5, .int (x5 + (1 : Int32))), (4, .int s0), (0, .ref (B + a0)), (1, .int x1), (2, .int x2), (3, .int x3)]) (d := 1) X.1 X.2.1 dX7_isApplicable_53 hl (k := 5) rfl (by decide) (by decide) rfl (fun ls hk => ?_)
  replace hl := hk
  refine lv_goto (tgt := 6) X.1 X.2.1 dX7_isApplicable_56 (by decide) ?_
  exact hk6 _ _ _ _ _ _ _ _ _ hf hW (lv_sub hl [2, 3, 4, 5, 1, 0] rfl)
set_option maxRecDepth 100000 in
set_option maxHeartbeats 4000000 in
theorem w_X7_isApplicable_50 {F : Nat} {a0 : Nat} {k6 : zI → Int32 → Int32 → Int32 → Int32 → Int32 → Option (Int32 × zI)} (X : zX p s m c cX7_isApplicable 7 RX7 D) (hr : meth.sig.returnType = some .boolean) (hlk : meth.locks = false) (hK0 : (K a0).1 = 17) (hk6 : ∀ (I : zI) (x1 : Int32) (x2 : Int32) (x3 : Int32) (x4 : Int32) (x5 : Int32) (H : Heap) (locs : List Loc) (ls : Array Slot), k6 I x1 x2 x3 x4 x5 = some (r, I') → zS (zOwn B K (B + n)) D B n K I R s.heap H locs → lv_has ls 7 [(0, .ref (B + a0)), (1, .int x1), (2, .int x2), (3, .int x3), (4, .int x4), (5, .int x5)] → W p l e ({ frames := 3, cells := 0, slots := 0, locals := 87 } : Room) s m args below meth c H locs 0 0 (MQ below (zQi D (zOwn B K (B + n)) r B n K I' R) args s 0 0 (zOwn B K (B + n))) (F0 m 6 ls [])) {x1 : Int32} {x2 : Int32} {x3 : Int32} {x5 : Int32} (hf : f_X7_isApplicable_50 F K R a0 k6 I x1 x2 x3 x5 = some (r, I')) (hW : zS (zOwn B K (B + n)) D B n K I R s.heap H locs) (hl : lv_has ls 7 [(0, .ref (B + a0)), (1, .int x1), (2, .int x2), (3, .int x3), (5, .int x5)]) : W p l e ({ frames := 3, cells := 0, slots := 0, locals := 87 } : Room) s m args below meth c H locs 0 0 (MQ below (zQi D (zOwn B K (B + n)) r B n K I' R) args s 0 0 (zOwn B K (B + n))) (F0 m 50 ls []) := by
  unfold f_X7_isApplicable_50 at hf
  refine lv_iconst (v := 0) X.1 X.2.1 dX7_isApplicable_50 (by decide) ?_
  exact w_X7_isApplicable_51 X hr hlk hK0 hk6 hf hW hl
set_option maxRecDepth 100000 in
set_option maxHeartbeats 4000000 in
theorem w_X7_isApplicable_46 {F : Nat} {a0 : Nat} {k6 : zI → Int32 → Int32 → Int32 → Int32 → Int32 → Option (Int32 × zI)} (X : zX p s m c cX7_isApplicable 7 RX7 D) (hr : meth.sig.returnType = some .boolean) (hlk : meth.locks = false) (hK0 : (K a0).1 = 17) (hk6 : ∀ (I : zI) (x1 : Int32) (x2 : Int32) (x3 : Int32) (x4 : Int32) (x5 : Int32) (H : Heap) (locs : List Loc) (ls : Array Slot), k6 I x1 x2 x3 x4 x5 = some (r, I') → zS (zOwn B K (B + n)) D B n K I R s.heap H locs → lv_has ls 7 [(0, .ref (B + a0)), (1, .int x1), (2, .int x2), (3, .int x3), (4, .int x4), (5, .int x5)] → W p l e ({ frames := 3, cells := 0, slots := 0, locals := 87 } : Room) s m args below meth c H locs 0 0 (MQ below (zQi D (zOwn B K (B + n)) r B n K I' R) args s 0 0 (zOwn B K (B + n))) (F0 m 6 ls [])) {x1 : Int32} {x2 : Int32} {x3 : Int32} {x5 : Int32} (hf : f_X7_isApplicable_46 F K R a0 k6 I x1 x2 x3 x5 = some (r, I')) (hW : zS (zOwn B K (B + n)) D B n K I R s.heap H locs) (hl : lv_has ls 7 [(0, .ref (B + a0)), (1, .int x1), (2, .int x2), (3, .int x3), (5, .int x5)]) : W p l e ({ frames := 3, cells := 0, slots := 0, locals := 87 } : Room) s m args below meth c H locs 0 0 (MQ below (zQi D (zOwn B K (B + n)) r B n K I' R) args s 0 0 (zOwn B K (B + n))) (F0 m 46 ls []) := by
  unfold f_X7_isApplicable_46 at hf
  refine lv_iconst (v := 1) X.1 X.2.1 dX7_isApplicable_46 (by decide) ?_
  refine lv_goto (tgt := 51) X.1 X.2.1 dX7_isApplicable_47 (by decide) ?_
  exact w_X7_isApplicable_51 X hr hlk hK0 hk6 hf hW hl
set_option maxRecDepth 100000 in
set_option maxHeartbeats 4000000 in
theorem wg_X7_isApplicable_6 {F : Nat} {a0 : Nat}  (X : zX p s m c cX7_isApplicable 7 RX7 D) (hr : meth.sig.returnType = some .boolean) (hlk : meth.locks = false) (hK0 : (K a0).1 = 17)  {kself : zI → Int32 → Int32 → Int32 → Int32 → Int32 → Option (Int32 × zI)} (hkself : ∀ (I : zI) (x1 : Int32) (x2 : Int32) (x3 : Int32) (x4 : Int32) (x5 : Int32) (H : Heap) (locs : List Loc) (ls : Array Slot), kself I x1 x2 x3 x4 x5 = some (r, I') → zS (zOwn B K (B + n)) D B n K I R s.heap H locs → lv_has ls 7 [(0, .ref (B + a0)), (1, .int x1), (2, .int x2), (3, .int x3), (4, .int x4), (5, .int x5)] → W p l e ({ frames := 3, cells := 0, slots := 0, locals := 87 } : Room) s m args below meth c H locs 0 0 (MQ below (zQi D (zOwn B K (B + n)) r B n K I' R) args s 0 0 (zOwn B K (B + n))) (F0 m 6 ls [])) {x1 : Int32} {x2 : Int32} {x3 : Int32} {x4 : Int32} {x5 : Int32} (hf : g_X7_isApplicable_6 F K R a0  kself I x1 x2 x3 x4 x5 = some (r, I')) (hW : zS (zOwn B K (B + n)) D B n K I R s.heap H locs) (hl : lv_has ls 7 [(0, .ref (B + a0)), (1, .int x1), (2, .int x2), (3, .int x3), (4, .int x4), (5, .int x5)]) : W p l e ({ frames := 3, cells := 0, slots := 0, locals := 87 } : Room) s m args below meth c H locs 0 0 (MQ below (zQi D (zOwn B K (B + n)) r B n K I' R) args s 0 0 (zOwn B K (B + n))) (F0 m 6 ls []) := by
  unfold g_X7_isApplicable_6 at hf
  refine lv_iload X.1 X.2.1 dX7_isApplicable_6 (lv_at hl 5 rfl) ?_
  refine lv_bipush (v := 10) X.1 X.2.1 dX7_isApplicable_8 (by decide) ?_
  refine lv_icmp_ge (tgt := 59) X.1 X.2.1 dX7_isApplicable_10 (by decide) (fun c27 => ?_) (fun c27 => ?_)
  · replace hf := zif_pos c27 hf
    refine lv_aload_n X.1 X.2.1 dX7_isApplicable_59 rfl (lv_at hl 0 rfl) ?_
    refine lv_iload_n X.1 X.2.1 dX7_isApplicable_60 rfl (lv_at hl 2 rfl) ?_
    refine lv_aload_n X.1 X.2.1 dX7_isApplicable_61 rfl (lv_at hl 0 rfl) ?_
    refine ze_gtR X 7 5 20 (RX7, TX7, 39) rfl hf hW hK0 rfl (by decide) kfl_X7_20 dX7_isApplicable_62 (fun o28 hg => ?_)
    replace hf := hg
    obtain ⟨I29, h30, hg⟩ := zh_bd hf
    replace hf := hg
    refine ze_aftV0 (ze_runV (As := [.int x2, zrf B o28]) (rest := []) X 7 115 (c_X7_counts l D B n hK0 h30) vX7_counts kml_X7_115 hW hK0 rfl rfl ⟨by decide, by decide⟩ rfl hl.1 rfl (Nat.le_of_ble_eq_true rfl) ⟨Nat.le_refl _, Nat.le_refl _⟩ dX7_isApplicable_65) hW (fun H locs hV => ?_)
    replace hW := hV
    refine lv_iconst (v := 0) X.1 X.2.1 dX7_isApplicable_68 (by decide) ?_
    refine lv_istore (lv' := [(5, .int (0 : Int32)), (0, .ref (B + a0)), (1, .int x1), (2, .int x2), (3, .int x3), (4, .int x4)]) X.1 X.2.1 dX7_isApplicable_69 hl (by decide) rfl (fun ls hk => ?_)
    replace hl := hk
    exact w_X7_isApplicable_71 X hr hlk hK0 hf hW (lv_sub hl [1, 3, 4, 5, 0] rfl)
  · replace hf := zif_neg c27 hf
    refine lv_aload_n X.1 X.2.1 dX7_isApplicable_13 rfl (lv_at hl 0 rfl) ?_
    refine lv_iload_n X.1 X.2.1 dX7_isApplicable_14 rfl (lv_at hl 2 rfl) ?_
    refine lv_iload X.1 X.2.1 dX7_isApplicable_15 (lv_at hl 5 rfl) ?_
    obtain ⟨v31, h32, hg⟩ := zh_bd hf
    replace hf := hg
    refine ze_aftI0 (ze_runV (As := [.int x2, .int x5]) (rest := []) X 7 290 (c_X7_sortOf l D B n hK0 h32) vX7_sortOf kml_X7_290 hW hK0 rfl rfl ⟨by decide, by decide⟩ rfl hl.1 rfl (Nat.le_of_ble_eq_true rfl) ⟨Nat.le_refl _, Nat.le_refl _⟩ dX7_isApplicable_17) hW (fun H locs hV => ?_)
    replace hW := hV
    refine lv_istore (lv' := [(6, .int v31), (0, .ref (B + a0)), (1, .int x1), (2, .int x2), (3, .int x3), (4, .int x4), (5, .int x5)]) X.1 X.2.1 dX7_isApplicable_20 hl (by decide) rfl (fun ls hk => ?_)
    replace hl := hk
    refine lv_iload X.1 X.2.1 dX7_isApplicable_22 (lv_at hl 5 rfl) ?_
    refine lv_if_eq (tgt := 50) X.1 X.2.1 dX7_isApplicable_24 (by decide) (fun c33 => ?_) (fun c33 => ?_)
    · replace hf := zif_pos c33 hf
      exact w_X7_isApplicable_50 X hr hlk hK0 hkself hf hW (lv_sub hl [1, 2, 3, 4, 6] rfl)
    · replace hf := zif_neg c33 hf
      refine lv_iload X.1 X.2.1 dX7_isApplicable_27 (lv_at hl 0 rfl) ?_
      refine lv_bipush (v := -9) X.1 X.2.1 dX7_isApplicable_29 (by decide) ?_
      refine lv_icmp_eq (tgt := 46) X.1 X.2.1 dX7_isApplicable_31 (by decide) (fun c34 => ?_) (fun c34 => ?_)
      · replace hf := zif_pos c34 hf
        exact w_X7_isApplicable_46 X hr hlk hK0 hkself hf hW (lv_sub hl [1, 2, 3, 4, 6] rfl)
      · replace hf := zif_neg c34 hf
        refine lv_iload X.1 X.2.1 dX7_isApplicable_34 (lv_at hl 0 rfl) ?_
        refine lv_aload_n X.1 X.2.1 dX7_isApplicable_36 rfl (lv_at hl 1 rfl) ?_
        refine lv_iload_n X.1 X.2.1 dX7_isApplicable_37 rfl (lv_at hl 2 rfl) ?_
        refine lv_iload X.1 X.2.1 dX7_isApplicable_38 (lv_at hl 6 rfl) ?_
        obtain ⟨v35, h36, hg⟩ := zh_bd hf
        replace hf := hg
        refine ze_aftI0 (ze_runV (As := [.int x1, .int x5]) (rest := [.int v31]) X 7 290 (c_X7_sortOf l D B n hK0 h36) vX7_sortOf kml_X7_290 hW hK0 rfl rfl ⟨by decide, by decide⟩ rfl hl.1 rfl (Nat.le_of_ble_eq_true rfl) ⟨Nat.le_refl _, Nat.le_refl _⟩ dX7_isApplicable_40) hW (fun H locs hV => ?_)
        replace hW := hV
        refine lv_icmp_ne (tgt := 50) X.1 X.2.1 dX7_isApplicable_43 (by decide) (fun c37 => ?_) (fun c37 => ?_)
        · replace hf := zif_neg c37 hf
          exact w_X7_isApplicable_50 X hr hlk hK0 hkself hf hW (lv_sub hl [1, 2, 3, 4, 6] rfl)
        · replace hf := zif_pos c37 hf
          exact w_X7_isApplicable_46 X hr hlk hK0 hkself hf hW (lv_sub hl [1, 2, 3, 4, 6] rfl)
set_option maxRecDepth 100000 in
set_option maxHeartbeats 4000000 in
theorem w_X7_isApplicable_6 {F : Nat} {a0 : Nat}  (X : zX p s m c cX7_isApplicable 7 RX7 D) (hr : meth.sig.returnType = some .boolean) (hlk : meth.locks = false) (hK0 : (K a0).1 = 17)  {t : Nat} {x1 : Int32} {x2 : Int32} {x3 : Int32} {x4 : Int32} {x5 : Int32} (hf : f_X7_isApplicable_6 F K R a0  t I x1 x2 x3 x4 x5 = some (r, I')) (hW : zS (zOwn B K (B + n)) D B n K I R s.heap H locs) (hl : lv_has ls 7 [(0, .ref (B + a0)), (1, .int x1), (2, .int x2), (3, .int x3), (4, .int x4), (5, .int x5)]) : W p l e ({ frames := 3, cells := 0, slots := 0, locals := 87 } : Room) s m args below meth c H locs 0 0 (MQ below (zQi D (zOwn B K (B + n)) r B n K I' R) args s 0 0 (zOwn B K (B + n))) (F0 m 6 ls []) := by
  have key : ∀ t : Nat, ∀ (I : zI) (x1 : Int32) (x2 : Int32) (x3 : Int32) (x4 : Int32) (x5 : Int32) (H : Heap) (locs : List Loc) (ls : Array Slot), f_X7_isApplicable_6 F K R a0  t I x1 x2 x3 x4 x5 = some (r, I') → zS (zOwn B K (B + n)) D B n K I R s.heap H locs → lv_has ls 7 [(0, .ref (B + a0)), (1, .int x1), (2, .int x2), (3, .int x3), (4, .int x4), (5, .int x5)] → W p l e ({ frames := 3, cells := 0, slots := 0, locals := 87 } : Room) s m args below meth c H locs 0 0 (MQ below (zQi D (zOwn B K (B + n)) r B n K I' R) args s 0 0 (zOwn B K (B + n))) (F0 m 6 ls []) := by
    intro t
    induction t with
    | zero =>
      intro I x1 x2 x3 x4 x5 H locs ls hf hW hl
      cases hf
    | succ t ih =>
      intro I x1 x2 x3 x4 x5 H locs ls hf hW hl
      exact wg_X7_isApplicable_6 X hr hlk hK0  ih hf hW hl
  exact key t _ _ _ _ _ _ _ _ _ hf hW hl
set_option maxRecDepth 100000 in
set_option maxHeartbeats 4000000 in
theorem c_X7_isApplicable (l : Launch) (D : zD) (B n : Nat) {F : Nat} {K : zK} {I : zI} {R : zR} {a0 : Nat} {x1 : Int32} {x2 : Int32} {x3 : Int32} {r : Int32} {I' : zI} (hK0 : (K a0).1 = 17) (hf : f_X7_isApplicable F K I R a0 x1 x2 x3 = some (r, I')) : zM l yX7_isApplicable cX7_isApplicable 7 (some .boolean) ({ frames := 3, cells := 0, slots := 0, locals := 87 } : Room) D B n K I R [.ref (B + a0), .int x1, .int x2, .int x3] (zQi D (zOwn B K (B + n)) r B n K I' R) := by
  refine ze_entry (lv0 := [(0, .ref (B + a0)), (1, .int x1), (2, .int x2), (3, .int x3)]) (by decide) (by simp [lg_sl, zcat, zcat_i, zcat_r, zcat_l]) (by simp [lv_args, zcat, zcat_i, zcat_r, zcat_l]) (fun p e s m below meth c X hr hlk hin hW ls hl => ?_)
  unfold f_X7_isApplicable at hf
  refine lv_iconst (v := 1) X.1 X.2.1 dX7_isApplicable_0 (by decide) ?_
  refine lv_istore (lv' := [(4, .int (1 : Int32)), (0, .ref (B + a0)), (1, .int x1), (2, .int x2), (3, .int x3)]) X.1 X.2.1 dX7_isApplicable_1 hl (by decide) rfl (fun ls hk => ?_)
  replace hl := hk
  refine lv_iconst (v := 0) X.1 X.2.1 dX7_isApplicable_3 (by decide) ?_
  refine lv_istore (lv' := [(5, .int (0 : Int32)), (4, .int (1 : Int32)), (0, .ref (B + a0)), (1, .int x1), (2, .int x2), (3, .int x3)]) X.1 X.2.1 dX7_isApplicable_4 hl (by decide) rfl (fun ls hk => ?_)
  replace hl := hk
  exact w_X7_isApplicable_6 X hr hlk hK0 hf hW (lv_sub hl [2, 3, 4, 5, 1, 0] rfl)
end

/-! LeastPatternsModel.builds(III)Z -/
def f_X7_builds_300 (F : Nat) (K : zK) (R : zR) (a0 : Nat) (k271 : zI → Int32 → Int32 → Int32 → Option (Int32 × zI)) (I : zI) (x4 : Int32) (x6 : Int32) (s0 : Int32) : Option (Int32 × zI) :=
  k271 I x4 s0 (x6 + (1 : Int32))
def f_X7_builds_299 (F : Nat) (K : zK) (R : zR) (a0 : Nat) (k271 : zI → Int32 → Int32 → Int32 → Option (Int32 × zI)) (I : zI) (x4 : Int32) (x6 : Int32) : Option (Int32 × zI) :=
  f_X7_builds_300 F K R a0 k271 I x4 x6 (0 : Int32)
def g_X7_builds_271 (F : Nat) (K : zK) (R : zR) (a0 : Nat)  (kself : zI → Int32 → Int32 → Int32 → Option (Int32 × zI)) (I : zI) (x4 : Int32) (x5 : Int32) (x6 : Int32) : Option (Int32 × zI) :=
  if x4 ≤ x6 then
    if x5 = 0 ∨ x5 = 1 then
    some (x5, I)
    else
    none
  else
    if x5 = (0 : Int32) then
      f_X7_builds_299 F K R a0 kself I x4 x6
    else
      zbd (some (R a0 7)) fun o4 =>
      zbd (zdr K o4 1) fun a5 =>
      zbd (zrd K I a5 x6) fun v8 =>
      if (7 : Int32) < v8 then
        f_X7_builds_299 F K R a0 kself I x4 x6
      else
        f_X7_builds_300 F K R a0 kself I x4 x6 (1 : Int32)
def f_X7_builds_271 (F : Nat) (K : zK) (R : zR) (a0 : Nat)  : Nat → zI → Int32 → Int32 → Int32 → Option (Int32 × zI)
  | 0, _, _, _, _ => none
  | t + 1, I, x4, x5, x6 => g_X7_builds_271 F K R a0  (f_X7_builds_271 F K R a0  t) I x4 x5 x6
def f_X7_builds_237 (F : Nat) (K : zK) (R : zR) (a0 : Nat) (k15 : zI → Int32 → Int32 → Int32 → Int32 → Int32 → Option (Int32 × zI)) (k113 : zI → Int32 → Int32 → Int32 → Int32 → Int32 → Int32 → Int32 → Int32 → Int32 → Int32 → Option (Int32 × zI)) (I : zI) (x1 : Int32) (x2 : Int32) (x3 : Int32) (x4 : Int32) (x5 : Int32) (x6 : Int32) (x7 : Int32) (x8 : Int32) (x9 : Int32) (x10 : Int32) : Option (Int32 × zI) :=
  k113 I x1 x2 x3 (x4 + (1 : Int32)) x5 x6 x7 x8 x9 (x10 + (1 : Int32))
def f_X7_builds_227 (F : Nat) (K : zK) (R : zR) (a0 : Nat) (k15 : zI → Int32 → Int32 → Int32 → Int32 → Int32 → Option (Int32 × zI)) (k113 : zI → Int32 → Int32 → Int32 → Int32 → Int32 → Int32 → Int32 → Int32 → Int32 → Int32 → Option (Int32 × zI)) (I : zI) (x1 : Int32) (x2 : Int32) (x3 : Int32) (x4 : Int32) (x5 : Int32) (x6 : Int32) (x7 : Int32) (x8 : Int32) (x9 : Int32) (x10 : Int32) (s0 : Option Nat) (s1 : Int32) (s2 : Int32) (s3 : Int32) (s4 : Int32) : Option (Int32 × zI) :=
  zbd (f_X7_widthOf F K I R a0 x1 x5) fun v10 =>
  zbd (zdr K s0 17) fun a12 =>
  zbd (f_X7_writes F K I R a12 s1 s2 s3 s4 v10) fun I15 =>
  f_X7_builds_237 F K R a0 k15 k113 I15 x1 x2 x3 x4 x5 x6 x7 x8 x9 x10
def f_X7_builds_205 (F : Nat) (K : zK) (R : zR) (a0 : Nat) (k15 : zI → Int32 → Int32 → Int32 → Int32 → Int32 → Option (Int32 × zI)) (k113 : zI → Int32 → Int32 → Int32 → Int32 → Int32 → Int32 → Int32 → Int32 → Int32 → Int32 → Option (Int32 × zI)) (I : zI) (x1 : Int32) (x2 : Int32) (x3 : Int32) (x4 : Int32) (x5 : Int32) (x6 : Int32) (x7 : Int32) (x8 : Int32) (x9 : Int32) (x10 : Int32) (s0 : Option Nat) (s1 : Int32) (s2 : Int32) (s3 : Int32) : Option (Int32 × zI) :=
  if x6 = (0 : Int32) then
    f_X7_builds_227 F K R a0 k15 k113 I x1 x2 x3 x4 x5 x6 x7 x8 x9 x10 s0 s1 s2 s3 x7
  else
    zbd (some (R a0 30)) fun o18 =>
    zbd (zdr K o18 1) fun a19 =>
    zbd (zrd K I a19 x7) fun v22 =>
    zbd (f_X7_number F K I R a0 x2 v22) fun v23 =>
    f_X7_builds_227 F K R a0 k15 k113 I x1 x2 x3 x4 x5 x6 x7 x8 x9 x10 s0 s1 s2 s3 v23
def g_X7_builds_113 (F : Nat) (K : zK) (R : zR) (a0 : Nat) (k15 : zI → Int32 → Int32 → Int32 → Int32 → Int32 → Option (Int32 × zI)) (kself : zI → Int32 → Int32 → Int32 → Int32 → Int32 → Int32 → Int32 → Int32 → Int32 → Int32 → Option (Int32 × zI)) (I : zI) (x1 : Int32) (x2 : Int32) (x3 : Int32) (x4 : Int32) (x5 : Int32) (x6 : Int32) (x7 : Int32) (x8 : Int32) (x9 : Int32) (x10 : Int32) : Option (Int32 × zI) :=
  if x9 ≤ x10 then
    k15 I x1 x2 x3 x4 (x5 + (1 : Int32))
  else
    if x8 = (0 : Int32) then
      if x6 = (0 : Int32) then
        f_X7_builds_205 F K R a0 k15 kself I x1 x2 x3 x4 x5 x6 x7 x8 x9 x10 (some a0) x3 x4 (0 : Int32)
      else
        zbd (some (R a0 30)) fun o28 =>
        zbd (zdr K o28 1) fun a29 =>
        zbd (zrd K I a29 x7) fun v32 =>
        zbd (f_X7_sort F K I R a0 x2 v32) fun v33 =>
        f_X7_builds_205 F K R a0 k15 kself I x1 x2 x3 x4 x5 x6 x7 x8 x9 x10 (some a0) x3 x4 v33
    else
      zbd (some (R a0 30)) fun o35 =>
      zbd (zdr K o35 1) fun a36 =>
      zbd (zrd K I a36 x7) fun v39 =>
      zbd (f_X7_sort F K I R a0 x2 (v39 + x10)) fun v40 =>
      zbd (some (R a0 30)) fun o42 =>
      zbd (zdr K o42 1) fun a43 =>
      zbd (zrd K I a43 x7) fun v46 =>
      zbd (f_X7_number F K I R a0 x2 (v46 + x10)) fun v47 =>
      zbd (some (R a0 30)) fun o49 =>
      zbd (zdr K o49 1) fun a50 =>
      zbd (zrd K I a50 x7) fun v53 =>
      zbd (f_X7_arguments F K I R a0 x2 (v53 + x10)) fun v54 =>
      zbd (f_X7_writes F K I R a0 x3 x4 v40 v47 v54) fun I56 =>
      f_X7_builds_237 F K R a0 k15 kself I56 x1 x2 x3 x4 x5 x6 x7 x8 x9 x10
def f_X7_builds_113 (F : Nat) (K : zK) (R : zR) (a0 : Nat) (k15 : zI → Int32 → Int32 → Int32 → Int32 → Int32 → Option (Int32 × zI)) : Nat → zI → Int32 → Int32 → Int32 → Int32 → Int32 → Int32 → Int32 → Int32 → Int32 → Int32 → Option (Int32 × zI)
  | 0, _, _, _, _, _, _, _, _, _, _, _ => none
  | t + 1, I, x1, x2, x3, x4, x5, x6, x7, x8, x9, x10 => g_X7_builds_113 F K R a0 k15 (f_X7_builds_113 F K R a0 k15 t) I x1 x2 x3 x4 x5 x6 x7 x8 x9 x10
def f_X7_builds_110 (F : Nat) (K : zK) (R : zR) (a0 : Nat) (k15 : zI → Int32 → Int32 → Int32 → Int32 → Int32 → Option (Int32 × zI)) (I : zI) (x1 : Int32) (x2 : Int32) (x3 : Int32) (x4 : Int32) (x5 : Int32) (x6 : Int32) (x7 : Int32) (x8 : Int32) (x9 : Int32) : Option (Int32 × zI) :=
  f_X7_builds_113 F K R a0 k15 F I x1 x2 x3 x4 x5 x6 x7 x8 x9 (0 : Int32)
def f_X7_builds_79 (F : Nat) (K : zK) (R : zR) (a0 : Nat) (k15 : zI → Int32 → Int32 → Int32 → Int32 → Int32 → Option (Int32 × zI)) (I : zI) (x1 : Int32) (x2 : Int32) (x3 : Int32) (x4 : Int32) (x5 : Int32) (x6 : Int32) (x7 : Int32) (x8 : Int32) (s0 : Int32) : Option (Int32 × zI) :=
  if (32 : Int32) < (x4 + s0) then
    some ((0 : Int32), I)
  else
    if x8 = (0 : Int32) then
      zbd (f_X7_widthOf F K I R a0 x1 x5) fun v60 =>
      if v60 ≤ (8 : Int32) then
        f_X7_builds_110 F K R a0 k15 I x1 x2 x3 x4 x5 x6 x7 x8 s0
      else
        some ((0 : Int32), I)
    else
      f_X7_builds_110 F K R a0 k15 I x1 x2 x3 x4 x5 x6 x7 x8 s0
def f_X7_builds_61 (F : Nat) (K : zK) (R : zR) (a0 : Nat) (k15 : zI → Int32 → Int32 → Int32 → Int32 → Int32 → Option (Int32 × zI)) (I : zI) (x1 : Int32) (x2 : Int32) (x3 : Int32) (x4 : Int32) (x5 : Int32) (x6 : Int32) (x7 : Int32) (s0 : Int32) : Option (Int32 × zI) :=
  if s0 = (0 : Int32) then
    f_X7_builds_79 F K R a0 k15 I x1 x2 x3 x4 x5 x6 x7 s0 (1 : Int32)
  else
    zbd (some (R a0 31)) fun o64 =>
    zbd (zdr K o64 1) fun a65 =>
    zbd (zrd K I a65 x7) fun v68 =>
    f_X7_builds_79 F K R a0 k15 I x1 x2 x3 x4 x5 x6 x7 s0 v68
def f_X7_builds_56 (F : Nat) (K : zK) (R : zR) (a0 : Nat) (k15 : zI → Int32 → Int32 → Int32 → Int32 → Int32 → Option (Int32 × zI)) (I : zI) (x1 : Int32) (x2 : Int32) (x3 : Int32) (x4 : Int32) (x5 : Int32) (x6 : Int32) (x7 : Int32) : Option (Int32 × zI) :=
  f_X7_builds_61 F K R a0 k15 I x1 x2 x3 x4 x5 x6 x7 (1 : Int32)
def g_X7_builds_15 (F : Nat) (K : zK) (R : zR) (a0 : Nat)  (kself : zI → Int32 → Int32 → Int32 → Int32 → Int32 → Option (Int32 × zI)) (I : zI) (x1 : Int32) (x2 : Int32) (x3 : Int32) (x4 : Int32) (x5 : Int32) : Option (Int32 × zI) :=
  zbd (some (R a0 0)) fun o69 =>
  zbd (zdr K o69 1) fun a70 =>
  zbd (zrd K I a70 x1) fun v73 =>
  if v73 ≤ x5 then
    zbd (some (R a0 0)) fun o75 =>
    zbd (zdr K o75 1) fun a76 =>
    zbd (zwr K I a76 x3 x4) fun I79 =>
    zbd (f_X7_levels F K I79 R a0 x3) fun I80 =>
    f_X7_builds_271 F K R a0 F I80 x4 (1 : Int32) (0 : Int32)
  else
    zbd (f_X7_sort F K I R a0 x1 x5) fun v82 =>
    zbd (f_X7_number F K I R a0 x1 x5) fun v84 =>
    if v82 = (1 : Int32) then
      f_X7_builds_56 F K R a0 kself I x1 x2 x3 x4 x5 v82 v84
    else
      if v82 = (3 : Int32) then
        f_X7_builds_56 F K R a0 kself I x1 x2 x3 x4 x5 v82 v84
      else
        f_X7_builds_61 F K R a0 kself I x1 x2 x3 x4 x5 v82 v84 (0 : Int32)
def f_X7_builds_15 (F : Nat) (K : zK) (R : zR) (a0 : Nat)  : Nat → zI → Int32 → Int32 → Int32 → Int32 → Int32 → Option (Int32 × zI)
  | 0, _, _, _, _, _, _ => none
  | t + 1, I, x1, x2, x3, x4, x5 => g_X7_builds_15 F K R a0  (f_X7_builds_15 F K R a0  t) I x1 x2 x3 x4 x5
def f_X7_builds (F : Nat) (K : zK) (I : zI) (R : zR) (a0 : Nat) (x1 : Int32) (x2 : Int32) (x3 : Int32) : Option (Int32 × zI) :=
  zbd (some (R a0 5)) fun o88 =>
  zbd (f_X7_counts F K I R a0 x1 o88) fun I89 =>
  f_X7_builds_15 F K R a0 F I89 x1 x2 x3 (0 : Int32) (0 : Int32)
section
variable {p : Program} {l : Launch} {e : Env} {s : State} {m : MethodId} {args : Array Value} {below : List Frame} {meth : Method} {c : Code} {D : zD} {B n n0 n' fd ld : Nat} {K K0 K' : zK} {I I' : zI} {R R' : zR} {H : Heap} {locs : List Loc} {ls : Array Slot} {r : Int32}
set_option maxRecDepth 100000 in
set_option maxHeartbeats 4000000 in
theorem w_X7_builds_300 {F : Nat} {a0 : Nat} {k271 : zI → Int32 → Int32 → Int32 → Option (Int32 × zI)} (X : zX p s m c cX7_builds 11 RX7 D) (hr : meth.sig.returnType = some .boolean) (hlk : meth.locks = false) (hK0 : (K a0).1 = 17) (hk271 : ∀ (I : zI) (x4 : Int32) (x5 : Int32) (x6 : Int32) (H : Heap) (locs : List Loc) (ls : Array Slot), k271 I x4 x5 x6 = some (r, I') → zS (zOwn B K (B + n)) D B n K I R s.heap H locs → lv_has ls 11 [(0, .ref (B + a0)), (4, .int x4), (5, .int x5), (6, .int x6)] → W p l e ({ frames := 4, cells := 0, slots := 0, locals := 111 } : Room) s m args below meth c H locs 0 0 (MQ below (zQi D (zOwn B K (B + n)) r B n K I' R) args s 0 0 (zOwn B K (B + n))) (F0 m 271 ls [])) {x4 : Int32} {x6 : Int32} {s0 : Int32} (hf : f_X7_builds_300 F K R a0 k271 I x4 x6 s0 = some (r, I')) (hW : zS (zOwn B K (B + n)) D B n K I R s.heap H locs) (hl : lv_has ls 11 [(0, .ref (B + a0)), (4, .int x4), (6, .int x6)]) : W p l e ({ frames := 4, cells := 0, slots := 0, locals := 111 } : Room) s m args below meth c H locs 0 0 (MQ below (zQi D (zOwn B K (B + n)) r B n K I' R) args s 0 0 (zOwn B K (B + n))) (F0 m 300 ls [.int s0]) := by
  unfold f_X7_builds_300 at hf
  refine lv_istore (lv' := [(5, .int s0), (0, .ref (B + a0)), (4, .int x4), (6, .int x6)]) X.1 X.2.1 dX7_builds_300 hl (by decide) rfl (fun ls hk => ?_)
  replace hl := hk
  refine ze_iinc (lv' := [(6, .int (x6 + (1 : Int32))), (5, .int s0), (0, .ref (B + a0)), (4, .int x4)]) (d := 1) X.1 X.2.1 dX7_builds_302 hl (k := 3) rfl (by decide) (by decide) rfl (fun ls hk => ?_)
  replace hl := hk
  refine lv_goto (tgt := 271) X.1 X.2.1 dX7_builds_305 (by decide) ?_
  exact hk271 _ _ _ _ _ _ _ hf hW (lv_sub hl [2, 3, 1, 0] rfl)
set_option maxRecDepth 100000 in
set_option maxHeartbeats 4000000 in
theorem w_X7_builds_299 {F : Nat} {a0 : Nat} {k271 : zI → Int32 → Int32 → Int32 → Option (Int32 × zI)} (X : zX p s m c cX7_builds 11 RX7 D) (hr : meth.sig.returnType = some .boolean) (hlk : meth.locks = false) (hK0 : (K a0).1 = 17) (hk271 : ∀ (I : zI) (x4 : Int32) (x5 : Int32) (x6 : Int32) (H : Heap) (locs : List Loc) (ls : Array Slot), k271 I x4 x5 x6 = some (r, I') → zS (zOwn B K (B + n)) D B n K I R s.heap H locs → lv_has ls 11 [(0, .ref (B + a0)), (4, .int x4), (5, .int x5), (6, .int x6)] → W p l e ({ frames := 4, cells := 0, slots := 0, locals := 111 } : Room) s m args below meth c H locs 0 0 (MQ below (zQi D (zOwn B K (B + n)) r B n K I' R) args s 0 0 (zOwn B K (B + n))) (F0 m 271 ls [])) {x4 : Int32} {x6 : Int32} (hf : f_X7_builds_299 F K R a0 k271 I x4 x6 = some (r, I')) (hW : zS (zOwn B K (B + n)) D B n K I R s.heap H locs) (hl : lv_has ls 11 [(0, .ref (B + a0)), (4, .int x4), (6, .int x6)]) : W p l e ({ frames := 4, cells := 0, slots := 0, locals := 111 } : Room) s m args below meth c H locs 0 0 (MQ below (zQi D (zOwn B K (B + n)) r B n K I' R) args s 0 0 (zOwn B K (B + n))) (F0 m 299 ls []) := by
  unfold f_X7_builds_299 at hf
  refine lv_iconst (v := 0) X.1 X.2.1 dX7_builds_299 (by decide) ?_
  exact w_X7_builds_300 X hr hlk hK0 hk271 hf hW hl
set_option maxRecDepth 100000 in
set_option maxHeartbeats 4000000 in
theorem wg_X7_builds_271 {F : Nat} {a0 : Nat}  (X : zX p s m c cX7_builds 11 RX7 D) (hr : meth.sig.returnType = some .boolean) (hlk : meth.locks = false) (hK0 : (K a0).1 = 17)  {kself : zI → Int32 → Int32 → Int32 → Option (Int32 × zI)} (hkself : ∀ (I : zI) (x4 : Int32) (x5 : Int32) (x6 : Int32) (H : Heap) (locs : List Loc) (ls : Array Slot), kself I x4 x5 x6 = some (r, I') → zS (zOwn B K (B + n)) D B n K I R s.heap H locs → lv_has ls 11 [(0, .ref (B + a0)), (4, .int x4), (5, .int x5), (6, .int x6)] → W p l e ({ frames := 4, cells := 0, slots := 0, locals := 111 } : Room) s m args below meth c H locs 0 0 (MQ below (zQi D (zOwn B K (B + n)) r B n K I' R) args s 0 0 (zOwn B K (B + n))) (F0 m 271 ls [])) {x4 : Int32} {x5 : Int32} {x6 : Int32} (hf : g_X7_builds_271 F K R a0  kself I x4 x5 x6 = some (r, I')) (hW : zS (zOwn B K (B + n)) D B n K I R s.heap H locs) (hl : lv_has ls 11 [(0, .ref (B + a0)), (4, .int x4), (5, .int x5), (6, .int x6)]) : W p l e ({ frames := 4, cells := 0, slots := 0, locals := 111 } : Room) s m args below meth c H locs 0 0 (MQ below (zQi D (zOwn B K (B + n)) r B n K I' R) args s 0 0 (zOwn B K (B + n))) (F0 m 271 ls []) := by
  unfold g_X7_builds_271 at hf
  refine lv_iload X.1 X.2.1 dX7_builds_271 (lv_at hl 3 rfl) ?_
  refine lv_iload X.1 X.2.1 dX7_builds_273 (lv_at hl 1 rfl) ?_
  refine lv_icmp_ge (tgt := 308) X.1 X.2.1 dX7_builds_275 (by decide) (fun c1 => ?_) (fun c1 => ?_)
  · replace hf := zif_pos c1 hf
    refine lv_iload X.1 X.2.1 dX7_builds_308 (lv_at hl 2 rfl) ?_
    obtain ⟨hv2, hg⟩ := zh_if hf
    replace hf := hg
    obtain ⟨rfl, rfl⟩ := zi2 hf
    exact ze_retZ X hr hlk hv2 hW (Nat.le_refl _) (Nat.le_refl _) dX7_builds_310
  · replace hf := zif_neg c1 hf
    refine lv_iload X.1 X.2.1 dX7_builds_278 (lv_at hl 2 rfl) ?_
    refine lv_if_eq (tgt := 299) X.1 X.2.1 dX7_builds_280 (by decide) (fun c3 => ?_) (fun c3 => ?_)
    · replace hf := zif_pos c3 hf
      exact w_X7_builds_299 X hr hlk hK0 hkself hf hW (lv_sub hl [0, 1, 3] rfl)
    · replace hf := zif_neg c3 hf
      refine lv_aload_n X.1 X.2.1 dX7_builds_283 rfl (lv_at hl 0 rfl) ?_
      refine ze_gtR X 7 7 26 (RX7, TX7, 39) rfl hf hW hK0 rfl (by decide) kfl_X7_26 dX7_builds_284 (fun o4 hg => ?_)
      replace hf := hg
      refine lv_iload X.1 X.2.1 dX7_builds_287 (lv_at hl 3 rfl) ?_
      obtain ⟨a5, rfl, k7, hg⟩ := zh_dr hf
      replace hf := hg
      refine ze_iald X hf hW k7 dX7_builds_289 (fun v8 hg => ?_)
      replace hf := hg
      refine lv_bipush (v := 7) X.1 X.2.1 dX7_builds_290 (by decide) ?_
      refine lv_icmp_gt (tgt := 299) X.1 X.2.1 dX7_builds_292 (by decide) (fun c9 => ?_) (fun c9 => ?_)
      · replace hf := zif_pos c9 hf
        exact w_X7_builds_299 X hr hlk hK0 hkself hf hW (lv_sub hl [0, 1, 3] rfl)
      · replace hf := zif_neg c9 hf
        refine lv_iconst (v := 1) X.1 X.2.1 dX7_builds_295 (by decide) ?_
        refine lv_goto (tgt := 300) X.1 X.2.1 dX7_builds_296 (by decide) ?_
        exact w_X7_builds_300 X hr hlk hK0 hkself hf hW (lv_sub hl [0, 1, 3] rfl)
set_option maxRecDepth 100000 in
set_option maxHeartbeats 4000000 in
theorem w_X7_builds_271 {F : Nat} {a0 : Nat}  (X : zX p s m c cX7_builds 11 RX7 D) (hr : meth.sig.returnType = some .boolean) (hlk : meth.locks = false) (hK0 : (K a0).1 = 17)  {t : Nat} {x4 : Int32} {x5 : Int32} {x6 : Int32} (hf : f_X7_builds_271 F K R a0  t I x4 x5 x6 = some (r, I')) (hW : zS (zOwn B K (B + n)) D B n K I R s.heap H locs) (hl : lv_has ls 11 [(0, .ref (B + a0)), (4, .int x4), (5, .int x5), (6, .int x6)]) : W p l e ({ frames := 4, cells := 0, slots := 0, locals := 111 } : Room) s m args below meth c H locs 0 0 (MQ below (zQi D (zOwn B K (B + n)) r B n K I' R) args s 0 0 (zOwn B K (B + n))) (F0 m 271 ls []) := by
  have key : ∀ t : Nat, ∀ (I : zI) (x4 : Int32) (x5 : Int32) (x6 : Int32) (H : Heap) (locs : List Loc) (ls : Array Slot), f_X7_builds_271 F K R a0  t I x4 x5 x6 = some (r, I') → zS (zOwn B K (B + n)) D B n K I R s.heap H locs → lv_has ls 11 [(0, .ref (B + a0)), (4, .int x4), (5, .int x5), (6, .int x6)] → W p l e ({ frames := 4, cells := 0, slots := 0, locals := 111 } : Room) s m args below meth c H locs 0 0 (MQ below (zQi D (zOwn B K (B + n)) r B n K I' R) args s 0 0 (zOwn B K (B + n))) (F0 m 271 ls []) := by
    intro t
    induction t with
    | zero =>
      intro I x4 x5 x6 H locs ls hf hW hl
      cases hf
    | succ t ih =>
      intro I x4 x5 x6 H locs ls hf hW hl
      exact wg_X7_builds_271 X hr hlk hK0  ih hf hW hl
  exact key t _ _ _ _ _ _ _ hf hW hl
set_option maxRecDepth 100000 in
set_option maxHeartbeats 4000000 in
theorem w_X7_builds_237 {F : Nat} {a0 : Nat} {k15 : zI → Int32 → Int32 → Int32 → Int32 → Int32 → Option (Int32 × zI)} {k113 : zI → Int32 → Int32 → Int32 → Int32 → Int32 → Int32 → Int32 → Int32 → Int32 → Int32 → Option (Int32 × zI)} (X : zX p s m c cX7_builds 11 RX7 D) (hr : meth.sig.returnType = some .boolean) (hlk : meth.locks = false) (hK0 : (K a0).1 = 17) (hk15 : ∀ (I : zI) (x1 : Int32) (x2 : Int32) (x3 : Int32) (x4 : Int32) (x5 : Int32) (H : Heap) (locs : List Loc) (ls : Array Slot), k15 I x1 x2 x3 x4 x5 = some (r, I') → zS (zOwn B K (B + n)) D B n K I R s.heap H locs → lv_has ls 11 [(0, .ref (B + a0)), (1, .int x1), (2, .int x2), (3, .int x3), (4, .int x4), (5, .int x5)] → W p l e ({ frames := 4, cells := 0, slots := 0, locals := 111 } : Room) s m args below meth c H locs 0 0 (MQ below (zQi D (zOwn B K (B + n)) r B n K I' R) args s 0 0 (zOwn B K (B + n))) (F0 m 15 ls [])) (hk113 : ∀ (I : zI) (x1 : Int32) (x2 : Int32) (x3 : Int32) (x4 : Int32) (x5 : Int32) (x6 : Int32) (x7 : Int32) (x8 : Int32) (x9 : Int32) (x10 : Int32) (H : Heap) (locs : List Loc) (ls : Array Slot), k113 I x1 x2 x3 x4 x5 x6 x7 x8 x9 x10 = some (r, I') → zS (zOwn B K (B + n)) D B n K I R s.heap H locs → lv_has ls 11 [(0, .ref (B + a0)), (1, .int x1), (2, .int x2), (3, .int x3), (4, .int x4), (5, .int x5), (6, .int x6), (7, .int x7), (8, .int x8), (9, .int x9), (10, .int x10)] → W p l e ({ frames := 4, cells := 0, slots := 0, locals := 111 } : Room) s m args below meth c H locs 0 0 (MQ below (zQi D (zOwn B K (B + n)) r B n K I' R) args s 0 0 (zOwn B K (B + n))) (F0 m 113 ls [])) {x1 : Int32} {x2 : Int32} {x3 : Int32} {x4 : Int32} {x5 : Int32} {x6 : Int32} {x7 : Int32} {x8 : Int32} {x9 : Int32} {x10 : Int32} (hf : f_X7_builds_237 F K R a0 k15 k113 I x1 x2 x3 x4 x5 x6 x7 x8 x9 x10 = some (r, I')) (hW : zS (zOwn B K (B + n)) D B n K I R s.heap H locs) (hl : lv_has ls 11 [(0, .ref (B + a0)), (1, .int x1), (2, .int x2), (3, .int x3), (4, .int x4), (5, .int x5), (6, .int x6), (7, .int x7), (8, .int x8), (9, .int x9), (10, .int x10)]) : W p l e ({ frames := 4, cells := 0, slots := 0, locals := 111 } : Room) s m args below meth c H locs 0 0 (MQ below (zQi D (zOwn B K (B + n)) r B n K I' R) args s 0 0 (zOwn B K (B + n))) (F0 m 237 ls []) := by
  unfold f_X7_builds_237 at hf
  refine ze_iinc (lv' := [(4, .int (x4 + (1 : Int32))), (0, .ref (B + a0)), (1, .int x1), (2, .int x2), (3, .int x3), (5, .int x5), (6, .int x6), (7, .int x7), (8, .int x8), (9, .int x9), (10, .int x10)]) (d := 1) X.1 X.2.1 dX7_builds_237 hl (k := 4) rfl (by decide) (by decide) rfl (fun ls hk => ?_)
  replace hl := hk
  refine ze_iinc (lv' := [(10, .int (x10 + (1 : Int32))), (4, .int (x4 + (1 : Int32))), (0, .ref (B + a0)), (1, .int x1), (2, .int x2), (3, .int x3), (5, .int x5), (6, .int x6), (7, .int x7), (8, .int x8), (9, .int x9)]) (d := 1) X.1 X.2.1 dX7_builds_240 hl (k := 10) rfl (by decide) (by decide) rfl (fun ls hk => ?_)
  replace hl := hk
  refine lv_goto (tgt := 113) X.1 X.2.1 dX7_builds_243 (by decide) ?_
  exact hk113 _ _ _ _ _ _ _ _ _ _ _ _ _ _ hf hW (lv_sub hl [2, 3, 4, 5, 1, 6, 7, 8, 9, 10, 0] rfl)
set_option maxRecDepth 100000 in
set_option maxHeartbeats 4000000 in
theorem w_X7_builds_227 {F : Nat} {a0 : Nat} {k15 : zI → Int32 → Int32 → Int32 → Int32 → Int32 → Option (Int32 × zI)} {k113 : zI → Int32 → Int32 → Int32 → Int32 → Int32 → Int32 → Int32 → Int32 → Int32 → Int32 → Option (Int32 × zI)} (X : zX p s m c cX7_builds 11 RX7 D) (hr : meth.sig.returnType = some .boolean) (hlk : meth.locks = false) (hK0 : (K a0).1 = 17) (hk15 : ∀ (I : zI) (x1 : Int32) (x2 : Int32) (x3 : Int32) (x4 : Int32) (x5 : Int32) (H : Heap) (locs : List Loc) (ls : Array Slot), k15 I x1 x2 x3 x4 x5 = some (r, I') → zS (zOwn B K (B + n)) D B n K I R s.heap H locs → lv_has ls 11 [(0, .ref (B + a0)), (1, .int x1), (2, .int x2), (3, .int x3), (4, .int x4), (5, .int x5)] → W p l e ({ frames := 4, cells := 0, slots := 0, locals := 111 } : Room) s m args below meth c H locs 0 0 (MQ below (zQi D (zOwn B K (B + n)) r B n K I' R) args s 0 0 (zOwn B K (B + n))) (F0 m 15 ls [])) (hk113 : ∀ (I : zI) (x1 : Int32) (x2 : Int32) (x3 : Int32) (x4 : Int32) (x5 : Int32) (x6 : Int32) (x7 : Int32) (x8 : Int32) (x9 : Int32) (x10 : Int32) (H : Heap) (locs : List Loc) (ls : Array Slot), k113 I x1 x2 x3 x4 x5 x6 x7 x8 x9 x10 = some (r, I') → zS (zOwn B K (B + n)) D B n K I R s.heap H locs → lv_has ls 11 [(0, .ref (B + a0)), (1, .int x1), (2, .int x2), (3, .int x3), (4, .int x4), (5, .int x5), (6, .int x6), (7, .int x7), (8, .int x8), (9, .int x9), (10, .int x10)] → W p l e ({ frames := 4, cells := 0, slots := 0, locals := 111 } : Room) s m args below meth c H locs 0 0 (MQ below (zQi D (zOwn B K (B + n)) r B n K I' R) args s 0 0 (zOwn B K (B + n))) (F0 m 113 ls [])) {x1 : Int32} {x2 : Int32} {x3 : Int32} {x4 : Int32} {x5 : Int32} {x6 : Int32} {x7 : Int32} {x8 : Int32} {x9 : Int32} {x10 : Int32} {s0 : Option Nat} {s1 : Int32} {s2 : Int32} {s3 : Int32} {s4 : Int32} (hf : f_X7_builds_227 F K R a0 k15 k113 I x1 x2 x3 x4 x5 x6 x7 x8 x9 x10 s0 s1 s2 s3 s4 = some (r, I')) (hW : zS (zOwn B K (B + n)) D B n K I R s.heap H locs) (hl : lv_has ls 11 [(0, .ref (B + a0)), (1, .int x1), (2, .int x2), (3, .int x3), (4, .int x4), (5, .int x5), (6, .int x6), (7, .int x7), (8, .int x8), (9, .int x9), (10, .int x10)]) : W p l e ({ frames := 4, cells := 0, slots := 0, locals := 111 } : Room) s m args below meth c H locs 0 0 (MQ below (zQi D (zOwn B K (B + n)) r B n K I' R) args s 0 0 (zOwn B K (B + n))) (F0 m 227 ls [.int s4, .int s3, .int s2, .int s1, zrf B s0]) := by
  unfold f_X7_builds_227 at hf
  refine lv_aload_n X.1 X.2.1 dX7_builds_227 rfl (lv_at hl 0 rfl) ?_
  refine lv_iload_n X.1 X.2.1 dX7_builds_228 rfl (lv_at hl 1 rfl) ?_
  refine lv_iload X.1 X.2.1 dX7_builds_229 (lv_at hl 5 rfl) ?_
  obtain ⟨v10, h11, hg⟩ := zh_bd hf
  replace hf := hg
  refine ze_aftI0 (ze_runV (As := [.int x1, .int x5]) (rest := [.int s4, .int s3, .int s2, .int s1, zrf B s0]) X 7 293 (c_X7_widthOf l D B n hK0 h11) vX7_widthOf kml_X7_293 hW hK0 rfl rfl ⟨by decide, by decide⟩ rfl hl.1 rfl (by simp [zcat, zcat_i, zcat_r, zcat_l]) ⟨Nat.le_refl _, Nat.le_refl _⟩ dX7_builds_231) hW (fun H locs hV => ?_)
  replace hW := hV
  obtain ⟨a12, rfl, k14, hg⟩ := zh_dr hf
  replace hf := hg
  obtain ⟨I15, h16, hg⟩ := zh_bd hf
  replace hf := hg
  refine ze_aftV0 (ze_runV (As := [.int s1, .int s2, .int s3, .int s4, .int v10]) (rest := []) X 7 143 (c_X7_writes l D B n k14 h16) vX7_writes kml_X7_143 hW k14 rfl rfl ⟨by decide, by decide⟩ rfl hl.1 rfl (Nat.le_of_ble_eq_true rfl) ⟨Nat.le_refl _, Nat.le_refl _⟩ dX7_builds_234) hW (fun H locs hV => ?_)
  replace hW := hV
  exact w_X7_builds_237 X hr hlk hK0 hk15 hk113 hf hW hl
set_option maxRecDepth 100000 in
set_option maxHeartbeats 4000000 in
theorem w_X7_builds_205 {F : Nat} {a0 : Nat} {k15 : zI → Int32 → Int32 → Int32 → Int32 → Int32 → Option (Int32 × zI)} {k113 : zI → Int32 → Int32 → Int32 → Int32 → Int32 → Int32 → Int32 → Int32 → Int32 → Int32 → Option (Int32 × zI)} (X : zX p s m c cX7_builds 11 RX7 D) (hr : meth.sig.returnType = some .boolean) (hlk : meth.locks = false) (hK0 : (K a0).1 = 17) (hk15 : ∀ (I : zI) (x1 : Int32) (x2 : Int32) (x3 : Int32) (x4 : Int32) (x5 : Int32) (H : Heap) (locs : List Loc) (ls : Array Slot), k15 I x1 x2 x3 x4 x5 = some (r, I') → zS (zOwn B K (B + n)) D B n K I R s.heap H locs → lv_has ls 11 [(0, .ref (B + a0)), (1, .int x1), (2, .int x2), (3, .int x3), (4, .int x4), (5, .int x5)] → W p l e ({ frames := 4, cells := 0, slots := 0, locals := 111 } : Room) s m args below meth c H locs 0 0 (MQ below (zQi D (zOwn B K (B + n)) r B n K I' R) args s 0 0 (zOwn B K (B + n))) (F0 m 15 ls [])) (hk113 : ∀ (I : zI) (x1 : Int32) (x2 : Int32) (x3 : Int32) (x4 : Int32) (x5 : Int32) (x6 : Int32) (x7 : Int32) (x8 : Int32) (x9 : Int32) (x10 : Int32) (H : Heap) (locs : List Loc) (ls : Array Slot), k113 I x1 x2 x3 x4 x5 x6 x7 x8 x9 x10 = some (r, I') → zS (zOwn B K (B + n)) D B n K I R s.heap H locs → lv_has ls 11 [(0, .ref (B + a0)), (1, .int x1), (2, .int x2), (3, .int x3), (4, .int x4), (5, .int x5), (6, .int x6), (7, .int x7), (8, .int x8), (9, .int x9), (10, .int x10)] → W p l e ({ frames := 4, cells := 0, slots := 0, locals := 111 } : Room) s m args below meth c H locs 0 0 (MQ below (zQi D (zOwn B K (B + n)) r B n K I' R) args s 0 0 (zOwn B K (B + n))) (F0 m 113 ls [])) {x1 : Int32} {x2 : Int32} {x3 : Int32} {x4 : Int32} {x5 : Int32} {x6 : Int32} {x7 : Int32} {x8 : Int32} {x9 : Int32} {x10 : Int32} {s0 : Option Nat} {s1 : Int32} {s2 : Int32} {s3 : Int32} (hf : f_X7_builds_205 F K R a0 k15 k113 I x1 x2 x3 x4 x5 x6 x7 x8 x9 x10 s0 s1 s2 s3 = some (r, I')) (hW : zS (zOwn B K (B + n)) D B n K I R s.heap H locs) (hl : lv_has ls 11 [(0, .ref (B + a0)), (1, .int x1), (2, .int x2), (3, .int x3), (4, .int x4), (5, .int x5), (6, .int x6), (7, .int x7), (8, .int x8), (9, .int x9), (10, .int x10)]) : W p l e ({ frames := 4, cells := 0, slots := 0, locals := 111 } : Room) s m args below meth c H locs 0 0 (MQ below (zQi D (zOwn B K (B + n)) r B n K I' R) args s 0 0 (zOwn B K (B + n))) (F0 m 205 ls [.int s3, .int s2, .int s1, zrf B s0]) := by
  unfold f_X7_builds_205 at hf
  refine lv_iload X.1 X.2.1 dX7_builds_205 (lv_at hl 6 rfl) ?_
  refine lv_if_ne (tgt := 215) X.1 X.2.1 dX7_builds_207 (by decide) (fun c17 => ?_) (fun c17 => ?_)
  · replace hf := zif_neg c17 hf
    refine lv_aload_n X.1 X.2.1 dX7_builds_215 rfl (lv_at hl 0 rfl) ?_
    refine lv_iload_n X.1 X.2.1 dX7_builds_216 rfl (lv_at hl 2 rfl) ?_
    refine lv_aload_n X.1 X.2.1 dX7_builds_217 rfl (lv_at hl 0 rfl) ?_
    refine ze_gtR X 7 30 81 (RX7, TX7, 39) rfl hf hW hK0 rfl (by decide) kfl_X7_81 dX7_builds_218 (fun o18 hg => ?_)
    replace hf := hg
    refine lv_iload X.1 X.2.1 dX7_builds_221 (lv_at hl 7 rfl) ?_
    obtain ⟨a19, rfl, k21, hg⟩ := zh_dr hf
    replace hf := hg
    refine ze_iald X hf hW k21 dX7_builds_223 (fun v22 hg => ?_)
    replace hf := hg
    obtain ⟨v23, h24, hg⟩ := zh_bd hf
    replace hf := hg
    refine ze_aftI0 (ze_runV (As := [.int x2, .int v22]) (rest := [.int s3, .int s2, .int s1, zrf B s0]) X 7 159 (c_X7_number l D B n hK0 h24) vX7_number kml_X7_159 hW hK0 rfl rfl ⟨by decide, by decide⟩ rfl hl.1 rfl (by simp [zcat, zcat_i, zcat_r, zcat_l]) ⟨Nat.le_refl _, Nat.le_refl _⟩ dX7_builds_224) hW (fun H locs hV => ?_)
    replace hW := hV
    exact w_X7_builds_227 X hr hlk hK0 hk15 hk113 hf hW hl
  · replace hf := zif_pos c17 hf
    refine lv_iload X.1 X.2.1 dX7_builds_210 (lv_at hl 7 rfl) ?_
    refine lv_goto (tgt := 227) X.1 X.2.1 dX7_builds_212 (by decide) ?_
    exact w_X7_builds_227 X hr hlk hK0 hk15 hk113 hf hW hl
set_option maxRecDepth 100000 in
set_option maxHeartbeats 4000000 in
theorem wg_X7_builds_113 {F : Nat} {a0 : Nat} {k15 : zI → Int32 → Int32 → Int32 → Int32 → Int32 → Option (Int32 × zI)} (X : zX p s m c cX7_builds 11 RX7 D) (hr : meth.sig.returnType = some .boolean) (hlk : meth.locks = false) (hK0 : (K a0).1 = 17) (hk15 : ∀ (I : zI) (x1 : Int32) (x2 : Int32) (x3 : Int32) (x4 : Int32) (x5 : Int32) (H : Heap) (locs : List Loc) (ls : Array Slot), k15 I x1 x2 x3 x4 x5 = some (r, I') → zS (zOwn B K (B + n)) D B n K I R s.heap H locs → lv_has ls 11 [(0, .ref (B + a0)), (1, .int x1), (2, .int x2), (3, .int x3), (4, .int x4), (5, .int x5)] → W p l e ({ frames := 4, cells := 0, slots := 0, locals := 111 } : Room) s m args below meth c H locs 0 0 (MQ below (zQi D (zOwn B K (B + n)) r B n K I' R) args s 0 0 (zOwn B K (B + n))) (F0 m 15 ls [])) {kself : zI → Int32 → Int32 → Int32 → Int32 → Int32 → Int32 → Int32 → Int32 → Int32 → Int32 → Option (Int32 × zI)} (hkself : ∀ (I : zI) (x1 : Int32) (x2 : Int32) (x3 : Int32) (x4 : Int32) (x5 : Int32) (x6 : Int32) (x7 : Int32) (x8 : Int32) (x9 : Int32) (x10 : Int32) (H : Heap) (locs : List Loc) (ls : Array Slot), kself I x1 x2 x3 x4 x5 x6 x7 x8 x9 x10 = some (r, I') → zS (zOwn B K (B + n)) D B n K I R s.heap H locs → lv_has ls 11 [(0, .ref (B + a0)), (1, .int x1), (2, .int x2), (3, .int x3), (4, .int x4), (5, .int x5), (6, .int x6), (7, .int x7), (8, .int x8), (9, .int x9), (10, .int x10)] → W p l e ({ frames := 4, cells := 0, slots := 0, locals := 111 } : Room) s m args below meth c H locs 0 0 (MQ below (zQi D (zOwn B K (B + n)) r B n K I' R) args s 0 0 (zOwn B K (B + n))) (F0 m 113 ls [])) {x1 : Int32} {x2 : Int32} {x3 : Int32} {x4 : Int32} {x5 : Int32} {x6 : Int32} {x7 : Int32} {x8 : Int32} {x9 : Int32} {x10 : Int32} (hf : g_X7_builds_113 F K R a0 k15 kself I x1 x2 x3 x4 x5 x6 x7 x8 x9 x10 = some (r, I')) (hW : zS (zOwn B K (B + n)) D B n K I R s.heap H locs) (hl : lv_has ls 11 [(0, .ref (B + a0)), (1, .int x1), (2, .int x2), (3, .int x3), (4, .int x4), (5, .int x5), (6, .int x6), (7, .int x7), (8, .int x8), (9, .int x9), (10, .int x10)]) : W p l e ({ frames := 4, cells := 0, slots := 0, locals := 111 } : Room) s m args below meth c H locs 0 0 (MQ below (zQi D (zOwn B K (B + n)) r B n K I' R) args s 0 0 (zOwn B K (B + n))) (F0 m 113 ls []) := by
  unfold g_X7_builds_113 at hf
  refine lv_iload X.1 X.2.1 dX7_builds_113 (lv_at hl 10 rfl) ?_
  refine lv_iload X.1 X.2.1 dX7_builds_115 (lv_at hl 9 rfl) ?_
  refine lv_icmp_ge (tgt := 246) X.1 X.2.1 dX7_builds_117 (by decide) (fun c25 => ?_) (fun c25 => ?_)
  · replace hf := zif_pos c25 hf
    refine ze_iinc (lv' := [(5, .int (x5 + (1 : Int32))), (0, .ref (B + a0)), (1, .int x1), (2, .int x2), (3, .int x3), (4, .int x4), (6, .int x6), (7, .int x7), (8, .int x8), (9, .int x9), (10, .int x10)]) (d := 1) X.1 X.2.1 dX7_builds_246 hl (k := 5) rfl (by decide) (by decide) rfl (fun ls hk => ?_)
    replace hl := hk
    refine lv_goto (tgt := 15) X.1 X.2.1 dX7_builds_249 (by decide) ?_
    exact hk15 _ _ _ _ _ _ _ _ _ hf hW (lv_sub hl [1, 2, 3, 4, 5, 0] rfl)
  · replace hf := zif_neg c25 hf
    refine lv_iload X.1 X.2.1 dX7_builds_120 (lv_at hl 8 rfl) ?_
    refine lv_if_eq (tgt := 180) X.1 X.2.1 dX7_builds_122 (by decide) (fun c26 => ?_) (fun c26 => ?_)
    · replace hf := zif_pos c26 hf
      refine lv_aload_n X.1 X.2.1 dX7_builds_180 rfl (lv_at hl 0 rfl) ?_
      refine lv_iload_n X.1 X.2.1 dX7_builds_181 rfl (lv_at hl 3 rfl) ?_
      refine lv_iload X.1 X.2.1 dX7_builds_182 (lv_at hl 4 rfl) ?_
      refine lv_iload X.1 X.2.1 dX7_builds_184 (lv_at hl 6 rfl) ?_
      refine lv_if_ne (tgt := 193) X.1 X.2.1 dX7_builds_186 (by decide) (fun c27 => ?_) (fun c27 => ?_)
      · replace hf := zif_neg c27 hf
        refine lv_aload_n X.1 X.2.1 dX7_builds_193 rfl (lv_at hl 0 rfl) ?_
        refine lv_iload_n X.1 X.2.1 dX7_builds_194 rfl (lv_at hl 2 rfl) ?_
        refine lv_aload_n X.1 X.2.1 dX7_builds_195 rfl (lv_at hl 0 rfl) ?_
        refine ze_gtR X 7 30 81 (RX7, TX7, 39) rfl hf hW hK0 rfl (by decide) kfl_X7_81 dX7_builds_196 (fun o28 hg => ?_)
        replace hf := hg
        refine lv_iload X.1 X.2.1 dX7_builds_199 (lv_at hl 7 rfl) ?_
        obtain ⟨a29, rfl, k31, hg⟩ := zh_dr hf
        replace hf := hg
        refine ze_iald X hf hW k31 dX7_builds_201 (fun v32 hg => ?_)
        replace hf := hg
        obtain ⟨v33, h34, hg⟩ := zh_bd hf
        replace hf := hg
        refine ze_aftI0 (ze_runV (As := [.int x2, .int v32]) (rest := [.int x4, .int x3, .ref (B + a0)]) X 7 119 (c_X7_sort l D B n hK0 h34) vX7_sort kml_X7_119 hW hK0 rfl rfl ⟨by decide, by decide⟩ rfl hl.1 rfl (Nat.le_of_ble_eq_true rfl) ⟨Nat.le_refl _, Nat.le_refl _⟩ dX7_builds_202) hW (fun H locs hV => ?_)
        replace hW := hV
        exact w_X7_builds_205 X hr hlk hK0 hk15 hkself hf hW hl
      · replace hf := zif_pos c27 hf
        refine lv_iconst (v := 0) X.1 X.2.1 dX7_builds_189 (by decide) ?_
        refine lv_goto (tgt := 205) X.1 X.2.1 dX7_builds_190 (by decide) ?_
        exact w_X7_builds_205 X hr hlk hK0 hk15 hkself hf hW hl
    · replace hf := zif_neg c26 hf
      refine lv_aload_n X.1 X.2.1 dX7_builds_125 rfl (lv_at hl 0 rfl) ?_
      refine lv_iload_n X.1 X.2.1 dX7_builds_126 rfl (lv_at hl 3 rfl) ?_
      refine lv_iload X.1 X.2.1 dX7_builds_127 (lv_at hl 4 rfl) ?_
      refine lv_aload_n X.1 X.2.1 dX7_builds_129 rfl (lv_at hl 0 rfl) ?_
      refine lv_iload_n X.1 X.2.1 dX7_builds_130 rfl (lv_at hl 2 rfl) ?_
      refine lv_aload_n X.1 X.2.1 dX7_builds_131 rfl (lv_at hl 0 rfl) ?_
      refine ze_gtR X 7 30 81 (RX7, TX7, 39) rfl hf hW hK0 rfl (by decide) kfl_X7_81 dX7_builds_132 (fun o35 hg => ?_)
      replace hf := hg
      refine lv_iload X.1 X.2.1 dX7_builds_135 (lv_at hl 7 rfl) ?_
      obtain ⟨a36, rfl, k38, hg⟩ := zh_dr hf
      replace hf := hg
      refine ze_iald X hf hW k38 dX7_builds_137 (fun v39 hg => ?_)
      replace hf := hg
      refine lv_iload X.1 X.2.1 dX7_builds_138 (lv_at hl 10 rfl) ?_
      refine lv_iadd X.1 X.2.1 dX7_builds_140 ?_
      obtain ⟨v40, h41, hg⟩ := zh_bd hf
      replace hf := hg
      refine ze_aftI0 (ze_runV (As := [.int x2, .int (v39 + x10)]) (rest := [.int x4, .int x3, .ref (B + a0)]) X 7 119 (c_X7_sort l D B n hK0 h41) vX7_sort kml_X7_119 hW hK0 rfl rfl ⟨by decide, by decide⟩ rfl hl.1 rfl (Nat.le_of_ble_eq_true rfl) ⟨Nat.le_refl _, Nat.le_refl _⟩ dX7_builds_141) hW (fun H locs hV => ?_)
      replace hW := hV
      refine lv_aload_n X.1 X.2.1 dX7_builds_144 rfl (lv_at hl 0 rfl) ?_
      refine lv_iload_n X.1 X.2.1 dX7_builds_145 rfl (lv_at hl 2 rfl) ?_
      refine lv_aload_n X.1 X.2.1 dX7_builds_146 rfl (lv_at hl 0 rfl) ?_
      refine ze_gtR X 7 30 81 (RX7, TX7, 39) rfl hf hW hK0 rfl (by decide) kfl_X7_81 dX7_builds_147 (fun o42 hg => ?_)
      replace hf := hg
      refine lv_iload X.1 X.2.1 dX7_builds_150 (lv_at hl 7 rfl) ?_
      obtain ⟨a43, rfl, k45, hg⟩ := zh_dr hf
      replace hf := hg
      refine ze_iald X hf hW k45 dX7_builds_152 (fun v46 hg => ?_)
      replace hf := hg
      refine lv_iload X.1 X.2.1 dX7_builds_153 (lv_at hl 10 rfl) ?_
      refine lv_iadd X.1 X.2.1 dX7_builds_155 ?_
      obtain ⟨v47, h48, hg⟩ := zh_bd hf
      replace hf := hg
      refine ze_aftI0 (ze_runV (As := [.int x2, .int (v46 + x10)]) (rest := [.int v40, .int x4, .int x3, .ref (B + a0)]) X 7 159 (c_X7_number l D B n hK0 h48) vX7_number kml_X7_159 hW hK0 rfl rfl ⟨by decide, by decide⟩ rfl hl.1 rfl (Nat.le_of_ble_eq_true rfl) ⟨Nat.le_refl _, Nat.le_refl _⟩ dX7_builds_156) hW (fun H locs hV => ?_)
      replace hW := hV
      refine lv_aload_n X.1 X.2.1 dX7_builds_159 rfl (lv_at hl 0 rfl) ?_
      refine lv_iload_n X.1 X.2.1 dX7_builds_160 rfl (lv_at hl 2 rfl) ?_
      refine lv_aload_n X.1 X.2.1 dX7_builds_161 rfl (lv_at hl 0 rfl) ?_
      refine ze_gtR X 7 30 81 (RX7, TX7, 39) rfl hf hW hK0 rfl (by decide) kfl_X7_81 dX7_builds_162 (fun o49 hg => ?_)
      replace hf := hg
      refine lv_iload X.1 X.2.1 dX7_builds_165 (lv_at hl 7 rfl) ?_
      obtain ⟨a50, rfl, k52, hg⟩ := zh_dr hf
      replace hf := hg
      refine ze_iald X hf hW k52 dX7_builds_167 (fun v53 hg => ?_)
      replace hf := hg
      refine lv_iload X.1 X.2.1 dX7_builds_168 (lv_at hl 10 rfl) ?_
      refine lv_iadd X.1 X.2.1 dX7_builds_170 ?_
      obtain ⟨v54, h55, hg⟩ := zh_bd hf
      replace hf := hg
      refine ze_aftI0 (ze_runV (As := [.int x2, .int (v53 + x10)]) (rest := [.int v47, .int v40, .int x4, .int x3, .ref (B + a0)]) X 7 111 (c_X7_arguments l D B n hK0 h55) vX7_arguments kml_X7_111 hW hK0 rfl rfl ⟨by decide, by decide⟩ rfl hl.1 rfl (Nat.le_of_ble_eq_true rfl) ⟨Nat.le_refl _, Nat.le_refl _⟩ dX7_builds_171) hW (fun H locs hV => ?_)
      replace hW := hV
      obtain ⟨I56, h57, hg⟩ := zh_bd hf
      replace hf := hg
      refine ze_aftV0 (ze_runV (As := [.int x3, .int x4, .int v40, .int v47, .int v54]) (rest := []) X 7 143 (c_X7_writes l D B n hK0 h57) vX7_writes kml_X7_143 hW hK0 rfl rfl ⟨by decide, by decide⟩ rfl hl.1 rfl (Nat.le_of_ble_eq_true rfl) ⟨Nat.le_refl _, Nat.le_refl _⟩ dX7_builds_174) hW (fun H locs hV => ?_)
      replace hW := hV
      refine lv_goto (tgt := 237) X.1 X.2.1 dX7_builds_177 (by decide) ?_
      exact w_X7_builds_237 X hr hlk hK0 hk15 hkself hf hW hl
set_option maxRecDepth 100000 in
set_option maxHeartbeats 4000000 in
theorem w_X7_builds_113 {F : Nat} {a0 : Nat} {k15 : zI → Int32 → Int32 → Int32 → Int32 → Int32 → Option (Int32 × zI)} (X : zX p s m c cX7_builds 11 RX7 D) (hr : meth.sig.returnType = some .boolean) (hlk : meth.locks = false) (hK0 : (K a0).1 = 17) (hk15 : ∀ (I : zI) (x1 : Int32) (x2 : Int32) (x3 : Int32) (x4 : Int32) (x5 : Int32) (H : Heap) (locs : List Loc) (ls : Array Slot), k15 I x1 x2 x3 x4 x5 = some (r, I') → zS (zOwn B K (B + n)) D B n K I R s.heap H locs → lv_has ls 11 [(0, .ref (B + a0)), (1, .int x1), (2, .int x2), (3, .int x3), (4, .int x4), (5, .int x5)] → W p l e ({ frames := 4, cells := 0, slots := 0, locals := 111 } : Room) s m args below meth c H locs 0 0 (MQ below (zQi D (zOwn B K (B + n)) r B n K I' R) args s 0 0 (zOwn B K (B + n))) (F0 m 15 ls [])) {t : Nat} {x1 : Int32} {x2 : Int32} {x3 : Int32} {x4 : Int32} {x5 : Int32} {x6 : Int32} {x7 : Int32} {x8 : Int32} {x9 : Int32} {x10 : Int32} (hf : f_X7_builds_113 F K R a0 k15 t I x1 x2 x3 x4 x5 x6 x7 x8 x9 x10 = some (r, I')) (hW : zS (zOwn B K (B + n)) D B n K I R s.heap H locs) (hl : lv_has ls 11 [(0, .ref (B + a0)), (1, .int x1), (2, .int x2), (3, .int x3), (4, .int x4), (5, .int x5), (6, .int x6), (7, .int x7), (8, .int x8), (9, .int x9), (10, .int x10)]) : W p l e ({ frames := 4, cells := 0, slots := 0, locals := 111 } : Room) s m args below meth c H locs 0 0 (MQ below (zQi D (zOwn B K (B + n)) r B n K I' R) args s 0 0 (zOwn B K (B + n))) (F0 m 113 ls []) := by
  have key : ∀ t : Nat, ∀ (I : zI) (x1 : Int32) (x2 : Int32) (x3 : Int32) (x4 : Int32) (x5 : Int32) (x6 : Int32) (x7 : Int32) (x8 : Int32) (x9 : Int32) (x10 : Int32) (H : Heap) (locs : List Loc) (ls : Array Slot), f_X7_builds_113 F K R a0 k15 t I x1 x2 x3 x4 x5 x6 x7 x8 x9 x10 = some (r, I') → zS (zOwn B K (B + n)) D B n K I R s.heap H locs → lv_has ls 11 [(0, .ref (B + a0)), (1, .int x1), (2, .int x2), (3, .int x3), (4, .int x4), (5, .int x5), (6, .int x6), (7, .int x7), (8, .int x8), (9, .int x9), (10, .int x10)] → W p l e ({ frames := 4, cells := 0, slots := 0, locals := 111 } : Room) s m args below meth c H locs 0 0 (MQ below (zQi D (zOwn B K (B + n)) r B n K I' R) args s 0 0 (zOwn B K (B + n))) (F0 m 113 ls []) := by
    intro t
    induction t with
    | zero =>
      intro I x1 x2 x3 x4 x5 x6 x7 x8 x9 x10 H locs ls hf hW hl
      cases hf
    | succ t ih =>
      intro I x1 x2 x3 x4 x5 x6 x7 x8 x9 x10 H locs ls hf hW hl
      exact wg_X7_builds_113 X hr hlk hK0 hk15 ih hf hW hl
  exact key t _ _ _ _ _ _ _ _ _ _ _ _ _ _ hf hW hl
set_option maxRecDepth 100000 in
set_option maxHeartbeats 4000000 in
theorem w_X7_builds_110 {F : Nat} {a0 : Nat} {k15 : zI → Int32 → Int32 → Int32 → Int32 → Int32 → Option (Int32 × zI)} (X : zX p s m c cX7_builds 11 RX7 D) (hr : meth.sig.returnType = some .boolean) (hlk : meth.locks = false) (hK0 : (K a0).1 = 17) (hk15 : ∀ (I : zI) (x1 : Int32) (x2 : Int32) (x3 : Int32) (x4 : Int32) (x5 : Int32) (H : Heap) (locs : List Loc) (ls : Array Slot), k15 I x1 x2 x3 x4 x5 = some (r, I') → zS (zOwn B K (B + n)) D B n K I R s.heap H locs → lv_has ls 11 [(0, .ref (B + a0)), (1, .int x1), (2, .int x2), (3, .int x3), (4, .int x4), (5, .int x5)] → W p l e ({ frames := 4, cells := 0, slots := 0, locals := 111 } : Room) s m args below meth c H locs 0 0 (MQ below (zQi D (zOwn B K (B + n)) r B n K I' R) args s 0 0 (zOwn B K (B + n))) (F0 m 15 ls [])) {x1 : Int32} {x2 : Int32} {x3 : Int32} {x4 : Int32} {x5 : Int32} {x6 : Int32} {x7 : Int32} {x8 : Int32} {x9 : Int32} (hf : f_X7_builds_110 F K R a0 k15 I x1 x2 x3 x4 x5 x6 x7 x8 x9 = some (r, I')) (hW : zS (zOwn B K (B + n)) D B n K I R s.heap H locs) (hl : lv_has ls 11 [(0, .ref (B + a0)), (1, .int x1), (2, .int x2), (3, .int x3), (4, .int x4), (5, .int x5), (6, .int x6), (7, .int x7), (8, .int x8), (9, .int x9)]) : W p l e ({ frames := 4, cells := 0, slots := 0, locals := 111 } : Room) s m args below meth c H locs 0 0 (MQ below (zQi D (zOwn B K (B + n)) r B n K I' R) args s 0 0 (zOwn B K (B + n))) (F0 m 110 ls []) := by
  unfold f_X7_builds_110 at hf
  refine lv_iconst (v := 0) X.1 X.2.1 dX7_builds_110 (by decide) ?_
  refine lv_istore (lv' := [(10, .int (0 : Int32)), (0, .ref (B + a0)), (1, .int x1), (2, .int x2), (3, .int x3), (4, .int x4), (5, .int x5), (6, .int x6), (7, .int x7), (8, .int x8), (9, .int x9)]) X.1 X.2.1 dX7_builds_111 hl (by decide) rfl (fun ls hk => ?_)
  replace hl := hk
  exact w_X7_builds_113 X hr hlk hK0 hk15 hf hW (lv_sub hl [1, 2, 3, 4, 5, 6, 7, 8, 9, 10, 0] rfl)
set_option maxRecDepth 100000 in
set_option maxHeartbeats 4000000 in
theorem w_X7_builds_79 {F : Nat} {a0 : Nat} {k15 : zI → Int32 → Int32 → Int32 → Int32 → Int32 → Option (Int32 × zI)} (X : zX p s m c cX7_builds 11 RX7 D) (hr : meth.sig.returnType = some .boolean) (hlk : meth.locks = false) (hK0 : (K a0).1 = 17) (hk15 : ∀ (I : zI) (x1 : Int32) (x2 : Int32) (x3 : Int32) (x4 : Int32) (x5 : Int32) (H : Heap) (locs : List Loc) (ls : Array Slot), k15 I x1 x2 x3 x4 x5 = some (r, I') → zS (zOwn B K (B + n)) D B n K I R s.heap H locs → lv_has ls 11 [(0, .ref (B + a0)), (1, .int x1), (2, .int x2), (3, .int x3), (4, .int x4), (5, .int x5)] → W p l e ({ frames := 4, cells := 0, slots := 0, locals := 111 } : Room) s m args below meth c H locs 0 0 (MQ below (zQi D (zOwn B K (B + n)) r B n K I' R) args s 0 0 (zOwn B K (B + n))) (F0 m 15 ls [])) {x1 : Int32} {x2 : Int32} {x3 : Int32} {x4 : Int32} {x5 : Int32} {x6 : Int32} {x7 : Int32} {x8 : Int32} {s0 : Int32} (hf : f_X7_builds_79 F K R a0 k15 I x1 x2 x3 x4 x5 x6 x7 x8 s0 = some (r, I')) (hW : zS (zOwn B K (B + n)) D B n K I R s.heap H locs) (hl : lv_has ls 11 [(0, .ref (B + a0)), (1, .int x1), (2, .int x2), (3, .int x3), (4, .int x4), (5, .int x5), (6, .int x6), (7, .int x7), (8, .int x8)]) : W p l e ({ frames := 4, cells := 0, slots := 0, locals := 111 } : Room) s m args below meth c H locs 0 0 (MQ below (zQi D (zOwn B K (B + n)) r B n K I' R) args s 0 0 (zOwn B K (B + n))) (F0 m 79 ls [.int s0]) := by
  unfold f_X7_builds_79 at hf
  refine lv_istore (lv' := [(9, .int s0), (0, .ref (B + a0)), (1, .int x1), (2, .int x2), (3, .int x3), (4, .int x4), (5, .int x5), (6, .int x6), (7, .int x7), (8, .int x8)]) X.1 X.2.1 dX7_builds_79 hl (by decide) rfl (fun ls hk => ?_)
  replace hl := hk
  refine lv_iload X.1 X.2.1 dX7_builds_81 (lv_at hl 5 rfl) ?_
  refine lv_iload X.1 X.2.1 dX7_builds_83 (lv_at hl 0 rfl) ?_
  refine lv_iadd X.1 X.2.1 dX7_builds_85 ?_
  refine lv_bipush (v := 32) X.1 X.2.1 dX7_builds_86 (by decide) ?_
  refine lv_icmp_gt (tgt := 108) X.1 X.2.1 dX7_builds_88 (by decide) (fun c58 => ?_) (fun c58 => ?_)
  · replace hf := zif_pos c58 hf
    refine lv_iconst (v := 0) X.1 X.2.1 dX7_builds_108 (by decide) ?_
    obtain ⟨rfl, rfl⟩ := zi2 hf
    exact ze_retZ X hr hlk (by decide) hW (Nat.le_refl _) (Nat.le_refl _) dX7_builds_109
  · replace hf := zif_neg c58 hf
    refine lv_iload X.1 X.2.1 dX7_builds_91 (lv_at hl 9 rfl) ?_
    refine lv_if_ne (tgt := 110) X.1 X.2.1 dX7_builds_93 (by decide) (fun c59 => ?_) (fun c59 => ?_)
    · replace hf := zif_neg c59 hf
      exact w_X7_builds_110 X hr hlk hK0 hk15 hf hW (lv_sub hl [1, 2, 3, 4, 5, 6, 7, 8, 9, 0] rfl)
    · replace hf := zif_pos c59 hf
      refine lv_aload_n X.1 X.2.1 dX7_builds_96 rfl (lv_at hl 1 rfl) ?_
      refine lv_iload_n X.1 X.2.1 dX7_builds_97 rfl (lv_at hl 2 rfl) ?_
      refine lv_iload X.1 X.2.1 dX7_builds_98 (lv_at hl 6 rfl) ?_
      obtain ⟨v60, h61, hg⟩ := zh_bd hf
      replace hf := hg
      refine ze_aftI0 (ze_runV (As := [.int x1, .int x5]) (rest := []) X 7 293 (c_X7_widthOf l D B n hK0 h61) vX7_widthOf kml_X7_293 hW hK0 rfl rfl ⟨by decide, by decide⟩ rfl hl.1 rfl (Nat.le_of_ble_eq_true rfl) ⟨Nat.le_refl _, Nat.le_refl _⟩ dX7_builds_100) hW (fun H locs hV => ?_)
      replace hW := hV
      refine lv_bipush (v := 8) X.1 X.2.1 dX7_builds_103 (by decide) ?_
      refine lv_icmp_le (tgt := 110) X.1 X.2.1 dX7_builds_105 (by decide) (fun c62 => ?_) (fun c62 => ?_)
      · replace hf := zif_pos c62 hf
        exact w_X7_builds_110 X hr hlk hK0 hk15 hf hW (lv_sub hl [1, 2, 3, 4, 5, 6, 7, 8, 9, 0] rfl)
      · replace hf := zif_neg c62 hf
        refine lv_iconst (v := 0) X.1 X.2.1 dX7_builds_108 (by decide) ?_
        obtain ⟨rfl, rfl⟩ := zi2 hf
        exact ze_retZ X hr hlk (by decide) hW (Nat.le_refl _) (Nat.le_refl _) dX7_builds_109
set_option maxRecDepth 100000 in
set_option maxHeartbeats 4000000 in
theorem w_X7_builds_61 {F : Nat} {a0 : Nat} {k15 : zI → Int32 → Int32 → Int32 → Int32 → Int32 → Option (Int32 × zI)} (X : zX p s m c cX7_builds 11 RX7 D) (hr : meth.sig.returnType = some .boolean) (hlk : meth.locks = false) (hK0 : (K a0).1 = 17) (hk15 : ∀ (I : zI) (x1 : Int32) (x2 : Int32) (x3 : Int32) (x4 : Int32) (x5 : Int32) (H : Heap) (locs : List Loc) (ls : Array Slot), k15 I x1 x2 x3 x4 x5 = some (r, I') → zS (zOwn B K (B + n)) D B n K I R s.heap H locs → lv_has ls 11 [(0, .ref (B + a0)), (1, .int x1), (2, .int x2), (3, .int x3), (4, .int x4), (5, .int x5)] → W p l e ({ frames := 4, cells := 0, slots := 0, locals := 111 } : Room) s m args below meth c H locs 0 0 (MQ below (zQi D (zOwn B K (B + n)) r B n K I' R) args s 0 0 (zOwn B K (B + n))) (F0 m 15 ls [])) {x1 : Int32} {x2 : Int32} {x3 : Int32} {x4 : Int32} {x5 : Int32} {x6 : Int32} {x7 : Int32} {s0 : Int32} (hf : f_X7_builds_61 F K R a0 k15 I x1 x2 x3 x4 x5 x6 x7 s0 = some (r, I')) (hW : zS (zOwn B K (B + n)) D B n K I R s.heap H locs) (hl : lv_has ls 11 [(0, .ref (B + a0)), (1, .int x1), (2, .int x2), (3, .int x3), (4, .int x4), (5, .int x5), (6, .int x6), (7, .int x7)]) : W p l e ({ frames := 4, cells := 0, slots := 0, locals := 111 } : Room) s m args below meth c H locs 0 0 (MQ below (zQi D (zOwn B K (B + n)) r B n K I' R) args s 0 0 (zOwn B K (B + n))) (F0 m 61 ls [.int s0]) := by
  unfold f_X7_builds_61 at hf
  refine lv_istore (lv' := [(8, .int s0), (0, .ref (B + a0)), (1, .int x1), (2, .int x2), (3, .int x3), (4, .int x4), (5, .int x5), (6, .int x6), (7, .int x7)]) X.1 X.2.1 dX7_builds_61 hl (by decide) rfl (fun ls hk => ?_)
  replace hl := hk
  refine lv_iload X.1 X.2.1 dX7_builds_63 (lv_at hl 0 rfl) ?_
  refine lv_if_eq (tgt := 78) X.1 X.2.1 dX7_builds_65 (by decide) (fun c63 => ?_) (fun c63 => ?_)
  · replace hf := zif_pos c63 hf
    refine lv_iconst (v := 1) X.1 X.2.1 dX7_builds_78 (by decide) ?_
    exact w_X7_builds_79 X hr hlk hK0 hk15 hf hW (lv_sub hl [1, 2, 3, 4, 5, 6, 7, 8, 0] rfl)
  · replace hf := zif_neg c63 hf
    refine lv_aload_n X.1 X.2.1 dX7_builds_68 rfl (lv_at hl 1 rfl) ?_
    refine ze_gtR X 7 31 84 (RX7, TX7, 39) rfl hf hW hK0 rfl (by decide) kfl_X7_84 dX7_builds_69 (fun o64 hg => ?_)
    replace hf := hg
    refine lv_iload X.1 X.2.1 dX7_builds_72 (lv_at hl 8 rfl) ?_
    obtain ⟨a65, rfl, k67, hg⟩ := zh_dr hf
    replace hf := hg
    refine ze_iald X hf hW k67 dX7_builds_74 (fun v68 hg => ?_)
    replace hf := hg
    refine lv_goto (tgt := 79) X.1 X.2.1 dX7_builds_75 (by decide) ?_
    exact w_X7_builds_79 X hr hlk hK0 hk15 hf hW (lv_sub hl [1, 2, 3, 4, 5, 6, 7, 8, 0] rfl)
set_option maxRecDepth 100000 in
set_option maxHeartbeats 4000000 in
theorem w_X7_builds_56 {F : Nat} {a0 : Nat} {k15 : zI → Int32 → Int32 → Int32 → Int32 → Int32 → Option (Int32 × zI)} (X : zX p s m c cX7_builds 11 RX7 D) (hr : meth.sig.returnType = some .boolean) (hlk : meth.locks = false) (hK0 : (K a0).1 = 17) (hk15 : ∀ (I : zI) (x1 : Int32) (x2 : Int32) (x3 : Int32) (x4 : Int32) (x5 : Int32) (H : Heap) (locs : List Loc) (ls : Array Slot), k15 I x1 x2 x3 x4 x5 = some (r, I') → zS (zOwn B K (B + n)) D B n K I R s.heap H locs → lv_has ls 11 [(0, .ref (B + a0)), (1, .int x1), (2, .int x2), (3, .int x3), (4, .int x4), (5, .int x5)] → W p l e ({ frames := 4, cells := 0, slots := 0, locals := 111 } : Room) s m args below meth c H locs 0 0 (MQ below (zQi D (zOwn B K (B + n)) r B n K I' R) args s 0 0 (zOwn B K (B + n))) (F0 m 15 ls [])) {x1 : Int32} {x2 : Int32} {x3 : Int32} {x4 : Int32} {x5 : Int32} {x6 : Int32} {x7 : Int32} (hf : f_X7_builds_56 F K R a0 k15 I x1 x2 x3 x4 x5 x6 x7 = some (r, I')) (hW : zS (zOwn B K (B + n)) D B n K I R s.heap H locs) (hl : lv_has ls 11 [(0, .ref (B + a0)), (1, .int x1), (2, .int x2), (3, .int x3), (4, .int x4), (5, .int x5), (6, .int x6), (7, .int x7)]) : W p l e ({ frames := 4, cells := 0, slots := 0, locals := 111 } : Room) s m args below meth c H locs 0 0 (MQ below (zQi D (zOwn B K (B + n)) r B n K I' R) args s 0 0 (zOwn B K (B + n))) (F0 m 56 ls []) := by
  unfold f_X7_builds_56 at hf
  refine lv_iconst (v := 1) X.1 X.2.1 dX7_builds_56 (by decide) ?_
  refine lv_goto (tgt := 61) X.1 X.2.1 dX7_builds_57 (by decide) ?_
  exact w_X7_builds_61 X hr hlk hK0 hk15 hf hW hl
set_option maxRecDepth 100000 in
set_option maxHeartbeats 4000000 in
theorem wg_X7_builds_15 {F : Nat} {a0 : Nat}  (X : zX p s m c cX7_builds 11 RX7 D) (hr : meth.sig.returnType = some .boolean) (hlk : meth.locks = false) (hK0 : (K a0).1 = 17)  {kself : zI → Int32 → Int32 → Int32 → Int32 → Int32 → Option (Int32 × zI)} (hkself : ∀ (I : zI) (x1 : Int32) (x2 : Int32) (x3 : Int32) (x4 : Int32) (x5 : Int32) (H : Heap) (locs : List Loc) (ls : Array Slot), kself I x1 x2 x3 x4 x5 = some (r, I') → zS (zOwn B K (B + n)) D B n K I R s.heap H locs → lv_has ls 11 [(0, .ref (B + a0)), (1, .int x1), (2, .int x2), (3, .int x3), (4, .int x4), (5, .int x5)] → W p l e ({ frames := 4, cells := 0, slots := 0, locals := 111 } : Room) s m args below meth c H locs 0 0 (MQ below (zQi D (zOwn B K (B + n)) r B n K I' R) args s 0 0 (zOwn B K (B + n))) (F0 m 15 ls [])) {x1 : Int32} {x2 : Int32} {x3 : Int32} {x4 : Int32} {x5 : Int32} (hf : g_X7_builds_15 F K R a0  kself I x1 x2 x3 x4 x5 = some (r, I')) (hW : zS (zOwn B K (B + n)) D B n K I R s.heap H locs) (hl : lv_has ls 11 [(0, .ref (B + a0)), (1, .int x1), (2, .int x2), (3, .int x3), (4, .int x4), (5, .int x5)]) : W p l e ({ frames := 4, cells := 0, slots := 0, locals := 111 } : Room) s m args below meth c H locs 0 0 (MQ below (zQi D (zOwn B K (B + n)) r B n K I' R) args s 0 0 (zOwn B K (B + n))) (F0 m 15 ls []) := by
  unfold g_X7_builds_15 at hf
  refine lv_iload X.1 X.2.1 dX7_builds_15 (lv_at hl 5 rfl) ?_
  refine lv_aload_n X.1 X.2.1 dX7_builds_17 rfl (lv_at hl 0 rfl) ?_
  refine ze_gtR X 7 0 7 (RX7, TX7, 39) rfl hf hW hK0 rfl (by decide) kfl_X7_7 dX7_builds_18 (fun o69 hg => ?_)
  replace hf := hg
  refine lv_iload_n X.1 X.2.1 dX7_builds_21 rfl (lv_at hl 1 rfl) ?_
  obtain ⟨a70, rfl, k72, hg⟩ := zh_dr hf
  replace hf := hg
  refine ze_iald X hf hW k72 dX7_builds_22 (fun v73 hg => ?_)
  replace hf := hg
  refine lv_icmp_ge (tgt := 252) X.1 X.2.1 dX7_builds_23 (by decide) (fun c74 => ?_) (fun c74 => ?_)
  · replace hf := zif_pos c74 hf
    refine lv_aload_n X.1 X.2.1 dX7_builds_252 rfl (lv_at hl 0 rfl) ?_
    refine ze_gtR X 7 0 7 (RX7, TX7, 39) rfl hf hW hK0 rfl (by decide) kfl_X7_7 dX7_builds_253 (fun o75 hg => ?_)
    replace hf := hg
    refine lv_iload_n X.1 X.2.1 dX7_builds_256 rfl (lv_at hl 3 rfl) ?_
    refine lv_iload X.1 X.2.1 dX7_builds_257 (lv_at hl 4 rfl) ?_
    obtain ⟨a76, rfl, k78, hg⟩ := zh_dr hf
    replace hf := hg
    refine ze_iast X hf hW k78 dX7_builds_259 (fun I79 H locs hg hV => ?_)
    replace hf := hg
    replace hW := hV
    refine lv_aload_n X.1 X.2.1 dX7_builds_260 rfl (lv_at hl 0 rfl) ?_
    refine lv_iload_n X.1 X.2.1 dX7_builds_261 rfl (lv_at hl 3 rfl) ?_
    obtain ⟨I80, h81, hg⟩ := zh_bd hf
    replace hf := hg
    refine ze_aftV0 (ze_runV (As := [.int x3]) (rest := []) X 7 155 (c_X7_levels l D B n hK0 h81) vX7_levels kml_X7_155 hW hK0 rfl rfl ⟨by decide, by decide⟩ rfl hl.1 rfl (Nat.le_of_ble_eq_true rfl) ⟨Nat.le_refl _, Nat.le_refl _⟩ dX7_builds_262) hW (fun H locs hV => ?_)
    replace hW := hV
    refine lv_iconst (v := 1) X.1 X.2.1 dX7_builds_265 (by decide) ?_
    refine lv_istore (lv' := [(5, .int (1 : Int32)), (0, .ref (B + a0)), (1, .int x1), (2, .int x2), (3, .int x3), (4, .int x4)]) X.1 X.2.1 dX7_builds_266 hl (by decide) rfl (fun ls hk => ?_)
    replace hl := hk
    refine lv_iconst (v := 0) X.1 X.2.1 dX7_builds_268 (by decide) ?_
    refine lv_istore (lv' := [(6, .int (0 : Int32)), (5, .int (1 : Int32)), (0, .ref (B + a0)), (1, .int x1), (2, .int x2), (3, .int x3), (4, .int x4)]) X.1 X.2.1 dX7_builds_269 hl (by decide) rfl (fun ls hk => ?_)
    replace hl := hk
    exact w_X7_builds_271 X hr hlk hK0 hf hW (lv_sub hl [2, 6, 1, 0] rfl)
  · replace hf := zif_neg c74 hf
    refine lv_aload_n X.1 X.2.1 dX7_builds_26 rfl (lv_at hl 0 rfl) ?_
    refine lv_iload_n X.1 X.2.1 dX7_builds_27 rfl (lv_at hl 1 rfl) ?_
    refine lv_iload X.1 X.2.1 dX7_builds_28 (lv_at hl 5 rfl) ?_
    obtain ⟨v82, h83, hg⟩ := zh_bd hf
    replace hf := hg
    refine ze_aftI0 (ze_runV (As := [.int x1, .int x5]) (rest := []) X 7 119 (c_X7_sort l D B n hK0 h83) vX7_sort kml_X7_119 hW hK0 rfl rfl ⟨by decide, by decide⟩ rfl hl.1 rfl (Nat.le_of_ble_eq_true rfl) ⟨Nat.le_refl _, Nat.le_refl _⟩ dX7_builds_30) hW (fun H locs hV => ?_)
    replace hW := hV
    refine lv_istore (lv' := [(6, .int v82), (0, .ref (B + a0)), (1, .int x1), (2, .int x2), (3, .int x3), (4, .int x4), (5, .int x5)]) X.1 X.2.1 dX7_builds_33 hl (by decide) rfl (fun ls hk => ?_)
    replace hl := hk
    refine lv_aload_n X.1 X.2.1 dX7_builds_35 rfl (lv_at hl 1 rfl) ?_
    refine lv_iload_n X.1 X.2.1 dX7_builds_36 rfl (lv_at hl 2 rfl) ?_
    refine lv_iload X.1 X.2.1 dX7_builds_37 (lv_at hl 6 rfl) ?_
    obtain ⟨v84, h85, hg⟩ := zh_bd hf
    replace hf := hg
    refine ze_aftI0 (ze_runV (As := [.int x1, .int x5]) (rest := []) X 7 159 (c_X7_number l D B n hK0 h85) vX7_number kml_X7_159 hW hK0 rfl rfl ⟨by decide, by decide⟩ rfl hl.1 rfl (Nat.le_of_ble_eq_true rfl) ⟨Nat.le_refl _, Nat.le_refl _⟩ dX7_builds_39) hW (fun H locs hV => ?_)
    replace hW := hV
    refine lv_istore (lv' := [(7, .int v84), (6, .int v82), (0, .ref (B + a0)), (1, .int x1), (2, .int x2), (3, .int x3), (4, .int x4), (5, .int x5)]) X.1 X.2.1 dX7_builds_42 hl (by decide) rfl (fun ls hk => ?_)
    replace hl := hk
    refine lv_iload X.1 X.2.1 dX7_builds_44 (lv_at hl 1 rfl) ?_
    refine lv_iconst (v := 1) X.1 X.2.1 dX7_builds_46 (by decide) ?_
    refine lv_icmp_eq (tgt := 56) X.1 X.2.1 dX7_builds_47 (by decide) (fun c86 => ?_) (fun c86 => ?_)
    · replace hf := zif_pos c86 hf
      exact w_X7_builds_56 X hr hlk hK0 hkself hf hW (lv_sub hl [2, 3, 4, 5, 6, 7, 1, 0] rfl)
    · replace hf := zif_neg c86 hf
      refine lv_iload X.1 X.2.1 dX7_builds_50 (lv_at hl 1 rfl) ?_
      refine lv_iconst (v := 3) X.1 X.2.1 dX7_builds_52 (by decide) ?_
      refine lv_icmp_ne (tgt := 60) X.1 X.2.1 dX7_builds_53 (by decide) (fun c87 => ?_) (fun c87 => ?_)
      · replace hf := zif_neg c87 hf
        refine lv_iconst (v := 0) X.1 X.2.1 dX7_builds_60 (by decide) ?_
        exact w_X7_builds_61 X hr hlk hK0 hkself hf hW (lv_sub hl [2, 3, 4, 5, 6, 7, 1, 0] rfl)
      · replace hf := zif_pos c87 hf
        exact w_X7_builds_56 X hr hlk hK0 hkself hf hW (lv_sub hl [2, 3, 4, 5, 6, 7, 1, 0] rfl)
set_option maxRecDepth 100000 in
set_option maxHeartbeats 4000000 in
theorem w_X7_builds_15 {F : Nat} {a0 : Nat}  (X : zX p s m c cX7_builds 11 RX7 D) (hr : meth.sig.returnType = some .boolean) (hlk : meth.locks = false) (hK0 : (K a0).1 = 17)  {t : Nat} {x1 : Int32} {x2 : Int32} {x3 : Int32} {x4 : Int32} {x5 : Int32} (hf : f_X7_builds_15 F K R a0  t I x1 x2 x3 x4 x5 = some (r, I')) (hW : zS (zOwn B K (B + n)) D B n K I R s.heap H locs) (hl : lv_has ls 11 [(0, .ref (B + a0)), (1, .int x1), (2, .int x2), (3, .int x3), (4, .int x4), (5, .int x5)]) : W p l e ({ frames := 4, cells := 0, slots := 0, locals := 111 } : Room) s m args below meth c H locs 0 0 (MQ below (zQi D (zOwn B K (B + n)) r B n K I' R) args s 0 0 (zOwn B K (B + n))) (F0 m 15 ls []) := by
  have key : ∀ t : Nat, ∀ (I : zI) (x1 : Int32) (x2 : Int32) (x3 : Int32) (x4 : Int32) (x5 : Int32) (H : Heap) (locs : List Loc) (ls : Array Slot), f_X7_builds_15 F K R a0  t I x1 x2 x3 x4 x5 = some (r, I') → zS (zOwn B K (B + n)) D B n K I R s.heap H locs → lv_has ls 11 [(0, .ref (B + a0)), (1, .int x1), (2, .int x2), (3, .int x3), (4, .int x4), (5, .int x5)] → W p l e ({ frames := 4, cells := 0, slots := 0, locals := 111 } : Room) s m args below meth c H locs 0 0 (MQ below (zQi D (zOwn B K (B + n)) r B n K I' R) args s 0 0 (zOwn B K (B + n))) (F0 m 15 ls []) := by
    intro t
    induction t with
    | zero =>
      intro I x1 x2 x3 x4 x5 H locs ls hf hW hl
      cases hf
    | succ t ih =>
      intro I x1 x2 x3 x4 x5 H locs ls hf hW hl
      exact wg_X7_builds_15 X hr hlk hK0  ih hf hW hl
  exact key t _ _ _ _ _ _ _ _ _ hf hW hl
set_option maxRecDepth 100000 in
set_option maxHeartbeats 4000000 in
theorem c_X7_builds (l : Launch) (D : zD) (B n : Nat) {F : Nat} {K : zK} {I : zI} {R : zR} {a0 : Nat} {x1 : Int32} {x2 : Int32} {x3 : Int32} {r : Int32} {I' : zI} (hK0 : (K a0).1 = 17) (hf : f_X7_builds F K I R a0 x1 x2 x3 = some (r, I')) : zM l yX7_builds cX7_builds 11 (some .boolean) ({ frames := 4, cells := 0, slots := 0, locals := 111 } : Room) D B n K I R [.ref (B + a0), .int x1, .int x2, .int x3] (zQi D (zOwn B K (B + n)) r B n K I' R) := by
  refine ze_entry (lv0 := [(0, .ref (B + a0)), (1, .int x1), (2, .int x2), (3, .int x3)]) (by decide) (by simp [lg_sl, zcat, zcat_i, zcat_r, zcat_l]) (by simp [lv_args, zcat, zcat_i, zcat_r, zcat_l]) (fun p e s m below meth c X hr hlk hin hW ls hl => ?_)
  unfold f_X7_builds at hf
  refine lv_aload_n X.1 X.2.1 dX7_builds_0 rfl (lv_at hl 0 rfl) ?_
  refine lv_iload_n X.1 X.2.1 dX7_builds_1 rfl (lv_at hl 1 rfl) ?_
  refine lv_aload_n X.1 X.2.1 dX7_builds_2 rfl (lv_at hl 0 rfl) ?_
  refine ze_gtR X 7 5 20 (RX7, TX7, 39) rfl hf hW hK0 rfl (by decide) kfl_X7_20 dX7_builds_3 (fun o88 hg => ?_)
  replace hf := hg
  obtain ⟨I89, h90, hg⟩ := zh_bd hf
  replace hf := hg
  refine ze_aftV0 (ze_runV (As := [.int x1, zrf B o88]) (rest := []) X 7 115 (c_X7_counts l D B n hK0 h90) vX7_counts kml_X7_115 hW hK0 rfl rfl ⟨by decide, by decide⟩ rfl hl.1 rfl (Nat.le_of_ble_eq_true rfl) ⟨Nat.le_refl _, Nat.le_refl _⟩ dX7_builds_6) hW (fun H locs hV => ?_)
  replace hW := hV
  refine lv_iconst (v := 0) X.1 X.2.1 dX7_builds_9 (by decide) ?_
  refine lv_istore (lv' := [(4, .int (0 : Int32)), (0, .ref (B + a0)), (1, .int x1), (2, .int x2), (3, .int x3)]) X.1 X.2.1 dX7_builds_10 hl (by decide) rfl (fun ls hk => ?_)
  replace hl := hk
  refine lv_iconst (v := 0) X.1 X.2.1 dX7_builds_12 (by decide) ?_
  refine lv_istore (lv' := [(5, .int (0 : Int32)), (4, .int (0 : Int32)), (0, .ref (B + a0)), (1, .int x1), (2, .int x2), (3, .int x3)]) X.1 X.2.1 dX7_builds_13 hl (by decide) rfl (fun ls hk => ?_)
  replace hl := hk
  exact w_X7_builds_15 X hr hlk hK0 hf hW (lv_sub hl [2, 3, 4, 5, 1, 0] rfl)
end
