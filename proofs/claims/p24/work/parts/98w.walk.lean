/-! THE LAW'S WALK -/
set_option maxRecDepth 100000 in
set_option maxHeartbeats 8000000 in
/-- behind the draws -/
theorem law_100 {p : Program} {l : Launch} {e : Env} {s : State} {m : MethodId} {below : List Frame} {meth : Method} {c : Code} {D : zD} {b L F : Nat} {xs : Nat → Int32} (hF : 5000 ≤ F) (hL : L ≤ 260) (C0 : lw_At p s m meth c b L xs) (X : zX p s m c cL_law 6 RL D) (B : Nat) (hB : B = s.heap.size) {K : zK} {I : zI} {R : zR} {n : Nat} {T U V : aFo} {cells slots : Nat} {H : Heap} {locs : List Loc} {ls : Array Slot} (hI : dIn K I R n) (hT : lRow I 89 T) (hU : lRow I 90 U) (hV : lRow I 91 V) (hW : zS (fun q : Nat => s.heap.size ≤ q) D B n K I R s.heap H locs) (hc1 : cells ≤ 1000) (hc2 : slots ≤ 10000) (hl : lv_has ls 6 [(0, .ref b), (1, .ref (B + 0)), (2, .ref (B + 89)), (3, .ref (B + 90)), (4, .ref (B + 91))]) : W p l e room_1 s m #[Value.ref b] below meth c H locs cells slots (lw_Z below #[Value.ref b] s) (F0 m 100 ls []) := by
  obtain ⟨hx, hb, hr, hml, hown, hts, hX, hbl, hlocks, hgv⟩ := C0
  have hS0 := birth_cS hI
  obtain ⟨hn, -, hK2, -⟩ := hI
  obtain ⟨t1, t2, t3, t4, t5, t6⟩ := hT
  obtain ⟨u1, u2, u3, u4, u5, u6⟩ := hU
  obtain ⟨v1, v2, v3, v4, v5, v6⟩ := hV
  obtain ⟨-, pT⟩ := dN_gGd t1 t2 t3 t4
  obtain ⟨-, pU⟩ := dN_gGd u1 u2 u3 u4
  refine lv_aload_n X.1 X.2.1 dL_law_100 rfl (lv_at hl 0 rfl) ?_
  refine lv_iconst (v := 5) X.1 X.2.1 dL_law_101 (by decide) ?_
  refine zl_cell X 5 (by decide) hL hX hbl hW hl.1 (Nat.le_of_ble_eq_true rfl) dL_law_102 ⟨Nat.le_of_ble_eq_true rfl, Nat.le_of_ble_eq_true rfl⟩ ⟨by show _ ≤ (600000 : Nat); omega, by show _ ≤ (7302250 : Nat); omega⟩ (fun locs hW2 => ?_)
  replace hW := hW2
  refine lv_iconst (v := 3) X.1 X.2.1 dL_law_105 (by decide) ?_
  refine lv_ishr X.1 X.2.1 dL_law_106 ?_
  refine lv_iconst (v := 1) X.1 X.2.1 dL_law_107 (by decide) ?_
  refine lv_iand X.1 X.2.1 dL_law_108 ?_
  obtain ⟨v, hv, ev⟩ := and1 (lcell L xs 5 >>> ((3 : Int32) &&& 31))
  rw [ev]
  refine lv_istore (lv' := [(5, .int (nI v)), (0, .ref b), (1, .ref (B + 0)), (2, .ref (B + 89)), (3, .ref (B + 90)), (4, .ref (B + 91))]) X.1 X.2.1 dL_law_109 hl (by decide) rfl (fun ls hl => ?_)
  -- puts 0
  refine lv_aload_n X.1 X.2.1 dL_law_111 rfl (lv_at hl 2 rfl) ?_
  refine lv_iconst (v := 0) X.1 X.2.1 dL_law_112 (by decide) ?_
  refine lv_aload_n X.1 X.2.1 dL_law_113 rfl (lv_at hl 3 rfl) ?_
  obtain ⟨n1, K1, I1, R1, e1, s1, k1, i1⟩ := l_puts (r := 0) (a := 89) hF hS0 rfl rfl (by decide) (hK2 89 (by decide) (by decide)) (by decide) (by decide) t1 t2 t3 t4 t5 t6
  refine ze_aftI (ze_runS (As := [.ref (B + 0), .int 0, .ref (B + 89)]) (rest := []) X 92 (c_L_puts l D B n (x1 := 0) e1) vL_puts kml_L_92 hW ⟨Nat.le_of_ble_eq_true rfl, Nat.le_of_ble_eq_true rfl⟩ rfl hl.1 rfl (Nat.le_of_ble_eq_true rfl) ⟨by show _ + 9 ≤ (600000 : Nat); omega, by show _ + 208 ≤ (7302250 : Nat); omega⟩ dL_law_114) hW (fun H locs hW2 => ?_)
  replace hW := hW2
  refine lv_if_eq (tgt := 149) X.1 X.2.1 dL_law_117 (by decide) (fun h => absurd h (by decide)) (fun _ => ?_)
  have hn1 : 92 ≤ n1 := by obtain ⟨J, RM, x, -⟩ := s1; exact x.1.1
  -- puts 1
  refine lv_aload_n X.1 X.2.1 dL_law_120 rfl (lv_at hl 2 rfl) ?_
  refine lv_iconst (v := 1) X.1 X.2.1 dL_law_121 (by decide) ?_
  refine lv_aload_n X.1 X.2.1 dL_law_122 rfl (lv_at hl 4 rfl) ?_
  obtain ⟨n2, K2, I2, R2, e2, s2, k2, i2⟩ := l_puts (r := 1) (a := 90) hF s1 rfl rfl (by decide) (by rw [k1 90 (by omega)]; exact hK2 90 (by decide) (by decide)) (by decide) (by decide) u1 u2 u3 u4 (by rw [i1 90 (by decide) (by decide)]; exact u5) (by rw [i1 90 (by decide) (by decide)]; exact u6)
  refine ze_aftI (ze_runS (As := [.ref (B + 0), .int 1, .ref (B + 90)]) (rest := []) X 92 (c_L_puts l D B n1 (x1 := 1) e2) vL_puts kml_L_92 hW ⟨Nat.le_of_ble_eq_true rfl, Nat.le_of_ble_eq_true rfl⟩ rfl hl.1 rfl (Nat.le_of_ble_eq_true rfl) ⟨by show _ + 9 ≤ (600000 : Nat); (try dsimp only); omega, by show _ + 208 ≤ (7302250 : Nat); (try dsimp only); omega⟩ dL_law_123) hW (fun H locs hW2 => ?_)
  replace hW := hW2
  refine lv_if_eq (tgt := 149) X.1 X.2.1 dL_law_126 (by decide) (fun h => absurd h (by decide)) (fun _ => ?_)
  have hn2 : 92 ≤ n2 := by obtain ⟨J, RM, x, -⟩ := s2; exact x.1.1
  -- puts 2
  refine lv_aload_n X.1 X.2.1 dL_law_129 rfl (lv_at hl 2 rfl) ?_
  refine lv_iconst (v := 2) X.1 X.2.1 dL_law_130 (by decide) ?_
  refine lv_aload X.1 X.2.1 dL_law_131 (lv_at hl 5 rfl) ?_
  obtain ⟨n3, K3, I3, R3, e3, s3, k3, i3⟩ := l_puts (r := 2) (a := 91) hF s2 rfl rfl (by decide) (by rw [k2 91 (by omega), k1 91 (by omega)]; exact hK2 91 (by decide) (by decide)) (by decide) (by decide) v1 v2 v3 v4 (by rw [i2 91 (by decide) (by decide), i1 91 (by decide) (by decide)]; exact v5) (by rw [i2 91 (by decide) (by decide), i1 91 (by decide) (by decide)]; exact v6)
  refine ze_aftI (ze_runS (As := [.ref (B + 0), .int 2, .ref (B + 91)]) (rest := []) X 92 (c_L_puts l D B n2 (x1 := 2) e3) vL_puts kml_L_92 hW ⟨Nat.le_of_ble_eq_true rfl, Nat.le_of_ble_eq_true rfl⟩ rfl hl.1 rfl (Nat.le_of_ble_eq_true rfl) ⟨by show _ + 9 ≤ (600000 : Nat); (try dsimp only); omega, by show _ + 208 ≤ (7302250 : Nat); (try dsimp only); omega⟩ dL_law_133) hW (fun H locs hW2 => ?_)
  replace hW := hW2
  refine lv_if_eq (tgt := 149) X.1 X.2.1 dL_law_136 (by decide) (fun h => absurd h (by decide)) (fun _ => ?_)
  have hn3 : 92 ≤ n3 := by obtain ⟨J, RM, x, -⟩ := s3; exact x.1.1
  have kt : K3 89 = (1, 63) := by rw [k3 89 (by omega), k2 89 (by omega), k1 89 (by omega)]; exact hK2 89 (by decide) (by decide)
  have it : I3 89 62 = nI (qSz T) := by rw [i3 89 (by decide) (by decide), i2 89 (by decide) (by decide), i1 89 (by decide) (by decide)]; exact t6
  -- set
  refine lv_aload_n X.1 X.2.1 dL_law_139 rfl (lv_at hl 2 rfl) ?_
  refine lv_iconst (v := 0) X.1 X.2.1 dL_law_140 (by decide) ?_
  refine lv_iload X.1 X.2.1 dL_law_141 (lv_at hl 0 rfl) ?_
  -- two worlds
  have hA := zS_C hW
  have hV := zS_R hW kt
  have dj : ∀ b, (kC K3 b).1 = 0 ∨ (kR b).1 = 0 := kCR
  have sC : cS (kC K3) I3 R3 n3 (gUp (gUp (gUp (fun _ => none) 0 (some T)) 1 (some U)) 2 (some V)) (fun _ => 0) [] := cS_kk s3 (fun b hb => by unfold kC; rw [if_neg (by omega)])
  obtain ⟨I4, R4, e4, s4⟩ := c_set (w := 0) (v := v) hF sC (by decide) (by decide) (by rw [if_pos (by decide)]; exact hv)
  have s4 := cS_nil s4
  refine zl_2I (ze_runV (As := [.int 0, .int (nI v)]) (rest := []) X 6 78 (c_X6_set l D B n3 (cS_k sC) e4) vX6_set kml_L_78 hA (cS_k sC) rfl rfl ⟨Nat.le_of_ble_eq_true rfl, Nat.le_of_ble_eq_true rfl⟩ rfl hl.1 rfl (Nat.le_of_ble_eq_true rfl) ⟨by show _ + 0 ≤ (600000 : Nat); (try dsimp only); omega, by show _ + 0 ≤ (7302250 : Nat); (try dsimp only); omega⟩ dL_law_143) hA hV dj (kR_lt hn3) (fun H locs hA2 hV2 dj2 => ?_)
  replace hA := hA2
  replace hV := hV2
  clear dj
  have dj := dj2
  refine lv_if_eq (tgt := 151) X.1 X.2.1 dL_law_146 (by decide) (fun _ => ?_) (fun h => absurd rfl h)
  have hd0 : nI v = 1 ↔ decide (v = 1) = true := by
    rw [decide_eq_true_iff]
    exact nI_eq (b := 1) (by omega) (by decide)
  have hBB : l_B (gUp (gUp (gUp (fun _ => none) 0 (some T)) 1 (some U)) 2 (some V)) T U V := ⟨rfl, rfl, rfl⟩
  -- joins
  refine lv_aload_n X.1 X.2.1 dL_law_151 rfl (lv_at hl 2 rfl) ?_
  refine lv_iload X.1 X.2.1 dL_law_152 (lv_at hl 0 rfl) ?_
  obtain ⟨n5, K5, I5, R5, S5, e5, s5, b5⟩ := l_joins (hd := decide (v = 1)) (x1 := nI v) hF s4 hBB rfl pT rfl hd0 (nI_pos (by omega))
  refine zl_2I (ze_runS (As := [.ref (B + 0), .int (nI v)]) (rest := []) X 96 (c_L_joins l D B n3 e5) vL_joins kml_L_96 hA ⟨Nat.le_of_ble_eq_true rfl, Nat.le_of_ble_eq_true rfl⟩ rfl hl.1 rfl (Nat.le_of_ble_eq_true rfl) ⟨by show _ + 188 ≤ (600000 : Nat); (try dsimp only); omega, by show _ + 4700 ≤ (7302250 : Nat); (try dsimp only); omega⟩ dL_law_154) hA hV dj (kR_lt hn3) (fun H locs hA2 hV2 dj2 => ?_)
  replace hA := hA2
  replace hV := hV2
  clear dj
  have dj := dj2
  have hn5 : 92 ≤ n5 := by obtain ⟨J, RM, x, -⟩ := s5; exact x.1.1
  refine lv_if_eq (tgt := 216) X.1 X.2.1 dL_law_157 (by decide) (fun h => absurd h (by decide)) (fun _ => ?_)
  refine lv_iload X.1 X.2.1 dL_law_160 (lv_at hl 0 rfl) ?_
  refine lv_iconst (v := 1) X.1 X.2.1 dL_law_162 (by decide) ?_
  -- the rest
  have rest : ∀ (cells slots : Nat) (K : zK) (I : zI) (R : zR) (n : Nat) (S : gSt) (H : Heap) (locs : List Loc), cS K I R n S (fun k => if k = 0 then nI v else (0 : Int32)) [] → l_B S T U V → zS (fun q : Nat => s.heap.size ≤ q) D B n K I R s.heap H locs → zS (fun q : Nat => s.heap.size ≤ q) D B n kR I3 R3 s.heap H locs → (∀ b, (K b).1 = 0 ∨ (kR b).1 = 0) → cells ≤ 100000 → slots ≤ 1000000 → W p l e room_1 s m #[Value.ref b] below meth c H locs cells slots (lw_Z below #[Value.ref b] s) (F0 m 173 ls []) := by
    intro cells slots K I R n S H locs hS hSB hA hV dj hc1 hc2
    have hn : 92 ≤ n := by obtain ⟨J, RM, x, -⟩ := hS; exact x.1.1
    refine lv_aload_n X.1 X.2.1 dL_law_173 rfl (lv_at hl 2 rfl) ?_
    obtain ⟨n6, K6, I6, R6, S6, e6, s6, b6⟩ := l_rules (hd := decide (v = 1)) hF hS hSB pT pU rfl hd0
    refine zl_2I (ze_runS (As := [.ref (B + 0)]) (rest := []) X 104 (c_L_rules l D B n e6) vL_rules kml_L_104 hA ⟨Nat.le_of_ble_eq_true rfl, Nat.le_of_ble_eq_true rfl⟩ rfl hl.1 rfl (Nat.le_of_ble_eq_true rfl) ⟨by show _ + 16 ≤ (600000 : Nat); omega, by show _ + 400 ≤ (7302250 : Nat); omega⟩ dL_law_174) hA hV dj (kR_lt hn) (fun H locs hA2 hV2 dj2 => ?_)
    have hn6 : 92 ≤ n6 := by obtain ⟨J, RM, x, -⟩ := s6; exact x.1.1
    refine lv_if_eq (tgt := 216) X.1 X.2.1 dL_law_177 (by decide) (fun h => absurd h (by decide)) (fun _ => ?_)
    refine lv_aload_n X.1 X.2.1 dL_law_180 rfl (lv_at hl 2 rfl) ?_
    obtain ⟨I7, R7, e7, s7⟩ := l_undoes hF s6 b6
    refine zl_2I (ze_runS (As := [.ref (B + 0)]) (rest := []) X 107 (c_L_undoes l D B n6 e7) vL_undoes kml_L_107 hA2 ⟨Nat.le_of_ble_eq_true rfl, Nat.le_of_ble_eq_true rfl⟩ rfl hl.1 rfl (Nat.le_of_ble_eq_true rfl) ⟨by show _ + 0 ≤ (600000 : Nat); (try dsimp only); omega, by show _ + 0 ≤ (7302250 : Nat); (try dsimp only); omega⟩ dL_law_181) hA2 hV2 dj2 (kR_lt hn6) (fun H locs hA3 hV3 dj3 => ?_)
    refine lv_if_eq (tgt := 216) X.1 X.2.1 dL_law_184 (by decide) (fun h => absurd h (by decide)) (fun _ => ?_)
    refine lv_aload_n X.1 X.2.1 dL_law_187 rfl (lv_at hl 2 rfl) ?_
    refine lv_bipush (v := 8) X.1 X.2.1 dL_law_188 (by decide) ?_
    obtain ⟨n8, K8, I8, R8, e8, s8⟩ := c_put8 hF s7
    refine zl_2I (ze_runV (As := [.int 8]) (rest := []) X 6 25 (c_X6_put l D B n6 e8) vX6_put kml_L_25 hA3 (cS_k s7) rfl rfl ⟨Nat.le_of_ble_eq_true rfl, Nat.le_of_ble_eq_true rfl⟩ rfl hl.1 rfl (Nat.le_of_ble_eq_true rfl) ⟨by show _ + 8 ≤ (600000 : Nat); (try dsimp only); omega, by show _ + 200 ≤ (7302250 : Nat); (try dsimp only); omega⟩ dL_law_190) hA3 hV3 dj3 (kR_lt hn6) (fun H locs hA4 hV4 dj4 => ?_)
    have hn8 : 92 ≤ n8 := by obtain ⟨J, RM, x, -⟩ := s8; exact x.1.1
    refine lv_iconst (v := -1) X.1 X.2.1 dL_law_193 (by decide) ?_
    refine lv_icmp_ne (tgt := 216) X.1 X.2.1 dL_law_194 (by decide) (fun h => absurd rfl h) (fun _ => ?_)
    refine lv_aload_n X.1 X.2.1 dL_law_197 rfl (lv_at hl 2 rfl) ?_
    refine lv_iconst (v := 0) X.1 X.2.1 dL_law_198 (by decide) ?_
    refine lv_aload_n X.1 X.2.1 dL_law_199 rfl (lv_at hl 3 rfl) ?_
    refine lv_bipush (v := 62) X.1 X.2.1 dL_law_200 (by decide) ?_
    have hrd : zbd (zrd kR I3 89 (62 : Int32)) (fun x => some x) = some (nI (qSz T)) := by
      rw [show (62 : Int32) = nI 62 from rfl, zrd_s (show 62 < (kR 89).2 by decide) (by decide), zbd_s, it]
    refine ze_iald X hrd hV4 rfl dL_law_202 (fun y hy => ?_)
    have hy : some y = some (nI (qSz T)) := hy
    cases hy
    refine lv_iconst (v := 0) X.1 X.2.1 dL_law_203 (by decide) ?_
    have e9 := c_node_n (r := 0) (i := qSz T) hF s8 (by decide) b6.1 (by omega) (Nat.le_refl _)
    refine zl_2I (ze_runV (As := [.int 0, .int (nI (qSz T)), .int 0]) (rest := []) X 6 36 (c_X6_node l D B n8 (cS_k s8) e9) vX6_node kml_L_36 hA4 (cS_k s8) rfl rfl ⟨Nat.le_of_ble_eq_true rfl, Nat.le_of_ble_eq_true rfl⟩ rfl hl.1 rfl (Nat.le_of_ble_eq_true rfl) ⟨by show _ + 0 ≤ (600000 : Nat); (try dsimp only); omega, by show _ + 0 ≤ (7302250 : Nat); (try dsimp only); omega⟩ dL_law_204) hA4 hV4 dj4 (kR_lt hn8) (fun H locs hA5 hV5 dj5 => ?_)
    refine lv_bipush (v := -9) X.1 X.2.1 dL_law_207 (by decide) ?_
    refine lv_icmp_ne (tgt := 216) X.1 X.2.1 dL_law_209 (by decide) (fun h => absurd rfl h) (fun _ => ?_)
    refine lv_iconst (v := 1) X.1 X.2.1 dL_law_212 (by decide) ?_
    refine lv_goto (tgt := 217) X.1 X.2.1 dL_law_213 (by decide) ?_
    refine va_forget (fun q hq => hA5.2.1.2.2 q hq) ?_
    refine W.widen (k := 600000) (n := 7302250) (by (try dsimp only); omega) (by (try dsimp only); omega) ?_
    exact lw_ret X.1 X.2.1 hr hlocks dL_law_217
  refine lv_icmp_eq (tgt := 173) X.1 X.2.1 dL_law_163 (by decide) (fun _ => ?_) (fun hne => ?_)
  · exact rest _ _ _ _ _ _ _ _ _ s5 b5 hA hV dj (by (try dsimp only); omega) (by (try dsimp only); omega)
  · refine lv_aload_n X.1 X.2.1 dL_law_166 rfl (lv_at hl 2 rfl) ?_
    obtain ⟨n6, K6, I6, R6, S6, e6, s6, b6⟩ := l_all hF s5 b5 rfl hne
    refine zl_2I (ze_runS (As := [.ref (B + 0)]) (rest := []) X 100 (c_L_all l D B n5 e6) vL_all kml_L_100 hA ⟨Nat.le_of_ble_eq_true rfl, Nat.le_of_ble_eq_true rfl⟩ rfl hl.1 rfl (Nat.le_of_ble_eq_true rfl) ⟨by show _ + 44 ≤ (600000 : Nat); (try dsimp only); omega, by show _ + 1100 ≤ (7302250 : Nat); (try dsimp only); omega⟩ dL_law_167) hA hV dj (kR_lt hn5) (fun H locs hA2 hV2 dj2 => ?_)
    refine lv_if_eq (tgt := 216) X.1 X.2.1 dL_law_170 (by decide) (fun h => absurd h (by decide)) (fun _ => ?_)
    exact rest _ _ _ _ _ _ _ _ _ s6 b6 hA2 hV2 dj2 (by (try dsimp only); omega) (by (try dsimp only); omega)
set_option maxRecDepth 100000 in
set_option maxHeartbeats 8000000 in
theorem whole_of {p : Program} {e : Env} {s : State} {m : MethodId} {below : List Frame} {meth : Method} {c : Code} (l : Launch) {b L f F : Nat} {xs : Nat → Int32} (hFf : F = f + 10) (hF : 5000 ≤ F) (hL : L ≤ 260) (C0 : lw_At p s m meth c b L xs) : W p l e room_1 s m #[Value.ref b] below meth c s.heap [] 0 0 (lw_Z below #[Value.ref b] s) (entryFrame m ([Value.ref b] : List Value).toArray 6) := by
  obtain ⟨hx, hb, hr, hml, hown, hts, hX, hbl, hlocks, hgv⟩ := id C0
  obtain ⟨D, hKN⟩ := zKN_start hts
  have X : zX p s m c cL_law 6 RL D := ⟨hx, hb, hml, hown, hKN⟩
  obtain ⟨B, hB⟩ : ∃ B, B = s.heap.size := ⟨_, rfl⟩
  obtain ⟨K, I, R, hi1, hK, hK0, hR, hI⟩ := birth6 f
  rw [← hFf] at hi1
  have hl := lv_entry ([.ref b]) (n := 6) (Nat.le_of_ble_eq_true rfl)
  rw [lg_entry_eq]
  generalize (lg_sl ([.ref b]) ++ List.replicate (6 - (lg_sl ([.ref b])).length) Slot.unset).toArray = ls at hl ⊢
  have hl : lv_has ls 6 [(0, .ref b)] := hl
  have hS0 : va_S (fun q : Nat => s.heap.size ≤ q) s.heap s.heap [] := va_S.rf
  have hW : zS (fun q : Nat => s.heap.size ≤ q) D B 0 (fun _ => (0, 0)) (fun _ _ => 0) (fun _ _ => none) s.heap s.heap [] := ⟨⟨fun a => zc_none, by rw [hB]; rfl⟩, hS0, fun a h => absurd rfl h, fun q h => h⟩
  refine ze_nw X 6 10 (RX6, TX6, 11) (G := fun n1 K1 I1 R1 => f_X6_init F n1 K1 I1 R1 0) hi1 rfl kcx_L_10 kci_X6 kit_X6 hW (Nat.le_of_ble_eq_true rfl) (Nat.le_of_ble_eq_true rfl) dL_law_0 (fun n1 K1 I1 R1 H hf hW => ?_)
  have hf : f_X6_init F n1 K1 I1 R1 0 = some (89, K, I, R) := hf
  refine lv_dup X.1 X.2.1 dL_law_3 rfl ?_
  refine ze_aftV (ze_runI (b := 0) (As := []) (rest := [.ref (B + 0)]) X 84 (c_X6_init l D B n1 hf) vX6_init kml_L_84 hW ⟨Nat.le_of_ble_eq_true rfl, Nat.le_of_ble_eq_true rfl⟩ rfl hl.1 rfl (Nat.le_of_ble_eq_true rfl) ⟨Nat.le_of_ble_eq_true rfl, Nat.le_of_ble_eq_true rfl⟩ dL_law_4) hW (fun H locs hW => ?_)
  refine lv_astore_n (i := 1) (lv' := [(1, .ref (B + 0)), (0, .ref b)]) X.1 X.2.1 dL_law_7 rfl hl (by decide) rfl (fun ls hl => ?_)
  refine lv_bipush (v := 63) X.1 X.2.1 dL_law_8 (by decide) ?_
  refine ze_newI (N := 63) X kar_int (by decide) (by decide) (by decide) hW (Nat.le_of_ble_eq_true rfl) (Nat.le_of_ble_eq_true rfl) dL_law_10 (fun H hW => ?_)
  refine lv_astore_n (i := 2) (lv' := [(2, .ref (B + 89)), (1, .ref (B + 0)), (0, .ref b)]) X.1 X.2.1 dL_law_12 rfl hl (by decide) rfl (fun ls hl => ?_)
  refine lv_bipush (v := 63) X.1 X.2.1 dL_law_13 (by decide) ?_
  refine ze_newI (N := 63) X kar_int (by decide) (by decide) (by decide) hW (Nat.le_of_ble_eq_true rfl) (Nat.le_of_ble_eq_true rfl) dL_law_15 (fun H hW => ?_)
  refine lv_astore_n (i := 3) (lv' := [(3, .ref (B + 90)), (2, .ref (B + 89)), (1, .ref (B + 0)), (0, .ref b)]) X.1 X.2.1 dL_law_17 rfl hl (by decide) rfl (fun ls hl => ?_)
  refine lv_bipush (v := 63) X.1 X.2.1 dL_law_18 (by decide) ?_
  refine ze_newI (N := 63) X kar_int (by decide) (by decide) (by decide) hW (Nat.le_of_ble_eq_true rfl) (Nat.le_of_ble_eq_true rfl) dL_law_20 (fun H hW => ?_)
  refine lv_astore (lv' := [(4, .ref (B + 91)), (3, .ref (B + 90)), (2, .ref (B + 89)), (1, .ref (B + 0)), (0, .ref b)]) X.1 X.2.1 dL_law_22 hl (by decide) rfl (fun ls hl => ?_)
  have hl : lv_has ls 6 [(0, .ref b), (1, .ref (B + 0)), (2, .ref (B + 89)), (3, .ref (B + 90)), (4, .ref (B + 91))] := lv_sub hl [4, 3, 2, 1, 0] rfl
  obtain ⟨Ka, hKa⟩ : ∃ Ka : zK, Ka = zset (zset (zset K 89 (1, 63)) 90 (1, 63)) 91 (1, 63) := ⟨_, rfl⟩
  obtain ⟨Ia, hIa⟩ : ∃ Ia : zI, Ia = zclr (zclr (zclr I 89 0) 90 0) 91 0 := ⟨_, rfl⟩
  have hD : dIn Ka Ia R 92 := by
    refine ⟨Nat.le_refl _, fun a ha => ?_, fun a h1 h2 => ?_, fun a ha => ?_, hR, fun a ha k hk => ?_⟩
    · rw [hKa]
      unfold zset
      rw [if_neg (by omega), if_neg (by omega), if_neg (by omega)]
      exact hK a ha
    · have : a = 89 ∨ a = 90 ∨ a = 91 := by omega
      rw [hKa]
      rcases this with rfl | rfl | rfl <;> rfl
    · rw [hKa]
      unfold zset
      rw [if_neg (by omega), if_neg (by omega), if_neg (by omega)]
      exact hK0 a (by omega)
    · rw [hIa]
      unfold zclr
      rw [if_neg (by omega), if_neg (by omega), if_neg (by omega)]
      exact hI a ha k hk
  have hW : zS (fun q : Nat => s.heap.size ≤ q) D B 92 Ka Ia R s.heap H locs := by rw [hKa, hIa]; exact hW
  -- draws t
  refine lv_aload_n X.1 X.2.1 dL_law_24 rfl (lv_at hl 2 rfl) ?_
  refine lv_aload_n X.1 X.2.1 dL_law_25 rfl (lv_at hl 0 rfl) ?_
  refine lv_iconst (v := 0) X.1 X.2.1 dL_law_26 (by decide) ?_
  refine zl_cell X 0 (by decide) hL hX hbl hW hl.1 (Nat.le_of_ble_eq_true rfl) dL_law_27 ⟨Nat.le_of_ble_eq_true rfl, Nat.le_of_ble_eq_true rfl⟩ ⟨Nat.le_of_ble_eq_true rfl, Nat.le_of_ble_eq_true rfl⟩ (fun locs hW => ?_)
  refine lv_aload_n X.1 X.2.1 dL_law_30 rfl (lv_at hl 0 rfl) ?_
  refine lv_iconst (v := 1) X.1 X.2.1 dL_law_31 (by decide) ?_
  refine zl_cell X 1 (by decide) hL hX hbl hW hl.1 (Nat.le_of_ble_eq_true rfl) dL_law_32 ⟨Nat.le_of_ble_eq_true rfl, Nat.le_of_ble_eq_true rfl⟩ ⟨Nat.le_of_ble_eq_true rfl, Nat.le_of_ble_eq_true rfl⟩ (fun locs hW => ?_)
  refine lv_bipush (v := 14) X.1 X.2.1 dL_law_35 (by decide) ?_
  obtain ⟨T, Ib, e1, d1, rT, f1⟩ := d_draw hF hD (a := 89) (by decide) (by decide) (lcell L xs 0) (lcell L xs 1)
  refine ze_aftV (ze_runS (As := [.ref (B + 89), .int (lcell L xs 0), .int (lcell L xs 1), .int 14]) (rest := []) X 88 (c_L_draws l D B 92 e1) vL_draws kml_L_88 hW ⟨Nat.le_of_ble_eq_true rfl, Nat.le_of_ble_eq_true rfl⟩ rfl hl.1 rfl (Nat.le_of_ble_eq_true rfl) ⟨Nat.le_of_ble_eq_true rfl, Nat.le_of_ble_eq_true rfl⟩ dL_law_37) hW (fun H locs hW => ?_)
  -- draws u
  refine lv_aload_n X.1 X.2.1 dL_law_40 rfl (lv_at hl 3 rfl) ?_
  refine lv_aload_n X.1 X.2.1 dL_law_41 rfl (lv_at hl 0 rfl) ?_
  refine lv_iconst (v := 0) X.1 X.2.1 dL_law_42 (by decide) ?_
  refine zl_cell X 0 (by decide) hL hX hbl hW hl.1 (Nat.le_of_ble_eq_true rfl) dL_law_43 ⟨Nat.le_of_ble_eq_true rfl, Nat.le_of_ble_eq_true rfl⟩ ⟨Nat.le_of_ble_eq_true rfl, Nat.le_of_ble_eq_true rfl⟩ (fun locs hW => ?_)
  refine lv_aload_n X.1 X.2.1 dL_law_46 rfl (lv_at hl 0 rfl) ?_
  refine lv_iconst (v := 2) X.1 X.2.1 dL_law_47 (by decide) ?_
  refine zl_cell X 2 (by decide) hL hX hbl hW hl.1 (Nat.le_of_ble_eq_true rfl) dL_law_48 ⟨Nat.le_of_ble_eq_true rfl, Nat.le_of_ble_eq_true rfl⟩ ⟨Nat.le_of_ble_eq_true rfl, Nat.le_of_ble_eq_true rfl⟩ (fun locs hW => ?_)
  refine lv_bipush (v := 14) X.1 X.2.1 dL_law_51 (by decide) ?_
  obtain ⟨U, Ic, e2, d2, rU, f2⟩ := d_draw hF d1 (a := 90) (by decide) (by decide) (lcell L xs 0) (lcell L xs 2)
  refine ze_aftV (ze_runS (As := [.ref (B + 90), .int (lcell L xs 0), .int (lcell L xs 2), .int 14]) (rest := []) X 88 (c_L_draws l D B 93 e2) vL_draws kml_L_88 hW ⟨Nat.le_of_ble_eq_true rfl, Nat.le_of_ble_eq_true rfl⟩ rfl hl.1 rfl (Nat.le_of_ble_eq_true rfl) ⟨Nat.le_of_ble_eq_true rfl, Nat.le_of_ble_eq_true rfl⟩ dL_law_53) hW (fun H locs hW => ?_)
  -- draws v
  refine lv_aload X.1 X.2.1 dL_law_56 (lv_at hl 4 rfl) ?_
  refine lv_aload_n X.1 X.2.1 dL_law_58 rfl (lv_at hl 0 rfl) ?_
  refine lv_iconst (v := 3) X.1 X.2.1 dL_law_59 (by decide) ?_
  refine zl_cell X 3 (by decide) hL hX hbl hW hl.1 (Nat.le_of_ble_eq_true rfl) dL_law_60 ⟨Nat.le_of_ble_eq_true rfl, Nat.le_of_ble_eq_true rfl⟩ ⟨Nat.le_of_ble_eq_true rfl, Nat.le_of_ble_eq_true rfl⟩ (fun locs hW => ?_)
  refine lv_aload_n X.1 X.2.1 dL_law_63 rfl (lv_at hl 0 rfl) ?_
  refine lv_iconst (v := 4) X.1 X.2.1 dL_law_64 (by decide) ?_
  refine zl_cell X 4 (by decide) hL hX hbl hW hl.1 (Nat.le_of_ble_eq_true rfl) dL_law_65 ⟨Nat.le_of_ble_eq_true rfl, Nat.le_of_ble_eq_true rfl⟩ ⟨Nat.le_of_ble_eq_true rfl, Nat.le_of_ble_eq_true rfl⟩ (fun locs hW => ?_)
  refine lv_bipush (v := 14) X.1 X.2.1 dL_law_68 (by decide) ?_
  obtain ⟨V, Id, e3, d3, rV, f3⟩ := d_draw hF d2 (a := 91) (by decide) (by decide) (lcell L xs 3) (lcell L xs 4)
  refine ze_aftV (ze_runS (As := [.ref (B + 91), .int (lcell L xs 3), .int (lcell L xs 4), .int 14]) (rest := []) X 88 (c_L_draws l D B 94 e3) vL_draws kml_L_88 hW ⟨Nat.le_of_ble_eq_true rfl, Nat.le_of_ble_eq_true rfl⟩ rfl hl.1 rfl (Nat.le_of_ble_eq_true rfl) ⟨Nat.le_of_ble_eq_true rfl, Nat.le_of_ble_eq_true rfl⟩ dL_law_70) hW (fun H locs hW => ?_)
  have rT3 : lRow Id 89 T := lRow_keep (lRow_keep rT (f2 89 (by decide) (by decide))) (f3 89 (by decide) (by decide))
  have rU3 : lRow Id 90 U := lRow_keep rU (f3 90 (by decide) (by decide))
  -- u once more
  refine lv_aload_n X.1 X.2.1 dL_law_73 rfl (lv_at hl 0 rfl) ?_
  refine lv_iconst (v := 5) X.1 X.2.1 dL_law_74 (by decide) ?_
  refine zl_cell X 5 (by decide) hL hX hbl hW hl.1 (Nat.le_of_ble_eq_true rfl) dL_law_75 ⟨Nat.le_of_ble_eq_true rfl, Nat.le_of_ble_eq_true rfl⟩ ⟨Nat.le_of_ble_eq_true rfl, Nat.le_of_ble_eq_true rfl⟩ (fun locs hW => ?_)
  refine lv_iconst (v := 3) X.1 X.2.1 dL_law_78 (by decide) ?_
  refine lv_irem X.1 X.2.1 dL_law_79 (by decide) ?_
  refine lv_if_ne (tgt := 100) X.1 X.2.1 dL_law_80 (by decide) (fun _ => ?_) (fun _ => ?_)
  · exact law_100 hF hL C0 X B hB d3 rT3 rU3 rV hW (Nat.le_of_ble_eq_true rfl) (Nat.le_of_ble_eq_true rfl) hl
  · refine lv_aload_n X.1 X.2.1 dL_law_83 rfl (lv_at hl 3 rfl) ?_
    refine lv_aload_n X.1 X.2.1 dL_law_84 rfl (lv_at hl 0 rfl) ?_
    refine lv_bipush (v := 6) X.1 X.2.1 dL_law_85 (by decide) ?_
    refine zl_cell X 6 (by decide) hL hX hbl hW hl.1 (Nat.le_of_ble_eq_true rfl) dL_law_87 ⟨Nat.le_of_ble_eq_true rfl, Nat.le_of_ble_eq_true rfl⟩ ⟨Nat.le_of_ble_eq_true rfl, Nat.le_of_ble_eq_true rfl⟩ (fun locs hW => ?_)
    refine lv_aload_n X.1 X.2.1 dL_law_90 rfl (lv_at hl 0 rfl) ?_
    refine lv_iconst (v := 2) X.1 X.2.1 dL_law_91 (by decide) ?_
    refine zl_cell X 2 (by decide) hL hX hbl hW hl.1 (Nat.le_of_ble_eq_true rfl) dL_law_92 ⟨Nat.le_of_ble_eq_true rfl, Nat.le_of_ble_eq_true rfl⟩ ⟨Nat.le_of_ble_eq_true rfl, Nat.le_of_ble_eq_true rfl⟩ (fun locs hW => ?_)
    refine lv_bipush (v := 14) X.1 X.2.1 dL_law_95 (by decide) ?_
    obtain ⟨U2, Ie, e4, d4, rU4, f4⟩ := d_draw hF d3 (a := 90) (by decide) (by decide) (lcell L xs 6) (lcell L xs 2)
    refine ze_aftV (ze_runS (As := [.ref (B + 90), .int (lcell L xs 6), .int (lcell L xs 2), .int 14]) (rest := []) X 88 (c_L_draws l D B 95 e4) vL_draws kml_L_88 hW ⟨Nat.le_of_ble_eq_true rfl, Nat.le_of_ble_eq_true rfl⟩ rfl hl.1 rfl (Nat.le_of_ble_eq_true rfl) ⟨Nat.le_of_ble_eq_true rfl, Nat.le_of_ble_eq_true rfl⟩ dL_law_97) hW (fun H locs hW => ?_)
    exact law_100 hF hL C0 X B hB d4 (lRow_keep rT3 (f4 89 (by decide) (by decide))) rU4 (lRow_keep rV (f4 91 (by decide) (by decide))) hW (Nat.le_of_ble_eq_true rfl) (Nat.le_of_ble_eq_true rfl) hl
