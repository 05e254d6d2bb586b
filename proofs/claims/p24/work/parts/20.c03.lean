/-! LeastPatterns$Matcher.sameFilling(II)Z -/
def f_X1_sameFilling (F : Nat) (K : zK) (I : zI) (R : zR) (a0 : Nat) (x1 : Int32) (x2 : Int32) : Option (Int32) :=
  zbd (f_X6_outside F K I R x1 (9 : Int32)) fun v1 =>
  if v1 = (0 : Int32) then
    zbd (f_X6_outside F K I R x2 (9 : Int32)) fun v4 =>
    if v4 = (0 : Int32) then
      zbd (some (R a0 4)) fun o7 =>
      zbd (zdr K o7 1) fun a8 =>
      zbd (zrd K I a8 x1) fun v11 =>
      if v11 = (-1 : Int32) then
        some (0 : Int32)
      else
        zbd (some (R a0 4)) fun o13 =>
        zbd (zdr K o13 1) fun a14 =>
        zbd (zrd K I a14 x1) fun v17 =>
        zbd (some (R a0 4)) fun o18 =>
        zbd (zdr K o18 1) fun a19 =>
        zbd (zrd K I a19 x2) fun v22 =>
        if v17 = v22 then
          zbd (some (R a0 6)) fun o24 =>
          zbd (zdr K o24 1) fun a25 =>
          zbd (zrd K I a25 x1) fun v28 =>
          zbd (some (R a0 6)) fun o29 =>
          zbd (zdr K o29 1) fun a30 =>
          zbd (zrd K I a30 x2) fun v33 =>
          if v28 = v33 then
            zbd (some (R a0 4)) fun o35 =>
            zbd (zdr K o35 1) fun a36 =>
            zbd (zrd K I a36 x1) fun v39 =>
            if v39 = (2 : Int32) then
              zbd (some (R a0 1)) fun o64 =>
              zbd (some (R a0 5)) fun o65 =>
              zbd (zdr K o65 1) fun a66 =>
              zbd (zrd K I a66 x1) fun v69 =>
              zbd (zdr K o64 15) fun a70 =>
              zbd (f_X5_headOf F K I R a70 v69) fun v73 =>
              zbd (some (R a0 1)) fun o75 =>
              zbd (some (R a0 5)) fun o76 =>
              zbd (zdr K o76 1) fun a77 =>
              zbd (zrd K I a77 x2) fun v80 =>
              zbd (zdr K o75 15) fun a81 =>
              zbd (f_X5_headOf F K I R a81 v80) fun v84 =>
              if v73 = v84 then
                some (1 : Int32)
              else
                some (0 : Int32)
            else
              zbd (some (R a0 1)) fun o41 =>
              zbd (some (R a0 5)) fun o42 =>
              zbd (zdr K o42 1) fun a43 =>
              zbd (zrd K I a43 x1) fun v46 =>
              zbd (some (R a0 1)) fun o47 =>
              zbd (some (R a0 5)) fun o48 =>
              zbd (zdr K o48 1) fun a49 =>
              zbd (zrd K I a49 x2) fun v52 =>
              zbd (some (R a0 6)) fun o53 =>
              zbd (zdr K o53 1) fun a54 =>
              zbd (zrd K I a54 x1) fun v57 =>
              zbd (zdr K o41 15) fun a58 =>
              zbd (f_X5_compareNodes F K I R a58 v46 o47 v52 v57) fun v61 =>
              if v61 = (0 : Int32) then
                some (1 : Int32)
              else
                some (0 : Int32)
          else
            some (0 : Int32)
        else
          some (0 : Int32)
    else
      some (0 : Int32)
  else
    some (0 : Int32)
section
variable {p : Program} {l : Launch} {e : Env} {s : State} {m : MethodId} {args : Array Value} {below : List Frame} {meth : Method} {c : Code} {D : zD} {B n n0 n' fd ld : Nat} {K K0 K' : zK} {I I' : zI} {R R' : zR} {H : Heap} {locs : List Loc} {ls : Array Slot} {r : Int32}
set_option maxRecDepth 100000 in
set_option maxHeartbeats 4000000 in
theorem c_X1_sameFilling (l : Launch) (D : zD) (B n : Nat) {F : Nat} {K : zK} {I : zI} {R : zR} {a0 : Nat} {x1 : Int32} {x2 : Int32} {r : Int32} (hK0 : (K a0).1 = 11) (hf : f_X1_sameFilling F K I R a0 x1 x2 = some r) : zM l yX1_sameFilling cX1_sameFilling 3 (some .boolean) ({ frames := 2, cells := 0, slots := 0, locals := 67 } : Room) D B n K I R [.ref (B + a0), .int x1, .int x2] (zQi D (zOwn B K (B + n)) r B n K I R) := by
  refine ze_entry (lv0 := [(0, .ref (B + a0)), (1, .int x1), (2, .int x2)]) (by decide) (by simp [lg_sl, zcat, zcat_i, zcat_r, zcat_l]) (by simp [lv_args, zcat, zcat_i, zcat_r, zcat_l]) (fun p e s m below meth c X hr hlk hin hW ls hl => ?_)
  unfold f_X1_sameFilling at hf
  refine lv_iload_n X.1 X.2.1 dX1_sameFilling_0 rfl (lv_at hl 1 rfl) ?_
  refine lv_bipush (v := 9) X.1 X.2.1 dX1_sameFilling_1 (by decide) ?_
  obtain ⟨v1, h2, hg⟩ := zh_bd hf
  replace hf := hg
  refine ze_aftI0 (ze_runSN (As := [.int x1, .int (9 : Int32)]) (rest := []) X 78 (c_X6_outside l D B n h2) vX6_outside kml_X1_78 hW ⟨by decide, by decide⟩ rfl hl.1 rfl (Nat.le_of_ble_eq_true rfl) ⟨Nat.le_refl _, Nat.le_refl _⟩ dX1_sameFilling_3) hW (fun H locs hV => ?_)
  replace hW := hV
  refine lv_if_ne (tgt := 58) X.1 X.2.1 dX1_sameFilling_6 (by decide) (fun c3 => ?_) (fun c3 => ?_)
  · replace hf := zif_neg c3 hf
    refine lv_iconst (v := 0) X.1 X.2.1 dX1_sameFilling_58 (by decide) ?_
    obtain rfl := zi1 hf
    exact ze_retZ X hr hlk (by decide) hW (Nat.le_refl _) (Nat.le_refl _) dX1_sameFilling_59
  · replace hf := zif_pos c3 hf
    refine lv_iload_n X.1 X.2.1 dX1_sameFilling_9 rfl (lv_at hl 2 rfl) ?_
    refine lv_bipush (v := 9) X.1 X.2.1 dX1_sameFilling_10 (by decide) ?_
    obtain ⟨v4, h5, hg⟩ := zh_bd hf
    replace hf := hg
    refine ze_aftI0 (ze_runSN (As := [.int x2, .int (9 : Int32)]) (rest := []) X 78 (c_X6_outside l D B n h5) vX6_outside kml_X1_78 hW ⟨by decide, by decide⟩ rfl hl.1 rfl (Nat.le_of_ble_eq_true rfl) ⟨Nat.le_refl _, Nat.le_refl _⟩ dX1_sameFilling_12) hW (fun H locs hV => ?_)
    replace hW := hV
    refine lv_if_ne (tgt := 58) X.1 X.2.1 dX1_sameFilling_15 (by decide) (fun c6 => ?_) (fun c6 => ?_)
    · replace hf := zif_neg c6 hf
      refine lv_iconst (v := 0) X.1 X.2.1 dX1_sameFilling_58 (by decide) ?_
      obtain rfl := zi1 hf
      exact ze_retZ X hr hlk (by decide) hW (Nat.le_refl _) (Nat.le_refl _) dX1_sameFilling_59
    · replace hf := zif_pos c6 hf
      refine lv_aload_n X.1 X.2.1 dX1_sameFilling_18 rfl (lv_at hl 0 rfl) ?_
      refine ze_gtR X 1 4 28 (RX1, TX1, 8) rfl hf hW hK0 rfl (by decide) kfl_X1_28 dX1_sameFilling_19 (fun o7 hg => ?_)
      replace hf := hg
      refine lv_iload_n X.1 X.2.1 dX1_sameFilling_22 rfl (lv_at hl 1 rfl) ?_
      obtain ⟨a8, rfl, k10, hg⟩ := zh_dr hf
      replace hf := hg
      refine ze_iald X hf hW k10 dX1_sameFilling_23 (fun v11 hg => ?_)
      replace hf := hg
      refine lv_iconst (v := -1) X.1 X.2.1 dX1_sameFilling_24 (by decide) ?_
      refine lv_icmp_eq (tgt := 58) X.1 X.2.1 dX1_sameFilling_25 (by decide) (fun c12 => ?_) (fun c12 => ?_)
      · replace hf := zif_pos c12 hf
        refine lv_iconst (v := 0) X.1 X.2.1 dX1_sameFilling_58 (by decide) ?_
        obtain rfl := zi1 hf
        exact ze_retZ X hr hlk (by decide) hW (Nat.le_refl _) (Nat.le_refl _) dX1_sameFilling_59
      · replace hf := zif_neg c12 hf
        refine lv_aload_n X.1 X.2.1 dX1_sameFilling_28 rfl (lv_at hl 0 rfl) ?_
        refine ze_gtR X 1 4 28 (RX1, TX1, 8) rfl hf hW hK0 rfl (by decide) kfl_X1_28 dX1_sameFilling_29 (fun o13 hg => ?_)
        replace hf := hg
        refine lv_iload_n X.1 X.2.1 dX1_sameFilling_32 rfl (lv_at hl 1 rfl) ?_
        obtain ⟨a14, rfl, k16, hg⟩ := zh_dr hf
        replace hf := hg
        refine ze_iald X hf hW k16 dX1_sameFilling_33 (fun v17 hg => ?_)
        replace hf := hg
        refine lv_aload_n X.1 X.2.1 dX1_sameFilling_34 rfl (lv_at hl 0 rfl) ?_
        refine ze_gtR X 1 4 28 (RX1, TX1, 8) rfl hf hW hK0 rfl (by decide) kfl_X1_28 dX1_sameFilling_35 (fun o18 hg => ?_)
        replace hf := hg
        refine lv_iload_n X.1 X.2.1 dX1_sameFilling_38 rfl (lv_at hl 2 rfl) ?_
        obtain ⟨a19, rfl, k21, hg⟩ := zh_dr hf
        replace hf := hg
        refine ze_iald X hf hW k21 dX1_sameFilling_39 (fun v22 hg => ?_)
        replace hf := hg
        refine lv_icmp_ne (tgt := 58) X.1 X.2.1 dX1_sameFilling_40 (by decide) (fun c23 => ?_) (fun c23 => ?_)
        · replace hf := zif_neg c23 hf
          refine lv_iconst (v := 0) X.1 X.2.1 dX1_sameFilling_58 (by decide) ?_
          obtain rfl := zi1 hf
          exact ze_retZ X hr hlk (by decide) hW (Nat.le_refl _) (Nat.le_refl _) dX1_sameFilling_59
        · replace hf := zif_pos c23 hf
          refine lv_aload_n X.1 X.2.1 dX1_sameFilling_43 rfl (lv_at hl 0 rfl) ?_
          refine ze_gtR X 1 6 34 (RX1, TX1, 8) rfl hf hW hK0 rfl (by decide) kfl_X1_34 dX1_sameFilling_44 (fun o24 hg => ?_)
          replace hf := hg
          refine lv_iload_n X.1 X.2.1 dX1_sameFilling_47 rfl (lv_at hl 1 rfl) ?_
          obtain ⟨a25, rfl, k27, hg⟩ := zh_dr hf
          replace hf := hg
          refine ze_iald X hf hW k27 dX1_sameFilling_48 (fun v28 hg => ?_)
          replace hf := hg
          refine lv_aload_n X.1 X.2.1 dX1_sameFilling_49 rfl (lv_at hl 0 rfl) ?_
          refine ze_gtR X 1 6 34 (RX1, TX1, 8) rfl hf hW hK0 rfl (by decide) kfl_X1_34 dX1_sameFilling_50 (fun o29 hg => ?_)
          replace hf := hg
          refine lv_iload_n X.1 X.2.1 dX1_sameFilling_53 rfl (lv_at hl 2 rfl) ?_
          obtain ⟨a30, rfl, k32, hg⟩ := zh_dr hf
          replace hf := hg
          refine ze_iald X hf hW k32 dX1_sameFilling_54 (fun v33 hg => ?_)
          replace hf := hg
          refine lv_icmp_eq (tgt := 60) X.1 X.2.1 dX1_sameFilling_55 (by decide) (fun c34 => ?_) (fun c34 => ?_)
          · replace hf := zif_pos c34 hf
            refine lv_aload_n X.1 X.2.1 dX1_sameFilling_60 rfl (lv_at hl 0 rfl) ?_
            refine ze_gtR X 1 4 28 (RX1, TX1, 8) rfl hf hW hK0 rfl (by decide) kfl_X1_28 dX1_sameFilling_61 (fun o35 hg => ?_)
            replace hf := hg
            refine lv_iload_n X.1 X.2.1 dX1_sameFilling_64 rfl (lv_at hl 1 rfl) ?_
            obtain ⟨a36, rfl, k38, hg⟩ := zh_dr hf
            replace hf := hg
            refine ze_iald X hf hW k38 dX1_sameFilling_65 (fun v39 hg => ?_)
            replace hf := hg
            refine lv_iconst (v := 2) X.1 X.2.1 dX1_sameFilling_66 (by decide) ?_
            refine lv_icmp_ne (tgt := 105) X.1 X.2.1 dX1_sameFilling_67 (by decide) (fun c40 => ?_) (fun c40 => ?_)
            · replace hf := zif_neg c40 hf
              refine lv_aload_n X.1 X.2.1 dX1_sameFilling_105 rfl (lv_at hl 0 rfl) ?_
              refine ze_gtR X 1 1 18 (RX1, TX1, 8) rfl hf hW hK0 rfl (by decide) kfl_X1_18 dX1_sameFilling_106 (fun o41 hg => ?_)
              replace hf := hg
              refine lv_aload_n X.1 X.2.1 dX1_sameFilling_109 rfl (lv_at hl 0 rfl) ?_
              refine ze_gtR X 1 5 31 (RX1, TX1, 8) rfl hf hW hK0 rfl (by decide) kfl_X1_31 dX1_sameFilling_110 (fun o42 hg => ?_)
              replace hf := hg
              refine lv_iload_n X.1 X.2.1 dX1_sameFilling_113 rfl (lv_at hl 1 rfl) ?_
              obtain ⟨a43, rfl, k45, hg⟩ := zh_dr hf
              replace hf := hg
              refine ze_iald X hf hW k45 dX1_sameFilling_114 (fun v46 hg => ?_)
              replace hf := hg
              refine lv_aload_n X.1 X.2.1 dX1_sameFilling_115 rfl (lv_at hl 0 rfl) ?_
              refine ze_gtR X 1 1 18 (RX1, TX1, 8) rfl hf hW hK0 rfl (by decide) kfl_X1_18 dX1_sameFilling_116 (fun o47 hg => ?_)
              replace hf := hg
              refine lv_aload_n X.1 X.2.1 dX1_sameFilling_119 rfl (lv_at hl 0 rfl) ?_
              refine ze_gtR X 1 5 31 (RX1, TX1, 8) rfl hf hW hK0 rfl (by decide) kfl_X1_31 dX1_sameFilling_120 (fun o48 hg => ?_)
              replace hf := hg
              refine lv_iload_n X.1 X.2.1 dX1_sameFilling_123 rfl (lv_at hl 2 rfl) ?_
              obtain ⟨a49, rfl, k51, hg⟩ := zh_dr hf
              replace hf := hg
              refine ze_iald X hf hW k51 dX1_sameFilling_124 (fun v52 hg => ?_)
              replace hf := hg
              refine lv_aload_n X.1 X.2.1 dX1_sameFilling_125 rfl (lv_at hl 0 rfl) ?_
              refine ze_gtR X 1 6 34 (RX1, TX1, 8) rfl hf hW hK0 rfl (by decide) kfl_X1_34 dX1_sameFilling_126 (fun o53 hg => ?_)
              replace hf := hg
              refine lv_iload_n X.1 X.2.1 dX1_sameFilling_129 rfl (lv_at hl 1 rfl) ?_
              obtain ⟨a54, rfl, k56, hg⟩ := zh_dr hf
              replace hf := hg
              refine ze_iald X hf hW k56 dX1_sameFilling_130 (fun v57 hg => ?_)
              replace hf := hg
              obtain ⟨a58, rfl, k60, hg⟩ := zh_dr hf
              replace hf := hg
              obtain ⟨v61, h62, hg⟩ := zh_bd hf
              replace hf := hg
              refine ze_aftI0 (ze_runV (As := [.int v46, zrf B o47, .int v52, .int v57]) (rest := []) X 5 81 (c_X5_compareNodes l D B n k60 h62) vX5_compareNodes kml_X1_81 hW k60 rfl rfl ⟨by decide, by decide⟩ rfl hl.1 rfl (Nat.le_of_ble_eq_true rfl) ⟨Nat.le_refl _, Nat.le_refl _⟩ dX1_sameFilling_131) hW (fun H locs hV => ?_)
              replace hW := hV
              refine lv_if_ne (tgt := 141) X.1 X.2.1 dX1_sameFilling_134 (by decide) (fun c63 => ?_) (fun c63 => ?_)
              · replace hf := zif_neg c63 hf
                refine lv_iconst (v := 0) X.1 X.2.1 dX1_sameFilling_141 (by decide) ?_
                obtain rfl := zi1 hf
                exact ze_retZ X hr hlk (by decide) hW (Nat.le_refl _) (Nat.le_refl _) dX1_sameFilling_142
              · replace hf := zif_pos c63 hf
                refine lv_iconst (v := 1) X.1 X.2.1 dX1_sameFilling_137 (by decide) ?_
                refine lv_goto (tgt := 142) X.1 X.2.1 dX1_sameFilling_138 (by decide) ?_
                obtain rfl := zi1 hf
                exact ze_retZ X hr hlk (by decide) hW (Nat.le_refl _) (Nat.le_refl _) dX1_sameFilling_142
            · replace hf := zif_pos c40 hf
              refine lv_aload_n X.1 X.2.1 dX1_sameFilling_70 rfl (lv_at hl 0 rfl) ?_
              refine ze_gtR X 1 1 18 (RX1, TX1, 8) rfl hf hW hK0 rfl (by decide) kfl_X1_18 dX1_sameFilling_71 (fun o64 hg => ?_)
              replace hf := hg
              refine lv_aload_n X.1 X.2.1 dX1_sameFilling_74 rfl (lv_at hl 0 rfl) ?_
              refine ze_gtR X 1 5 31 (RX1, TX1, 8) rfl hf hW hK0 rfl (by decide) kfl_X1_31 dX1_sameFilling_75 (fun o65 hg => ?_)
              replace hf := hg
              refine lv_iload_n X.1 X.2.1 dX1_sameFilling_78 rfl (lv_at hl 1 rfl) ?_
              obtain ⟨a66, rfl, k68, hg⟩ := zh_dr hf
              replace hf := hg
              refine ze_iald X hf hW k68 dX1_sameFilling_79 (fun v69 hg => ?_)
              replace hf := hg
              obtain ⟨a70, rfl, k72, hg⟩ := zh_dr hf
              replace hf := hg
              obtain ⟨v73, h74, hg⟩ := zh_bd hf
              replace hf := hg
              refine ze_aftI0 (ze_runV (As := [.int v69]) (rest := []) X 5 66 (c_X5_headOf l D B n k72 h74) vX5_headOf kml_X1_66 hW k72 rfl rfl ⟨by decide, by decide⟩ rfl hl.1 rfl (Nat.le_of_ble_eq_true rfl) ⟨Nat.le_refl _, Nat.le_refl _⟩ dX1_sameFilling_80) hW (fun H locs hV => ?_)
              replace hW := hV
              refine lv_aload_n X.1 X.2.1 dX1_sameFilling_83 rfl (lv_at hl 0 rfl) ?_
              refine ze_gtR X 1 1 18 (RX1, TX1, 8) rfl hf hW hK0 rfl (by decide) kfl_X1_18 dX1_sameFilling_84 (fun o75 hg => ?_)
              replace hf := hg
              refine lv_aload_n X.1 X.2.1 dX1_sameFilling_87 rfl (lv_at hl 0 rfl) ?_
              refine ze_gtR X 1 5 31 (RX1, TX1, 8) rfl hf hW hK0 rfl (by decide) kfl_X1_31 dX1_sameFilling_88 (fun o76 hg => ?_)
              replace hf := hg
              refine lv_iload_n X.1 X.2.1 dX1_sameFilling_91 rfl (lv_at hl 2 rfl) ?_
              obtain ⟨a77, rfl, k79, hg⟩ := zh_dr hf
              replace hf := hg
              refine ze_iald X hf hW k79 dX1_sameFilling_92 (fun v80 hg => ?_)
              replace hf := hg
              obtain ⟨a81, rfl, k83, hg⟩ := zh_dr hf
              replace hf := hg
              obtain ⟨v84, h85, hg⟩ := zh_bd hf
              replace hf := hg
              refine ze_aftI0 (ze_runV (As := [.int v80]) (rest := [.int v73]) X 5 66 (c_X5_headOf l D B n k83 h85) vX5_headOf kml_X1_66 hW k83 rfl rfl ⟨by decide, by decide⟩ rfl hl.1 rfl (Nat.le_of_ble_eq_true rfl) ⟨Nat.le_refl _, Nat.le_refl _⟩ dX1_sameFilling_93) hW (fun H locs hV => ?_)
              replace hW := hV
              refine lv_icmp_ne (tgt := 103) X.1 X.2.1 dX1_sameFilling_96 (by decide) (fun c86 => ?_) (fun c86 => ?_)
              · replace hf := zif_neg c86 hf
                refine lv_iconst (v := 0) X.1 X.2.1 dX1_sameFilling_103 (by decide) ?_
                obtain rfl := zi1 hf
                exact ze_retZ X hr hlk (by decide) hW (Nat.le_refl _) (Nat.le_refl _) dX1_sameFilling_104
              · replace hf := zif_pos c86 hf
                refine lv_iconst (v := 1) X.1 X.2.1 dX1_sameFilling_99 (by decide) ?_
                refine lv_goto (tgt := 104) X.1 X.2.1 dX1_sameFilling_100 (by decide) ?_
                obtain rfl := zi1 hf
                exact ze_retZ X hr hlk (by decide) hW (Nat.le_refl _) (Nat.le_refl _) dX1_sameFilling_104
          · replace hf := zif_neg c34 hf
            refine lv_iconst (v := 0) X.1 X.2.1 dX1_sameFilling_58 (by decide) ?_
            obtain rfl := zi1 hf
            exact ze_retZ X hr hlk (by decide) hW (Nat.le_refl _) (Nat.le_refl _) dX1_sameFilling_59
end

/-! LeastPatterns$Matcher.canMerge(ILLeastPatterns$Matcher;)Z -/
def f_X1_canMerge_33 (F : Nat) (K : zK) (I : zI) (R : zR) (a0 : Nat) (k2 : Int32 → Option Nat → Int32 → Option (Int32)) (x1 : Int32) (x2 : Option Nat) (x3 : Int32) : Option (Int32) :=
  k2 x1 x2 (x3 + (1 : Int32))
def g_X1_canMerge_2 (F : Nat) (K : zK) (I : zI) (R : zR) (a0 : Nat)  (kself : Int32 → Option Nat → Int32 → Option (Int32)) (x1 : Int32) (x2 : Option Nat) (x3 : Int32) : Option (Int32) :=
  if x1 ≤ x3 then
    some (0 : Int32)
  else
    if (10 : Int32) ≤ x3 then
      some (0 : Int32)
    else
      zbd (f_X1_sameFilling F K I R a0 x3 x1) fun v3 =>
      if v3 = (0 : Int32) then
        f_X1_canMerge_33 F K I R a0 kself x1 x2 x3
      else
        zbd (zdr K x2 11) fun a6 =>
        zbd (f_X1_sameFilling F K I R a6 x3 x1) fun v9 =>
        if v9 = (0 : Int32) then
          f_X1_canMerge_33 F K I R a0 kself x1 (some a6) x3
        else
          some (1 : Int32)
def f_X1_canMerge_2 (F : Nat) (K : zK) (I : zI) (R : zR) (a0 : Nat)  : Nat → Int32 → Option Nat → Int32 → Option (Int32)
  | 0, _, _, _ => none
  | t + 1, x1, x2, x3 => g_X1_canMerge_2 F K I R a0  (f_X1_canMerge_2 F K I R a0  t) x1 x2 x3
def f_X1_canMerge (F : Nat) (K : zK) (I : zI) (R : zR) (a0 : Nat) (x1 : Int32) (x2 : Option Nat) : Option (Int32) :=
  f_X1_canMerge_2 F K I R a0 F x1 x2 (0 : Int32)
section
variable {p : Program} {l : Launch} {e : Env} {s : State} {m : MethodId} {args : Array Value} {below : List Frame} {meth : Method} {c : Code} {D : zD} {B n n0 n' fd ld : Nat} {K K0 K' : zK} {I I' : zI} {R R' : zR} {H : Heap} {locs : List Loc} {ls : Array Slot} {r : Int32}
set_option maxRecDepth 100000 in
set_option maxHeartbeats 4000000 in
theorem w_X1_canMerge_33 {F : Nat} {a0 : Nat} {k2 : Int32 → Option Nat → Int32 → Option (Int32)} (X : zX p s m c cX1_canMerge 4 RX1 D) (hr : meth.sig.returnType = some .boolean) (hlk : meth.locks = false) (hK0 : (K a0).1 = 11) (hk2 : ∀ (x1 : Int32) (x2 : Option Nat) (x3 : Int32) (H : Heap) (locs : List Loc) (ls : Array Slot), k2 x1 x2 x3 = some r → zS (zOwn B K (B + n)) D B n K I R s.heap H locs → lv_has ls 4 [(0, .ref (B + a0)), (1, .int x1), (2, zrf B x2), (3, .int x3)] → W p l e ({ frames := 3, cells := 0, slots := 0, locals := 89 } : Room) s m args below meth c H locs 0 0 (MQ below (zQi D (zOwn B K (B + n)) r B n K I R) args s 0 0 (zOwn B K (B + n))) (F0 m 2 ls [])) {x1 : Int32} {x2 : Option Nat} {x3 : Int32} (hf : f_X1_canMerge_33 F K I R a0 k2 x1 x2 x3 = some r) (hW : zS (zOwn B K (B + n)) D B n K I R s.heap H locs) (hl : lv_has ls 4 [(0, .ref (B + a0)), (1, .int x1), (2, zrf B x2), (3, .int x3)]) : W p l e ({ frames := 3, cells := 0, slots := 0, locals := 89 } : Room) s m args below meth c H locs 0 0 (MQ below (zQi D (zOwn B K (B + n)) r B n K I R) args s 0 0 (zOwn B K (B + n))) (F0 m 33 ls []) := by
  unfold f_X1_canMerge_33 at hf
  refine ze_iinc (lv' := [(3, .int (x3 + (1 : Int32))), (0, .ref (B + a0)), (1, .int x1), (2, zrf B x2)]) (d := 1) X.1 X.2.1 dX1_canMerge_33 hl (k := 3) rfl (by decide) (by decide) (by first | rfl | (simp [zcat, zcat_i, zcat_r, zcat_l, zrf_some]; done) | (simp [zcat, zcat_i, zcat_r, zcat_l, zrf_some]; decide)) (fun ls hk => ?_)
  replace hl := hk
  refine lv_goto (tgt := 2) X.1 X.2.1 dX1_canMerge_36 (by decide) ?_
  exact hk2 _ _ _ _ _ _ hf hW (lv_sub hl [1, 2, 3, 0] rfl)
set_option maxRecDepth 100000 in
set_option maxHeartbeats 4000000 in
theorem wg_X1_canMerge_2 {F : Nat} {a0 : Nat}  (X : zX p s m c cX1_canMerge 4 RX1 D) (hr : meth.sig.returnType = some .boolean) (hlk : meth.locks = false) (hK0 : (K a0).1 = 11)  {kself : Int32 → Option Nat → Int32 → Option (Int32)} (hkself : ∀ (x1 : Int32) (x2 : Option Nat) (x3 : Int32) (H : Heap) (locs : List Loc) (ls : Array Slot), kself x1 x2 x3 = some r → zS (zOwn B K (B + n)) D B n K I R s.heap H locs → lv_has ls 4 [(0, .ref (B + a0)), (1, .int x1), (2, zrf B x2), (3, .int x3)] → W p l e ({ frames := 3, cells := 0, slots := 0, locals := 89 } : Room) s m args below meth c H locs 0 0 (MQ below (zQi D (zOwn B K (B + n)) r B n K I R) args s 0 0 (zOwn B K (B + n))) (F0 m 2 ls [])) {x1 : Int32} {x2 : Option Nat} {x3 : Int32} (hf : g_X1_canMerge_2 F K I R a0  kself x1 x2 x3 = some r) (hW : zS (zOwn B K (B + n)) D B n K I R s.heap H locs) (hl : lv_has ls 4 [(0, .ref (B + a0)), (1, .int x1), (2, zrf B x2), (3, .int x3)]) : W p l e ({ frames := 3, cells := 0, slots := 0, locals := 89 } : Room) s m args below meth c H locs 0 0 (MQ below (zQi D (zOwn B K (B + n)) r B n K I R) args s 0 0 (zOwn B K (B + n))) (F0 m 2 ls []) := by
  unfold g_X1_canMerge_2 at hf
  refine lv_iload_n X.1 X.2.1 dX1_canMerge_2 rfl (lv_at hl 3 rfl) ?_
  refine lv_iload_n X.1 X.2.1 dX1_canMerge_3 rfl (lv_at hl 1 rfl) ?_
  refine lv_icmp_ge (tgt := 39) X.1 X.2.1 dX1_canMerge_4 (by decide) (fun c1 => ?_) (fun c1 => ?_)
  · replace hf := zif_pos c1 hf
    refine lv_iconst (v := 0) X.1 X.2.1 dX1_canMerge_39 (by decide) ?_
    obtain rfl := zi1 hf
    exact ze_retZ X hr hlk (by decide) hW (Nat.le_refl _) (Nat.le_refl _) dX1_canMerge_40
  · replace hf := zif_neg c1 hf
    refine lv_iload_n X.1 X.2.1 dX1_canMerge_7 rfl (lv_at hl 3 rfl) ?_
    refine lv_bipush (v := 10) X.1 X.2.1 dX1_canMerge_8 (by decide) ?_
    refine lv_icmp_ge (tgt := 39) X.1 X.2.1 dX1_canMerge_10 (by decide) (fun c2 => ?_) (fun c2 => ?_)
    · replace hf := zif_pos c2 hf
      refine lv_iconst (v := 0) X.1 X.2.1 dX1_canMerge_39 (by decide) ?_
      obtain rfl := zi1 hf
      exact ze_retZ X hr hlk (by decide) hW (Nat.le_refl _) (Nat.le_refl _) dX1_canMerge_40
    · replace hf := zif_neg c2 hf
      refine lv_aload_n X.1 X.2.1 dX1_canMerge_13 rfl (lv_at hl 0 rfl) ?_
      refine lv_iload_n X.1 X.2.1 dX1_canMerge_14 rfl (lv_at hl 3 rfl) ?_
      refine lv_iload_n X.1 X.2.1 dX1_canMerge_15 rfl (lv_at hl 1 rfl) ?_
      obtain ⟨v3, h4, hg⟩ := zh_bd hf
      replace hf := hg
      refine ze_aftI0 (ze_runV (As := [.int x3, .int x1]) (rest := []) X 1 96 (c_X1_sameFilling l D B n hK0 h4) vX1_sameFilling kml_X1_96 hW hK0 rfl rfl ⟨by decide, by decide⟩ rfl hl.1 rfl (Nat.le_of_ble_eq_true rfl) ⟨Nat.le_refl _, Nat.le_refl _⟩ dX1_canMerge_16) hW (fun H locs hV => ?_)
      replace hW := hV
      refine lv_if_eq (tgt := 33) X.1 X.2.1 dX1_canMerge_19 (by decide) (fun c5 => ?_) (fun c5 => ?_)
      · replace hf := zif_pos c5 hf
        exact w_X1_canMerge_33 X hr hlk hK0 hkself hf hW hl
      · replace hf := zif_neg c5 hf
        refine ze_aload_n X.1 X.2.1 dX1_canMerge_22 rfl (lv_at hl 2 rfl) ?_
        refine lv_iload_n X.1 X.2.1 dX1_canMerge_23 rfl (lv_at hl 3 rfl) ?_
        refine lv_iload_n X.1 X.2.1 dX1_canMerge_24 rfl (lv_at hl 1 rfl) ?_
        obtain ⟨a6, rfl, k8, hg⟩ := zh_dr hf
        replace hf := hg
        obtain ⟨v9, h10, hg⟩ := zh_bd hf
        replace hf := hg
        refine ze_aftI0 (ze_runV (As := [.int x3, .int x1]) (rest := []) X 1 96 (c_X1_sameFilling l D B n k8 h10) vX1_sameFilling kml_X1_96 hW k8 rfl rfl ⟨by decide, by decide⟩ rfl hl.1 rfl (Nat.le_of_ble_eq_true rfl) ⟨Nat.le_refl _, Nat.le_refl _⟩ dX1_canMerge_25) hW (fun H locs hV => ?_)
        replace hW := hV
        refine lv_if_eq (tgt := 33) X.1 X.2.1 dX1_canMerge_28 (by decide) (fun c11 => ?_) (fun c11 => ?_)
        · replace hf := zif_pos c11 hf
          exact w_X1_canMerge_33 X hr hlk hK0 hkself hf hW hl
        · replace hf := zif_neg c11 hf
          refine lv_iconst (v := 1) X.1 X.2.1 dX1_canMerge_31 (by decide) ?_
          obtain rfl := zi1 hf
          exact ze_retZ X hr hlk (by decide) hW (Nat.le_refl _) (Nat.le_refl _) dX1_canMerge_32
set_option maxRecDepth 100000 in
set_option maxHeartbeats 4000000 in
theorem w_X1_canMerge_2 {F : Nat} {a0 : Nat}  (X : zX p s m c cX1_canMerge 4 RX1 D) (hr : meth.sig.returnType = some .boolean) (hlk : meth.locks = false) (hK0 : (K a0).1 = 11)  {t : Nat} {x1 : Int32} {x2 : Option Nat} {x3 : Int32} (hf : f_X1_canMerge_2 F K I R a0  t x1 x2 x3 = some r) (hW : zS (zOwn B K (B + n)) D B n K I R s.heap H locs) (hl : lv_has ls 4 [(0, .ref (B + a0)), (1, .int x1), (2, zrf B x2), (3, .int x3)]) : W p l e ({ frames := 3, cells := 0, slots := 0, locals := 89 } : Room) s m args below meth c H locs 0 0 (MQ below (zQi D (zOwn B K (B + n)) r B n K I R) args s 0 0 (zOwn B K (B + n))) (F0 m 2 ls []) := by
  have key : ∀ t : Nat, ∀ (x1 : Int32) (x2 : Option Nat) (x3 : Int32) (H : Heap) (locs : List Loc) (ls : Array Slot), f_X1_canMerge_2 F K I R a0  t x1 x2 x3 = some r → zS (zOwn B K (B + n)) D B n K I R s.heap H locs → lv_has ls 4 [(0, .ref (B + a0)), (1, .int x1), (2, zrf B x2), (3, .int x3)] → W p l e ({ frames := 3, cells := 0, slots := 0, locals := 89 } : Room) s m args below meth c H locs 0 0 (MQ below (zQi D (zOwn B K (B + n)) r B n K I R) args s 0 0 (zOwn B K (B + n))) (F0 m 2 ls []) := by
    intro t
    induction t with
    | zero =>
      intro x1 x2 x3 H locs ls hf hW hl
      cases hf
    | succ t ih =>
      intro x1 x2 x3 H locs ls hf hW hl
      exact wg_X1_canMerge_2 X hr hlk hK0  ih hf hW hl
  exact key t _ _ _ _ _ _ hf hW hl
set_option maxRecDepth 100000 in
set_option maxHeartbeats 4000000 in
theorem c_X1_canMerge (l : Launch) (D : zD) (B n : Nat) {F : Nat} {K : zK} {I : zI} {R : zR} {a0 : Nat} {x1 : Int32} {x2 : Option Nat} {r : Int32} (hK0 : (K a0).1 = 11) (hf : f_X1_canMerge F K I R a0 x1 x2 = some r) : zM l yX1_canMerge cX1_canMerge 4 (some .boolean) ({ frames := 3, cells := 0, slots := 0, locals := 89 } : Room) D B n K I R [.ref (B + a0), .int x1, zrf B x2] (zQi D (zOwn B K (B + n)) r B n K I R) := by
  refine ze_entry (lv0 := [(0, .ref (B + a0)), (1, .int x1), (2, zrf B x2)]) (by decide) (by simp [lg_sl, zcat, zcat_i, zcat_r, zcat_l]) (by simp [lv_args, zcat, zcat_i, zcat_r, zcat_l]) (fun p e s m below meth c X hr hlk hin hW ls hl => ?_)
  unfold f_X1_canMerge at hf
  refine lv_iconst (v := 0) X.1 X.2.1 dX1_canMerge_0 (by decide) ?_
  refine lv_istore_n (i := 3) (lv' := [(3, .int (0 : Int32)), (0, .ref (B + a0)), (1, .int x1), (2, zrf B x2)]) X.1 X.2.1 dX1_canMerge_1 rfl hl (by decide) (by first | rfl | (simp [zcat, zcat_i, zcat_r, zcat_l, zrf_some]; done) | (simp [zcat, zcat_i, zcat_r, zcat_l, zrf_some]; decide)) (fun ls hk => ?_)
  replace hl := hk
  exact w_X1_canMerge_2 X hr hlk hK0 hf hW (lv_sub hl [1, 2, 3, 0] rfl)
end

/-! LeastPatterns$Matcher.beginsWithTerm(I)Z -/
def f_X1_beginsWithTerm (F : Nat) (K : zK) (I : zI) (R : zR) (a0 : Nat) (x1 : Int32) : Option (Int32) :=
  zbd (some (R a0 7)) fun o1 =>
  zbd (zdr K o1 1) fun a2 =>
  zbd (zrd K I a2 x1) fun v5 =>
  if v5 ≤ (0 : Int32) then
    some (0 : Int32)
  else
    zbd (some (R a0 1)) fun o7 =>
    zbd (some (R a0 5)) fun o8 =>
    zbd (zdr K o8 1) fun a9 =>
    zbd (zrd K I a9 x1) fun v12 =>
    zbd (zdr K o7 15) fun a13 =>
    zbd (f_X5_sortOf F K I R a13 v12) fun v16 =>
    if v16 = (3 : Int32) then
      some (0 : Int32)
    else
      some (1 : Int32)
section
variable {p : Program} {l : Launch} {e : Env} {s : State} {m : MethodId} {args : Array Value} {below : List Frame} {meth : Method} {c : Code} {D : zD} {B n n0 n' fd ld : Nat} {K K0 K' : zK} {I I' : zI} {R R' : zR} {H : Heap} {locs : List Loc} {ls : Array Slot} {r : Int32}
set_option maxRecDepth 100000 in
set_option maxHeartbeats 4000000 in
theorem c_X1_beginsWithTerm (l : Launch) (D : zD) (B n : Nat) {F : Nat} {K : zK} {I : zI} {R : zR} {a0 : Nat} {x1 : Int32} {r : Int32} (hK0 : (K a0).1 = 11) (hf : f_X1_beginsWithTerm F K I R a0 x1 = some r) : zM l yX1_beginsWithTerm cX1_beginsWithTerm 2 (some .boolean) ({ frames := 2, cells := 0, slots := 0, locals := 61 } : Room) D B n K I R [.ref (B + a0), .int x1] (zQi D (zOwn B K (B + n)) r B n K I R) := by
  refine ze_entry (lv0 := [(0, .ref (B + a0)), (1, .int x1)]) (by decide) (by simp [lg_sl, zcat, zcat_i, zcat_r, zcat_l]) (by simp [lv_args, zcat, zcat_i, zcat_r, zcat_l]) (fun p e s m below meth c X hr hlk hin hW ls hl => ?_)
  unfold f_X1_beginsWithTerm at hf
  refine lv_aload_n X.1 X.2.1 dX1_beginsWithTerm_0 rfl (lv_at hl 0 rfl) ?_
  refine ze_gtR X 1 7 37 (RX1, TX1, 8) rfl hf hW hK0 rfl (by decide) kfl_X1_37 dX1_beginsWithTerm_1 (fun o1 hg => ?_)
  replace hf := hg
  refine lv_iload_n X.1 X.2.1 dX1_beginsWithTerm_4 rfl (lv_at hl 1 rfl) ?_
  obtain ⟨a2, rfl, k4, hg⟩ := zh_dr hf
  replace hf := hg
  refine ze_iald X hf hW k4 dX1_beginsWithTerm_5 (fun v5 hg => ?_)
  replace hf := hg
  refine lv_if_le (tgt := 30) X.1 X.2.1 dX1_beginsWithTerm_6 (by decide) (fun c6 => ?_) (fun c6 => ?_)
  · replace hf := zif_pos c6 hf
    refine lv_iconst (v := 0) X.1 X.2.1 dX1_beginsWithTerm_30 (by decide) ?_
    obtain rfl := zi1 hf
    exact ze_retZ X hr hlk (by decide) hW (Nat.le_refl _) (Nat.le_refl _) dX1_beginsWithTerm_31
  · replace hf := zif_neg c6 hf
    refine lv_aload_n X.1 X.2.1 dX1_beginsWithTerm_9 rfl (lv_at hl 0 rfl) ?_
    refine ze_gtR X 1 1 18 (RX1, TX1, 8) rfl hf hW hK0 rfl (by decide) kfl_X1_18 dX1_beginsWithTerm_10 (fun o7 hg => ?_)
    replace hf := hg
    refine lv_aload_n X.1 X.2.1 dX1_beginsWithTerm_13 rfl (lv_at hl 0 rfl) ?_
    refine ze_gtR X 1 5 31 (RX1, TX1, 8) rfl hf hW hK0 rfl (by decide) kfl_X1_31 dX1_beginsWithTerm_14 (fun o8 hg => ?_)
    replace hf := hg
    refine lv_iload_n X.1 X.2.1 dX1_beginsWithTerm_17 rfl (lv_at hl 1 rfl) ?_
    obtain ⟨a9, rfl, k11, hg⟩ := zh_dr hf
    replace hf := hg
    refine ze_iald X hf hW k11 dX1_beginsWithTerm_18 (fun v12 hg => ?_)
    replace hf := hg
    obtain ⟨a13, rfl, k15, hg⟩ := zh_dr hf
    replace hf := hg
    obtain ⟨v16, h17, hg⟩ := zh_bd hf
    replace hf := hg
    refine ze_aftI0 (ze_runV (As := [.int v12]) (rest := []) X 5 48 (c_X5_sortOf l D B n k15 h17) vX5_sortOf kml_X1_48 hW k15 rfl rfl ⟨by decide, by decide⟩ rfl hl.1 rfl (Nat.le_of_ble_eq_true rfl) ⟨Nat.le_refl _, Nat.le_refl _⟩ dX1_beginsWithTerm_19) hW (fun H locs hV => ?_)
    replace hW := hV
    refine lv_iconst (v := 3) X.1 X.2.1 dX1_beginsWithTerm_22 (by decide) ?_
    refine lv_icmp_eq (tgt := 30) X.1 X.2.1 dX1_beginsWithTerm_23 (by decide) (fun c18 => ?_) (fun c18 => ?_)
    · replace hf := zif_pos c18 hf
      refine lv_iconst (v := 0) X.1 X.2.1 dX1_beginsWithTerm_30 (by decide) ?_
      obtain rfl := zi1 hf
      exact ze_retZ X hr hlk (by decide) hW (Nat.le_refl _) (Nat.le_refl _) dX1_beginsWithTerm_31
    · replace hf := zif_neg c18 hf
      refine lv_iconst (v := 1) X.1 X.2.1 dX1_beginsWithTerm_26 (by decide) ?_
      refine lv_goto (tgt := 31) X.1 X.2.1 dX1_beginsWithTerm_27 (by decide) ?_
      obtain rfl := zi1 hf
      exact ze_retZ X hr hlk (by decide) hW (Nat.le_refl _) (Nat.le_refl _) dX1_beginsWithTerm_31
end

/-! LeastPatterns$Matcher.endsWithTerm(I)Z -/
def f_X1_endsWithTerm (F : Nat) (K : zK) (I : zI) (R : zR) (a0 : Nat) (x1 : Int32) : Option (Int32) :=
  zbd (some (R a0 1)) fun o1 =>
  zbd (some (R a0 5)) fun o2 =>
  zbd (zdr K o2 1) fun a3 =>
  zbd (zrd K I a3 x1) fun v6 =>
  zbd (some (R a0 7)) fun o7 =>
  zbd (zdr K o7 1) fun a8 =>
  zbd (zrd K I a8 x1) fun v11 =>
  zbd (zdr K o1 15) fun a12 =>
  zbd (f_X5_argument F K I R a12 (v6 - (1 : Int32)) (v11 - (1 : Int32))) fun v15 =>
  zbd (some (R a0 7)) fun o17 =>
  zbd (zdr K o17 1) fun a18 =>
  zbd (zrd K I a18 x1) fun v21 =>
  if v21 ≤ (0 : Int32) then
    some (0 : Int32)
  else
    zbd (some (R a0 1)) fun o23 =>
    zbd (zdr K o23 15) fun a24 =>
    zbd (f_X5_sortOf F K I R a24 v15) fun v27 =>
    if v27 = (3 : Int32) then
      some (0 : Int32)
    else
      some (1 : Int32)
section
variable {p : Program} {l : Launch} {e : Env} {s : State} {m : MethodId} {args : Array Value} {below : List Frame} {meth : Method} {c : Code} {D : zD} {B n n0 n' fd ld : Nat} {K K0 K' : zK} {I I' : zI} {R R' : zR} {H : Heap} {locs : List Loc} {ls : Array Slot} {r : Int32}
set_option maxRecDepth 100000 in
set_option maxHeartbeats 4000000 in
theorem c_X1_endsWithTerm (l : Launch) (D : zD) (B n : Nat) {F : Nat} {K : zK} {I : zI} {R : zR} {a0 : Nat} {x1 : Int32} {r : Int32} (hK0 : (K a0).1 = 11) (hf : f_X1_endsWithTerm F K I R a0 x1 = some r) : zM l yX1_endsWithTerm cX1_endsWithTerm 3 (some .boolean) ({ frames := 3, cells := 0, slots := 0, locals := 85 } : Room) D B n K I R [.ref (B + a0), .int x1] (zQi D (zOwn B K (B + n)) r B n K I R) := by
  refine ze_entry (lv0 := [(0, .ref (B + a0)), (1, .int x1)]) (by decide) (by simp [lg_sl, zcat, zcat_i, zcat_r, zcat_l]) (by simp [lv_args, zcat, zcat_i, zcat_r, zcat_l]) (fun p e s m below meth c X hr hlk hin hW ls hl => ?_)
  unfold f_X1_endsWithTerm at hf
  refine lv_aload_n X.1 X.2.1 dX1_endsWithTerm_0 rfl (lv_at hl 0 rfl) ?_
  refine ze_gtR X 1 1 18 (RX1, TX1, 8) rfl hf hW hK0 rfl (by decide) kfl_X1_18 dX1_endsWithTerm_1 (fun o1 hg => ?_)
  replace hf := hg
  refine lv_aload_n X.1 X.2.1 dX1_endsWithTerm_4 rfl (lv_at hl 0 rfl) ?_
  refine ze_gtR X 1 5 31 (RX1, TX1, 8) rfl hf hW hK0 rfl (by decide) kfl_X1_31 dX1_endsWithTerm_5 (fun o2 hg => ?_)
  replace hf := hg
  refine lv_iload_n X.1 X.2.1 dX1_endsWithTerm_8 rfl (lv_at hl 1 rfl) ?_
  obtain ⟨a3, rfl, k5, hg⟩ := zh_dr hf
  replace hf := hg
  refine ze_iald X hf hW k5 dX1_endsWithTerm_9 (fun v6 hg => ?_)
  replace hf := hg
  refine lv_iconst (v := 1) X.1 X.2.1 dX1_endsWithTerm_10 (by decide) ?_
  refine lv_isub X.1 X.2.1 dX1_endsWithTerm_11 ?_
  refine lv_aload_n X.1 X.2.1 dX1_endsWithTerm_12 rfl (lv_at hl 0 rfl) ?_
  refine ze_gtR X 1 7 37 (RX1, TX1, 8) rfl hf hW hK0 rfl (by decide) kfl_X1_37 dX1_endsWithTerm_13 (fun o7 hg => ?_)
  replace hf := hg
  refine lv_iload_n X.1 X.2.1 dX1_endsWithTerm_16 rfl (lv_at hl 1 rfl) ?_
  obtain ⟨a8, rfl, k10, hg⟩ := zh_dr hf
  replace hf := hg
  refine ze_iald X hf hW k10 dX1_endsWithTerm_17 (fun v11 hg => ?_)
  replace hf := hg
  refine lv_iconst (v := 1) X.1 X.2.1 dX1_endsWithTerm_18 (by decide) ?_
  refine lv_isub X.1 X.2.1 dX1_endsWithTerm_19 ?_
  obtain ⟨a12, rfl, k14, hg⟩ := zh_dr hf
  replace hf := hg
  obtain ⟨v15, h16, hg⟩ := zh_bd hf
  replace hf := hg
  refine ze_aftI0 (ze_runV (As := [.int (v6 - (1 : Int32)), .int (v11 - (1 : Int32))]) (rest := []) X 5 52 (c_X5_argument l D B n k14 h16) vX5_argument kml_X1_52 hW k14 rfl rfl ⟨by decide, by decide⟩ rfl hl.1 rfl (Nat.le_of_ble_eq_true rfl) ⟨Nat.le_refl _, Nat.le_refl _⟩ dX1_endsWithTerm_20) hW (fun H locs hV => ?_)
  replace hW := hV
  refine lv_istore_n (i := 2) (lv' := [(2, .int v15), (0, .ref (B + a0)), (1, .int x1)]) X.1 X.2.1 dX1_endsWithTerm_23 rfl hl (by decide) rfl (fun ls hk => ?_)
  replace hl := hk
  refine lv_aload_n X.1 X.2.1 dX1_endsWithTerm_24 rfl (lv_at hl 1 rfl) ?_
  refine ze_gtR X 1 7 37 (RX1, TX1, 8) rfl hf hW hK0 rfl (by decide) kfl_X1_37 dX1_endsWithTerm_25 (fun o17 hg => ?_)
  replace hf := hg
  refine lv_iload_n X.1 X.2.1 dX1_endsWithTerm_28 rfl (lv_at hl 2 rfl) ?_
  obtain ⟨a18, rfl, k20, hg⟩ := zh_dr hf
  replace hf := hg
  refine ze_iald X hf hW k20 dX1_endsWithTerm_29 (fun v21 hg => ?_)
  replace hf := hg
  refine lv_if_le (tgt := 49) X.1 X.2.1 dX1_endsWithTerm_30 (by decide) (fun c22 => ?_) (fun c22 => ?_)
  · replace hf := zif_pos c22 hf
    refine lv_iconst (v := 0) X.1 X.2.1 dX1_endsWithTerm_49 (by decide) ?_
    obtain rfl := zi1 hf
    exact ze_retZ X hr hlk (by decide) hW (Nat.le_refl _) (Nat.le_refl _) dX1_endsWithTerm_50
  · replace hf := zif_neg c22 hf
    refine lv_aload_n X.1 X.2.1 dX1_endsWithTerm_33 rfl (lv_at hl 1 rfl) ?_
    refine ze_gtR X 1 1 18 (RX1, TX1, 8) rfl hf hW hK0 rfl (by decide) kfl_X1_18 dX1_endsWithTerm_34 (fun o23 hg => ?_)
    replace hf := hg
    refine lv_iload_n X.1 X.2.1 dX1_endsWithTerm_37 rfl (lv_at hl 0 rfl) ?_
    obtain ⟨a24, rfl, k26, hg⟩ := zh_dr hf
    replace hf := hg
    obtain ⟨v27, h28, hg⟩ := zh_bd hf
    replace hf := hg
    refine ze_aftI0 (ze_runV (As := [.int v15]) (rest := []) X 5 48 (c_X5_sortOf l D B n k26 h28) vX5_sortOf kml_X1_48 hW k26 rfl rfl ⟨by decide, by decide⟩ rfl hl.1 rfl (Nat.le_of_ble_eq_true rfl) ⟨Nat.le_refl _, Nat.le_refl _⟩ dX1_endsWithTerm_38) hW (fun H locs hV => ?_)
    replace hW := hV
    refine lv_iconst (v := 3) X.1 X.2.1 dX1_endsWithTerm_41 (by decide) ?_
    refine lv_icmp_eq (tgt := 49) X.1 X.2.1 dX1_endsWithTerm_42 (by decide) (fun c29 => ?_) (fun c29 => ?_)
    · replace hf := zif_pos c29 hf
      refine lv_iconst (v := 0) X.1 X.2.1 dX1_endsWithTerm_49 (by decide) ?_
      obtain rfl := zi1 hf
      exact ze_retZ X hr hlk (by decide) hW (Nat.le_refl _) (Nat.le_refl _) dX1_endsWithTerm_50
    · replace hf := zif_neg c29 hf
      refine lv_iconst (v := 1) X.1 X.2.1 dX1_endsWithTerm_45 (by decide) ?_
      refine lv_goto (tgt := 50) X.1 X.2.1 dX1_endsWithTerm_46 (by decide) ?_
      obtain rfl := zi1 hf
      exact ze_retZ X hr hlk (by decide) hW (Nat.le_refl _) (Nat.le_refl _) dX1_endsWithTerm_50
end

/-! LeastPatterns$Matcher.sameSymbol(ILLeastPatterns$Matcher;I)Z -/
def f_X1_sameSymbol (F : Nat) (K : zK) (I : zI) (R : zR) (a0 : Nat) (x1 : Int32) (x2 : Option Nat) (x3 : Int32) : Option (Int32) :=
  zbd (some (R a0 1)) fun o1 =>
  zbd (zdr K o1 15) fun a2 =>
  zbd (f_X5_sortOf F K I R a2 x1) fun v5 =>
  if v5 = (0 : Int32) then
    zbd (some (R a0 1)) fun o8 =>
    zbd (zdr K o8 15) fun a9 =>
    zbd (f_X5_headOf F K I R a9 x1) fun v12 =>
    zbd (zdr K x2 11) fun a14 =>
    zbd (some (R a14 1)) fun o17 =>
    zbd (zdr K o17 15) fun a18 =>
    zbd (f_X5_headOf F K I R a18 x3) fun v21 =>
    if v12 = v21 then
      some (1 : Int32)
    else
      some (0 : Int32)
  else
    some (0 : Int32)
section
variable {p : Program} {l : Launch} {e : Env} {s : State} {m : MethodId} {args : Array Value} {below : List Frame} {meth : Method} {c : Code} {D : zD} {B n n0 n' fd ld : Nat} {K K0 K' : zK} {I I' : zI} {R R' : zR} {H : Heap} {locs : List Loc} {ls : Array Slot} {r : Int32}
set_option maxRecDepth 100000 in
set_option maxHeartbeats 4000000 in
theorem c_X1_sameSymbol (l : Launch) (D : zD) (B n : Nat) {F : Nat} {K : zK} {I : zI} {R : zR} {a0 : Nat} {x1 : Int32} {x2 : Option Nat} {x3 : Int32} {r : Int32} (hK0 : (K a0).1 = 11) (hf : f_X1_sameSymbol F K I R a0 x1 x2 x3 = some r) : zM l yX1_sameSymbol cX1_sameSymbol 4 (some .boolean) ({ frames := 2, cells := 0, slots := 0, locals := 61 } : Room) D B n K I R [.ref (B + a0), .int x1, zrf B x2, .int x3] (zQi D (zOwn B K (B + n)) r B n K I R) := by
  refine ze_entry (lv0 := [(0, .ref (B + a0)), (1, .int x1), (2, zrf B x2), (3, .int x3)]) (by decide) (by simp [lg_sl, zcat, zcat_i, zcat_r, zcat_l]) (by simp [lv_args, zcat, zcat_i, zcat_r, zcat_l]) (fun p e s m below meth c X hr hlk hin hW ls hl => ?_)
  unfold f_X1_sameSymbol at hf
  refine lv_aload_n X.1 X.2.1 dX1_sameSymbol_0 rfl (lv_at hl 0 rfl) ?_
  refine ze_gtR X 1 1 18 (RX1, TX1, 8) rfl hf hW hK0 rfl (by decide) kfl_X1_18 dX1_sameSymbol_1 (fun o1 hg => ?_)
  replace hf := hg
  refine lv_iload_n X.1 X.2.1 dX1_sameSymbol_4 rfl (lv_at hl 1 rfl) ?_
  obtain ⟨a2, rfl, k4, hg⟩ := zh_dr hf
  replace hf := hg
  obtain ⟨v5, h6, hg⟩ := zh_bd hf
  replace hf := hg
  refine ze_aftI0 (ze_runV (As := [.int x1]) (rest := []) X 5 48 (c_X5_sortOf l D B n k4 h6) vX5_sortOf kml_X1_48 hW k4 rfl rfl ⟨by decide, by decide⟩ rfl hl.1 rfl (Nat.le_of_ble_eq_true rfl) ⟨Nat.le_refl _, Nat.le_refl _⟩ dX1_sameSymbol_5) hW (fun H locs hV => ?_)
  replace hW := hV
  refine lv_if_ne (tgt := 34) X.1 X.2.1 dX1_sameSymbol_8 (by decide) (fun c7 => ?_) (fun c7 => ?_)
  · replace hf := zif_neg c7 hf
    refine lv_iconst (v := 0) X.1 X.2.1 dX1_sameSymbol_34 (by decide) ?_
    obtain rfl := zi1 hf
    exact ze_retZ X hr hlk (by decide) hW (Nat.le_refl _) (Nat.le_refl _) dX1_sameSymbol_35
  · replace hf := zif_pos c7 hf
    refine lv_aload_n X.1 X.2.1 dX1_sameSymbol_11 rfl (lv_at hl 0 rfl) ?_
    refine ze_gtR X 1 1 18 (RX1, TX1, 8) rfl hf hW hK0 rfl (by decide) kfl_X1_18 dX1_sameSymbol_12 (fun o8 hg => ?_)
    replace hf := hg
    refine lv_iload_n X.1 X.2.1 dX1_sameSymbol_15 rfl (lv_at hl 1 rfl) ?_
    obtain ⟨a9, rfl, k11, hg⟩ := zh_dr hf
    replace hf := hg
    obtain ⟨v12, h13, hg⟩ := zh_bd hf
    replace hf := hg
    refine ze_aftI0 (ze_runV (As := [.int x1]) (rest := []) X 5 66 (c_X5_headOf l D B n k11 h13) vX5_headOf kml_X1_66 hW k11 rfl rfl ⟨by decide, by decide⟩ rfl hl.1 rfl (Nat.le_of_ble_eq_true rfl) ⟨Nat.le_refl _, Nat.le_refl _⟩ dX1_sameSymbol_16) hW (fun H locs hV => ?_)
    replace hW := hV
    refine ze_aload_n X.1 X.2.1 dX1_sameSymbol_19 rfl (lv_at hl 2 rfl) ?_
    obtain ⟨a14, rfl, k16, hg⟩ := zh_dr hf
    replace hf := hg
    refine ze_gtR X 1 1 18 (RX1, TX1, 8) rfl hf hW k16 rfl (by decide) kfl_X1_18 dX1_sameSymbol_20 (fun o17 hg => ?_)
    replace hf := hg
    refine lv_iload_n X.1 X.2.1 dX1_sameSymbol_23 rfl (lv_at hl 3 rfl) ?_
    obtain ⟨a18, rfl, k20, hg⟩ := zh_dr hf
    replace hf := hg
    obtain ⟨v21, h22, hg⟩ := zh_bd hf
    replace hf := hg
    refine ze_aftI0 (ze_runV (As := [.int x3]) (rest := [.int v12]) X 5 66 (c_X5_headOf l D B n k20 h22) vX5_headOf kml_X1_66 hW k20 rfl rfl ⟨by decide, by decide⟩ rfl hl.1 rfl (Nat.le_of_ble_eq_true rfl) ⟨Nat.le_refl _, Nat.le_refl _⟩ dX1_sameSymbol_24) hW (fun H locs hV => ?_)
    replace hW := hV
    refine lv_icmp_ne (tgt := 34) X.1 X.2.1 dX1_sameSymbol_27 (by decide) (fun c23 => ?_) (fun c23 => ?_)
    · replace hf := zif_neg c23 hf
      refine lv_iconst (v := 0) X.1 X.2.1 dX1_sameSymbol_34 (by decide) ?_
      obtain rfl := zi1 hf
      exact ze_retZ X hr hlk (by decide) hW (Nat.le_refl _) (Nat.le_refl _) dX1_sameSymbol_35
    · replace hf := zif_pos c23 hf
      refine lv_iconst (v := 1) X.1 X.2.1 dX1_sameSymbol_30 (by decide) ?_
      refine lv_goto (tgt := 35) X.1 X.2.1 dX1_sameSymbol_31 (by decide) ?_
      obtain rfl := zi1 hf
      exact ze_retZ X hr hlk (by decide) hW (Nat.le_refl _) (Nat.le_refl _) dX1_sameSymbol_35
end

/-! LeastPatterns$Matcher.canNarrow(ILLeastPatterns$Matcher;)Z -/
def f_X1_canNarrow_179 (F : Nat) (K : zK) (I : zI) (R : zR) (a0 : Nat)   : Option (Int32) :=
  some (1 : Int32)
def f_X1_canNarrow_163 (F : Nat) (K : zK) (I : zI) (R : zR) (a0 : Nat)  (x1 : Int32) (x2 : Option Nat) : Option (Int32) :=
  zbd (f_X1_endsWithTerm F K I R a0 x1) fun v1 =>
  if v1 = (0 : Int32) then
    some (0 : Int32)
  else
    zbd (zdr K x2 11) fun a4 =>
    zbd (f_X1_endsWithTerm F K I R a4 x1) fun v7 =>
    if v7 = (0 : Int32) then
      some (0 : Int32)
    else
      f_X1_canNarrow_179 F K I R a0
def f_X1_canNarrow_147 (F : Nat) (K : zK) (I : zI) (R : zR) (a0 : Nat)  (x1 : Int32) (x2 : Option Nat) : Option (Int32) :=
  zbd (f_X1_beginsWithTerm F K I R a0 x1) fun v10 =>
  if v10 = (0 : Int32) then
    f_X1_canNarrow_163 F K I R a0 x1 x2
  else
    zbd (zdr K x2 11) fun a13 =>
    zbd (f_X1_beginsWithTerm F K I R a13 x1) fun v16 =>
    if v16 = (0 : Int32) then
      f_X1_canNarrow_163 F K I R a0 x1 (some a13)
    else
      f_X1_canNarrow_179 F K I R a0
def f_X1_canNarrow (F : Nat) (K : zK) (I : zI) (R : zR) (a0 : Nat) (x1 : Int32) (x2 : Option Nat) : Option (Int32) :=
  zbd (f_X6_outside F K I R x1 (9 : Int32)) fun v19 =>
  if v19 = (0 : Int32) then
    zbd (some (R a0 5)) fun o22 =>
    zbd (zdr K o22 1) fun a23 =>
    zbd (zrd K I a23 x1) fun v26 =>
    zbd (zdr K x2 11) fun a27 =>
    zbd (some (R a27 5)) fun o30 =>
    zbd (zdr K o30 1) fun a31 =>
    zbd (zrd K I a31 x1) fun v34 =>
    zbd (some (R a0 4)) fun o35 =>
    zbd (zdr K o35 1) fun a36 =>
    zbd (zrd K I a36 x1) fun v39 =>
    if v39 = 1 then
      zbd (f_X1_sameSymbol F K I R a0 v26 (some a27) v34) fun v40 =>
      if v40 = (0 : Int32) then
        some (0 : Int32)
      else
        zbd (some (R a0 1)) fun o43 =>
        zbd (zdr K o43 15) fun a44 =>
        zbd (f_X5_argumentsOf F K I R a44 v26) fun v47 =>
        zbd (some (R a27 1)) fun o49 =>
        zbd (zdr K o49 15) fun a50 =>
        zbd (f_X5_argumentsOf F K I R a50 v34) fun v53 =>
        if v47 = v53 then
          zbd (some (R a0 1)) fun o56 =>
          zbd (zdr K o56 15) fun a57 =>
          zbd (f_X5_sequencePlace F K I R a57 v26) fun v60 =>
          if (0 : Int32) ≤ v60 then
            some (0 : Int32)
          else
            zbd (some (R a27 1)) fun o63 =>
            zbd (zdr K o63 15) fun a64 =>
            zbd (f_X5_sequencePlace F K I R a64 v34) fun v67 =>
            if (0 : Int32) ≤ v67 then
              some (0 : Int32)
            else
              some (1 : Int32)
        else
          some (0 : Int32)
    else
    if v39 = 2 then
      zbd (f_X1_sameSymbol F K I R a0 v26 (some a27) v34) fun v71 =>
      if v71 = 0 ∨ v71 = 1 then
      some v71
      else
      none
    else
    if v39 = 3 then
      zbd (some (R a0 7)) fun o75 =>
      zbd (zdr K o75 1) fun a76 =>
      zbd (zrd K I a76 x1) fun v79 =>
      if v79 = (0 : Int32) then
        zbd (some (R a27 7)) fun o81 =>
        zbd (zdr K o81 1) fun a82 =>
        zbd (zrd K I a82 x1) fun v85 =>
        if v85 = (0 : Int32) then
          f_X1_canNarrow_179 F K I R a0
        else
          f_X1_canNarrow_147 F K I R a0 x1 (some a27)
      else
        f_X1_canNarrow_147 F K I R a0 x1 (some a27)
    else
      some (0 : Int32)
  else
    some (0 : Int32)
section
variable {p : Program} {l : Launch} {e : Env} {s : State} {m : MethodId} {args : Array Value} {below : List Frame} {meth : Method} {c : Code} {D : zD} {B n n0 n' fd ld : Nat} {K K0 K' : zK} {I I' : zI} {R R' : zR} {H : Heap} {locs : List Loc} {ls : Array Slot} {r : Int32}
set_option maxRecDepth 100000 in
set_option maxHeartbeats 4000000 in
theorem w_X1_canNarrow_179 {F : Nat} {a0 : Nat}  (X : zX p s m c cX1_canNarrow 5 RX1 D) (hr : meth.sig.returnType = some .boolean) (hlk : meth.locks = false) (hK0 : (K a0).1 = 11)   (hf : f_X1_canNarrow_179 F K I R a0   = some r) (hW : zS (zOwn B K (B + n)) D B n K I R s.heap H locs) (hl : lv_has ls 5 [(0, .ref (B + a0))]) : W p l e ({ frames := 4, cells := 0, slots := 0, locals := 107 } : Room) s m args below meth c H locs 0 0 (MQ below (zQi D (zOwn B K (B + n)) r B n K I R) args s 0 0 (zOwn B K (B + n))) (F0 m 179 ls []) := by
  unfold f_X1_canNarrow_179 at hf
  refine lv_iconst (v := 1) X.1 X.2.1 dX1_canNarrow_179 (by decide) ?_
  refine lv_goto (tgt := 184) X.1 X.2.1 dX1_canNarrow_180 (by decide) ?_
  obtain rfl := zi1 hf
  exact ze_retZ X hr hlk (by decide) hW (Nat.le_refl _) (Nat.le_refl _) dX1_canNarrow_184
set_option maxRecDepth 100000 in
set_option maxHeartbeats 4000000 in
theorem w_X1_canNarrow_163 {F : Nat} {a0 : Nat}  (X : zX p s m c cX1_canNarrow 5 RX1 D) (hr : meth.sig.returnType = some .boolean) (hlk : meth.locks = false) (hK0 : (K a0).1 = 11)  {x1 : Int32} {x2 : Option Nat} (hf : f_X1_canNarrow_163 F K I R a0  x1 x2 = some r) (hW : zS (zOwn B K (B + n)) D B n K I R s.heap H locs) (hl : lv_has ls 5 [(0, .ref (B + a0)), (1, .int x1), (2, zrf B x2)]) : W p l e ({ frames := 4, cells := 0, slots := 0, locals := 107 } : Room) s m args below meth c H locs 0 0 (MQ below (zQi D (zOwn B K (B + n)) r B n K I R) args s 0 0 (zOwn B K (B + n))) (F0 m 163 ls []) := by
  unfold f_X1_canNarrow_163 at hf
  refine lv_aload_n X.1 X.2.1 dX1_canNarrow_163 rfl (lv_at hl 0 rfl) ?_
  refine lv_iload_n X.1 X.2.1 dX1_canNarrow_164 rfl (lv_at hl 1 rfl) ?_
  obtain ⟨v1, h2, hg⟩ := zh_bd hf
  replace hf := hg
  refine ze_aftI0 (ze_runV (As := [.int x1]) (rest := []) X 1 93 (c_X1_endsWithTerm l D B n hK0 h2) vX1_endsWithTerm kml_X1_93 hW hK0 rfl rfl ⟨by decide, by decide⟩ rfl hl.1 rfl (Nat.le_of_ble_eq_true rfl) ⟨Nat.le_refl _, Nat.le_refl _⟩ dX1_canNarrow_165) hW (fun H locs hV => ?_)
  replace hW := hV
  refine lv_if_eq (tgt := 183) X.1 X.2.1 dX1_canNarrow_168 (by decide) (fun c3 => ?_) (fun c3 => ?_)
  · replace hf := zif_pos c3 hf
    refine lv_iconst (v := 0) X.1 X.2.1 dX1_canNarrow_183 (by decide) ?_
    obtain rfl := zi1 hf
    exact ze_retZ X hr hlk (by decide) hW (Nat.le_refl _) (Nat.le_refl _) dX1_canNarrow_184
  · replace hf := zif_neg c3 hf
    refine ze_aload_n X.1 X.2.1 dX1_canNarrow_171 rfl (lv_at hl 2 rfl) ?_
    refine lv_iload_n X.1 X.2.1 dX1_canNarrow_172 rfl (lv_at hl 1 rfl) ?_
    obtain ⟨a4, rfl, k6, hg⟩ := zh_dr hf
    replace hf := hg
    obtain ⟨v7, h8, hg⟩ := zh_bd hf
    replace hf := hg
    refine ze_aftI0 (ze_runV (As := [.int x1]) (rest := []) X 1 93 (c_X1_endsWithTerm l D B n k6 h8) vX1_endsWithTerm kml_X1_93 hW k6 rfl rfl ⟨by decide, by decide⟩ rfl hl.1 rfl (Nat.le_of_ble_eq_true rfl) ⟨Nat.le_refl _, Nat.le_refl _⟩ dX1_canNarrow_173) hW (fun H locs hV => ?_)
    replace hW := hV
    refine lv_if_eq (tgt := 183) X.1 X.2.1 dX1_canNarrow_176 (by decide) (fun c9 => ?_) (fun c9 => ?_)
    · replace hf := zif_pos c9 hf
      refine lv_iconst (v := 0) X.1 X.2.1 dX1_canNarrow_183 (by decide) ?_
      obtain rfl := zi1 hf
      exact ze_retZ X hr hlk (by decide) hW (Nat.le_refl _) (Nat.le_refl _) dX1_canNarrow_184
    · replace hf := zif_neg c9 hf
      exact w_X1_canNarrow_179 X hr hlk hK0 hf hW (lv_sub hl [0] rfl)
set_option maxRecDepth 100000 in
set_option maxHeartbeats 4000000 in
theorem w_X1_canNarrow_147 {F : Nat} {a0 : Nat}  (X : zX p s m c cX1_canNarrow 5 RX1 D) (hr : meth.sig.returnType = some .boolean) (hlk : meth.locks = false) (hK0 : (K a0).1 = 11)  {x1 : Int32} {x2 : Option Nat} (hf : f_X1_canNarrow_147 F K I R a0  x1 x2 = some r) (hW : zS (zOwn B K (B + n)) D B n K I R s.heap H locs) (hl : lv_has ls 5 [(0, .ref (B + a0)), (1, .int x1), (2, zrf B x2)]) : W p l e ({ frames := 4, cells := 0, slots := 0, locals := 107 } : Room) s m args below meth c H locs 0 0 (MQ below (zQi D (zOwn B K (B + n)) r B n K I R) args s 0 0 (zOwn B K (B + n))) (F0 m 147 ls []) := by
  unfold f_X1_canNarrow_147 at hf
  refine lv_aload_n X.1 X.2.1 dX1_canNarrow_147 rfl (lv_at hl 0 rfl) ?_
  refine lv_iload_n X.1 X.2.1 dX1_canNarrow_148 rfl (lv_at hl 1 rfl) ?_
  obtain ⟨v10, h11, hg⟩ := zh_bd hf
  replace hf := hg
  refine ze_aftI0 (ze_runV (As := [.int x1]) (rest := []) X 1 89 (c_X1_beginsWithTerm l D B n hK0 h11) vX1_beginsWithTerm kml_X1_89 hW hK0 rfl rfl ⟨by decide, by decide⟩ rfl hl.1 rfl (Nat.le_of_ble_eq_true rfl) ⟨Nat.le_refl _, Nat.le_refl _⟩ dX1_canNarrow_149) hW (fun H locs hV => ?_)
  replace hW := hV
  refine lv_if_eq (tgt := 163) X.1 X.2.1 dX1_canNarrow_152 (by decide) (fun c12 => ?_) (fun c12 => ?_)
  · replace hf := zif_pos c12 hf
    exact w_X1_canNarrow_163 X hr hlk hK0 hf hW hl
  · replace hf := zif_neg c12 hf
    refine ze_aload_n X.1 X.2.1 dX1_canNarrow_155 rfl (lv_at hl 2 rfl) ?_
    refine lv_iload_n X.1 X.2.1 dX1_canNarrow_156 rfl (lv_at hl 1 rfl) ?_
    obtain ⟨a13, rfl, k15, hg⟩ := zh_dr hf
    replace hf := hg
    obtain ⟨v16, h17, hg⟩ := zh_bd hf
    replace hf := hg
    refine ze_aftI0 (ze_runV (As := [.int x1]) (rest := []) X 1 89 (c_X1_beginsWithTerm l D B n k15 h17) vX1_beginsWithTerm kml_X1_89 hW k15 rfl rfl ⟨by decide, by decide⟩ rfl hl.1 rfl (Nat.le_of_ble_eq_true rfl) ⟨Nat.le_refl _, Nat.le_refl _⟩ dX1_canNarrow_157) hW (fun H locs hV => ?_)
    replace hW := hV
    refine lv_if_ne (tgt := 179) X.1 X.2.1 dX1_canNarrow_160 (by decide) (fun c18 => ?_) (fun c18 => ?_)
    · replace hf := zif_neg c18 hf
      exact w_X1_canNarrow_179 X hr hlk hK0 hf hW (lv_sub hl [0] rfl)
    · replace hf := zif_pos c18 hf
      exact w_X1_canNarrow_163 X hr hlk hK0 hf hW hl
set_option maxRecDepth 100000 in
set_option maxHeartbeats 4000000 in
theorem c_X1_canNarrow (l : Launch) (D : zD) (B n : Nat) {F : Nat} {K : zK} {I : zI} {R : zR} {a0 : Nat} {x1 : Int32} {x2 : Option Nat} {r : Int32} (hK0 : (K a0).1 = 11) (hf : f_X1_canNarrow F K I R a0 x1 x2 = some r) : zM l yX1_canNarrow cX1_canNarrow 5 (some .boolean) ({ frames := 4, cells := 0, slots := 0, locals := 107 } : Room) D B n K I R [.ref (B + a0), .int x1, zrf B x2] (zQi D (zOwn B K (B + n)) r B n K I R) := by
  refine ze_entry (lv0 := [(0, .ref (B + a0)), (1, .int x1), (2, zrf B x2)]) (by decide) (by simp [lg_sl, zcat, zcat_i, zcat_r, zcat_l]) (by simp [lv_args, zcat, zcat_i, zcat_r, zcat_l]) (fun p e s m below meth c X hr hlk hin hW ls hl => ?_)
  unfold f_X1_canNarrow at hf
  refine lv_iload_n X.1 X.2.1 dX1_canNarrow_0 rfl (lv_at hl 1 rfl) ?_
  refine lv_bipush (v := 9) X.1 X.2.1 dX1_canNarrow_1 (by decide) ?_
  obtain ⟨v19, h20, hg⟩ := zh_bd hf
  replace hf := hg
  refine ze_aftI0 (ze_runSN (As := [.int x1, .int (9 : Int32)]) (rest := []) X 78 (c_X6_outside l D B n h20) vX6_outside kml_X1_78 hW ⟨by decide, by decide⟩ rfl hl.1 rfl (Nat.le_of_ble_eq_true rfl) ⟨Nat.le_refl _, Nat.le_refl _⟩ dX1_canNarrow_3) hW (fun H locs hV => ?_)
  replace hW := hV
  refine lv_if_eq (tgt := 11) X.1 X.2.1 dX1_canNarrow_6 (by decide) (fun c21 => ?_) (fun c21 => ?_)
  · replace hf := zif_pos c21 hf
    refine lv_aload_n X.1 X.2.1 dX1_canNarrow_11 rfl (lv_at hl 0 rfl) ?_
    refine ze_gtR X 1 5 31 (RX1, TX1, 8) rfl hf hW hK0 rfl (by decide) kfl_X1_31 dX1_canNarrow_12 (fun o22 hg => ?_)
    replace hf := hg
    refine lv_iload_n X.1 X.2.1 dX1_canNarrow_15 rfl (lv_at hl 1 rfl) ?_
    obtain ⟨a23, rfl, k25, hg⟩ := zh_dr hf
    replace hf := hg
    refine ze_iald X hf hW k25 dX1_canNarrow_16 (fun v26 hg => ?_)
    replace hf := hg
    refine lv_istore_n (i := 3) (lv' := [(3, .int v26), (0, .ref (B + a0)), (1, .int x1), (2, zrf B x2)]) X.1 X.2.1 dX1_canNarrow_17 rfl hl (by decide) (by first | rfl | (simp [zcat, zcat_i, zcat_r, zcat_l, zrf_some]; done) | (simp [zcat, zcat_i, zcat_r, zcat_l, zrf_some]; decide)) (fun ls hk => ?_)
    replace hl := hk
    refine ze_aload_n X.1 X.2.1 dX1_canNarrow_18 rfl (lv_at hl 3 rfl) ?_
    obtain ⟨a27, rfl, k29, hg⟩ := zh_dr hf
    replace hf := hg
    refine ze_gtR X 1 5 31 (RX1, TX1, 8) rfl hf hW k29 rfl (by decide) kfl_X1_31 dX1_canNarrow_19 (fun o30 hg => ?_)
    replace hf := hg
    refine lv_iload_n X.1 X.2.1 dX1_canNarrow_22 rfl (lv_at hl 2 rfl) ?_
    obtain ⟨a31, rfl, k33, hg⟩ := zh_dr hf
    replace hf := hg
    refine ze_iald X hf hW k33 dX1_canNarrow_23 (fun v34 hg => ?_)
    replace hf := hg
    refine lv_istore (lv' := [(4, .int v34), (3, .int v26), (0, .ref (B + a0)), (1, .int x1), (2, .ref (B + a27))]) X.1 X.2.1 dX1_canNarrow_24 hl (by decide) rfl (fun ls hk => ?_)
    replace hl := hk
    refine lv_aload_n X.1 X.2.1 dX1_canNarrow_26 rfl (lv_at hl 2 rfl) ?_
    refine ze_gtR X 1 4 28 (RX1, TX1, 8) rfl hf hW hK0 rfl (by decide) kfl_X1_28 dX1_canNarrow_27 (fun o35 hg => ?_)
    replace hf := hg
    refine lv_iload_n X.1 X.2.1 dX1_canNarrow_30 rfl (lv_at hl 3 rfl) ?_
    obtain ⟨a36, rfl, k38, hg⟩ := zh_dr hf
    replace hf := hg
    refine ze_iald X hf hW k38 dX1_canNarrow_31 (fun v39 hg => ?_)
    replace hf := hg
    by_cases c70 : v39 = 1
    · replace hf := zif_pos c70 hf
      refine lv_tableIn (tgt := 60) X.1 X.2.1 dX1_canNarrow_32 (by rw [c70]; decide) (by rw [c70]; decide) (by rw [c70]; rfl) (by decide) ?_
      refine lv_aload_n X.1 X.2.1 dX1_canNarrow_60 rfl (lv_at hl 2 rfl) ?_
      refine lv_iload_n X.1 X.2.1 dX1_canNarrow_61 rfl (lv_at hl 1 rfl) ?_
      refine lv_aload_n X.1 X.2.1 dX1_canNarrow_62 rfl (lv_at hl 4 rfl) ?_
      refine lv_iload X.1 X.2.1 dX1_canNarrow_63 (lv_at hl 0 rfl) ?_
      obtain ⟨v40, h41, hg⟩ := zh_bd hf
      replace hf := hg
      refine ze_aftI0 (ze_runV (As := [.int v26, .ref (B + a27), .int v34]) (rest := []) X 1 85 (c_X1_sameSymbol l D B n hK0 h41) vX1_sameSymbol kml_X1_85 hW hK0 rfl rfl ⟨by decide, by decide⟩ rfl hl.1 rfl (Nat.le_of_ble_eq_true rfl) ⟨Nat.le_refl _, Nat.le_refl _⟩ dX1_canNarrow_65) hW (fun H locs hV => ?_)
      replace hW := hV
      refine lv_if_eq (tgt := 118) X.1 X.2.1 dX1_canNarrow_68 (by decide) (fun c42 => ?_) (fun c42 => ?_)
      · replace hf := zif_pos c42 hf
        refine lv_iconst (v := 0) X.1 X.2.1 dX1_canNarrow_118 (by decide) ?_
        obtain rfl := zi1 hf
        exact ze_retZ X hr hlk (by decide) hW (Nat.le_refl _) (Nat.le_refl _) dX1_canNarrow_119
      · replace hf := zif_neg c42 hf
        refine lv_aload_n X.1 X.2.1 dX1_canNarrow_71 rfl (lv_at hl 2 rfl) ?_
        refine ze_gtR X 1 1 18 (RX1, TX1, 8) rfl hf hW hK0 rfl (by decide) kfl_X1_18 dX1_canNarrow_72 (fun o43 hg => ?_)
        replace hf := hg
        refine lv_iload_n X.1 X.2.1 dX1_canNarrow_75 rfl (lv_at hl 1 rfl) ?_
        obtain ⟨a44, rfl, k46, hg⟩ := zh_dr hf
        replace hf := hg
        obtain ⟨v47, h48, hg⟩ := zh_bd hf
        replace hf := hg
        refine ze_aftI0 (ze_runV (As := [.int v26]) (rest := []) X 5 69 (c_X5_argumentsOf l D B n k46 h48) vX5_argumentsOf kml_X1_69 hW k46 rfl rfl ⟨by decide, by decide⟩ rfl hl.1 rfl (Nat.le_of_ble_eq_true rfl) ⟨Nat.le_refl _, Nat.le_refl _⟩ dX1_canNarrow_76) hW (fun H locs hV => ?_)
        replace hW := hV
        refine lv_aload_n X.1 X.2.1 dX1_canNarrow_79 rfl (lv_at hl 4 rfl) ?_
        refine ze_gtR X 1 1 18 (RX1, TX1, 8) rfl hf hW k29 rfl (by decide) kfl_X1_18 dX1_canNarrow_80 (fun o49 hg => ?_)
        replace hf := hg
        refine lv_iload X.1 X.2.1 dX1_canNarrow_83 (lv_at hl 0 rfl) ?_
        obtain ⟨a50, rfl, k52, hg⟩ := zh_dr hf
        replace hf := hg
        obtain ⟨v53, h54, hg⟩ := zh_bd hf
        replace hf := hg
        refine ze_aftI0 (ze_runV (As := [.int v34]) (rest := [.int v47]) X 5 69 (c_X5_argumentsOf l D B n k52 h54) vX5_argumentsOf kml_X1_69 hW k52 rfl rfl ⟨by decide, by decide⟩ rfl hl.1 rfl (Nat.le_of_ble_eq_true rfl) ⟨Nat.le_refl _, Nat.le_refl _⟩ dX1_canNarrow_85) hW (fun H locs hV => ?_)
        replace hW := hV
        refine lv_icmp_ne (tgt := 118) X.1 X.2.1 dX1_canNarrow_88 (by decide) (fun c55 => ?_) (fun c55 => ?_)
        · replace hf := zif_neg c55 hf
          refine lv_iconst (v := 0) X.1 X.2.1 dX1_canNarrow_118 (by decide) ?_
          obtain rfl := zi1 hf
          exact ze_retZ X hr hlk (by decide) hW (Nat.le_refl _) (Nat.le_refl _) dX1_canNarrow_119
        · replace hf := zif_pos c55 hf
          refine lv_aload_n X.1 X.2.1 dX1_canNarrow_91 rfl (lv_at hl 2 rfl) ?_
          refine ze_gtR X 1 1 18 (RX1, TX1, 8) rfl hf hW hK0 rfl (by decide) kfl_X1_18 dX1_canNarrow_92 (fun o56 hg => ?_)
          replace hf := hg
          refine lv_iload_n X.1 X.2.1 dX1_canNarrow_95 rfl (lv_at hl 1 rfl) ?_
          obtain ⟨a57, rfl, k59, hg⟩ := zh_dr hf
          replace hf := hg
          obtain ⟨v60, h61, hg⟩ := zh_bd hf
          replace hf := hg
          refine ze_aftI0 (ze_runV (As := [.int v26]) (rest := []) X 5 72 (c_X5_sequencePlace l D B n k59 h61) vX5_sequencePlace kml_X1_72 hW k59 rfl rfl ⟨by decide, by decide⟩ rfl hl.1 rfl (Nat.le_of_ble_eq_true rfl) ⟨Nat.le_refl _, Nat.le_refl _⟩ dX1_canNarrow_96) hW (fun H locs hV => ?_)
          replace hW := hV
          refine lv_if_ge (tgt := 118) X.1 X.2.1 dX1_canNarrow_99 (by decide) (fun c62 => ?_) (fun c62 => ?_)
          · replace hf := zif_pos c62 hf
            refine lv_iconst (v := 0) X.1 X.2.1 dX1_canNarrow_118 (by decide) ?_
            obtain rfl := zi1 hf
            exact ze_retZ X hr hlk (by decide) hW (Nat.le_refl _) (Nat.le_refl _) dX1_canNarrow_119
          · replace hf := zif_neg c62 hf
            refine lv_aload_n X.1 X.2.1 dX1_canNarrow_102 rfl (lv_at hl 4 rfl) ?_
            refine ze_gtR X 1 1 18 (RX1, TX1, 8) rfl hf hW k29 rfl (by decide) kfl_X1_18 dX1_canNarrow_103 (fun o63 hg => ?_)
            replace hf := hg
            refine lv_iload X.1 X.2.1 dX1_canNarrow_106 (lv_at hl 0 rfl) ?_
            obtain ⟨a64, rfl, k66, hg⟩ := zh_dr hf
            replace hf := hg
            obtain ⟨v67, h68, hg⟩ := zh_bd hf
            replace hf := hg
            refine ze_aftI0 (ze_runV (As := [.int v34]) (rest := []) X 5 72 (c_X5_sequencePlace l D B n k66 h68) vX5_sequencePlace kml_X1_72 hW k66 rfl rfl ⟨by decide, by decide⟩ rfl hl.1 rfl (Nat.le_of_ble_eq_true rfl) ⟨Nat.le_refl _, Nat.le_refl _⟩ dX1_canNarrow_108) hW (fun H locs hV => ?_)
            replace hW := hV
            refine lv_if_ge (tgt := 118) X.1 X.2.1 dX1_canNarrow_111 (by decide) (fun c69 => ?_) (fun c69 => ?_)
            · replace hf := zif_pos c69 hf
              refine lv_iconst (v := 0) X.1 X.2.1 dX1_canNarrow_118 (by decide) ?_
              obtain rfl := zi1 hf
              exact ze_retZ X hr hlk (by decide) hW (Nat.le_refl _) (Nat.le_refl _) dX1_canNarrow_119
            · replace hf := zif_neg c69 hf
              refine lv_iconst (v := 1) X.1 X.2.1 dX1_canNarrow_114 (by decide) ?_
              refine lv_goto (tgt := 119) X.1 X.2.1 dX1_canNarrow_115 (by decide) ?_
              obtain rfl := zi1 hf
              exact ze_retZ X hr hlk (by decide) hW (Nat.le_refl _) (Nat.le_refl _) dX1_canNarrow_119
    replace hf := zif_neg c70 hf
    by_cases c74 : v39 = 2
    · replace hf := zif_pos c74 hf
      refine lv_tableIn (tgt := 120) X.1 X.2.1 dX1_canNarrow_32 (by rw [c74]; decide) (by rw [c74]; decide) (by rw [c74]; rfl) (by decide) ?_
      refine lv_aload_n X.1 X.2.1 dX1_canNarrow_120 rfl (lv_at hl 2 rfl) ?_
      refine lv_iload_n X.1 X.2.1 dX1_canNarrow_121 rfl (lv_at hl 1 rfl) ?_
      refine lv_aload_n X.1 X.2.1 dX1_canNarrow_122 rfl (lv_at hl 4 rfl) ?_
      refine lv_iload X.1 X.2.1 dX1_canNarrow_123 (lv_at hl 0 rfl) ?_
      obtain ⟨v71, h72, hg⟩ := zh_bd hf
      replace hf := hg
      refine ze_aftI0 (ze_runV (As := [.int v26, .ref (B + a27), .int v34]) (rest := []) X 1 85 (c_X1_sameSymbol l D B n hK0 h72) vX1_sameSymbol kml_X1_85 hW hK0 rfl rfl ⟨by decide, by decide⟩ rfl hl.1 rfl (Nat.le_of_ble_eq_true rfl) ⟨Nat.le_refl _, Nat.le_refl _⟩ dX1_canNarrow_125) hW (fun H locs hV => ?_)
      replace hW := hV
      obtain ⟨hv73, hg⟩ := zh_if hf
      replace hf := hg
      obtain rfl := zi1 hf
      exact ze_retZ X hr hlk hv73 hW (Nat.le_refl _) (Nat.le_refl _) dX1_canNarrow_128
    replace hf := zif_neg c74 hf
    by_cases c87 : v39 = 3
    · replace hf := zif_pos c87 hf
      refine lv_tableIn (tgt := 129) X.1 X.2.1 dX1_canNarrow_32 (by rw [c87]; decide) (by rw [c87]; decide) (by rw [c87]; rfl) (by decide) ?_
      refine lv_aload_n X.1 X.2.1 dX1_canNarrow_129 rfl (lv_at hl 2 rfl) ?_
      refine ze_gtR X 1 7 37 (RX1, TX1, 8) rfl hf hW hK0 rfl (by decide) kfl_X1_37 dX1_canNarrow_130 (fun o75 hg => ?_)
      replace hf := hg
      refine lv_iload_n X.1 X.2.1 dX1_canNarrow_133 rfl (lv_at hl 3 rfl) ?_
      obtain ⟨a76, rfl, k78, hg⟩ := zh_dr hf
      replace hf := hg
      refine ze_iald X hf hW k78 dX1_canNarrow_134 (fun v79 hg => ?_)
      replace hf := hg
      refine lv_if_ne (tgt := 147) X.1 X.2.1 dX1_canNarrow_135 (by decide) (fun c80 => ?_) (fun c80 => ?_)
      · replace hf := zif_neg c80 hf
        exact w_X1_canNarrow_147 X hr hlk hK0 hf hW (lv_sub hl [2, 3, 4] rfl)
      · replace hf := zif_pos c80 hf
        refine lv_aload_n X.1 X.2.1 dX1_canNarrow_138 rfl (lv_at hl 4 rfl) ?_
        refine ze_gtR X 1 7 37 (RX1, TX1, 8) rfl hf hW k29 rfl (by decide) kfl_X1_37 dX1_canNarrow_139 (fun o81 hg => ?_)
        replace hf := hg
        refine lv_iload_n X.1 X.2.1 dX1_canNarrow_142 rfl (lv_at hl 3 rfl) ?_
        obtain ⟨a82, rfl, k84, hg⟩ := zh_dr hf
        replace hf := hg
        refine ze_iald X hf hW k84 dX1_canNarrow_143 (fun v85 hg => ?_)
        replace hf := hg
        refine lv_if_eq (tgt := 179) X.1 X.2.1 dX1_canNarrow_144 (by decide) (fun c86 => ?_) (fun c86 => ?_)
        · replace hf := zif_pos c86 hf
          exact w_X1_canNarrow_179 X hr hlk hK0 hf hW (lv_sub hl [2] rfl)
        · replace hf := zif_neg c86 hf
          exact w_X1_canNarrow_147 X hr hlk hK0 hf hW (lv_sub hl [2, 3, 4] rfl)
    replace hf := zif_neg c87 hf
    refine lv_tableOut (tgt := 185) X.1 X.2.1 dX1_canNarrow_32 ?_ (by decide) ?_
    · have hne : ∀ k : Int32, ¬ v39 = k → v39.toInt ≠ k.toInt := fun k h q => h (Int32.toInt_inj.mp q)
      have qc70 := hne 1 c70
      have qc74 := hne 2 c74
      have qc87 := hne 3 c87
      simp at qc70 qc74 qc87
      omega
    · refine lv_iconst (v := 0) X.1 X.2.1 dX1_canNarrow_185 (by decide) ?_
      obtain rfl := zi1 hf
      exact ze_retZ X hr hlk (by decide) hW (Nat.le_refl _) (Nat.le_refl _) dX1_canNarrow_186
  · replace hf := zif_neg c21 hf
    refine lv_iconst (v := 0) X.1 X.2.1 dX1_canNarrow_9 (by decide) ?_
    obtain rfl := zi1 hf
    exact ze_retZ X hr hlk (by decide) hW (Nat.le_refl _) (Nat.le_refl _) dX1_canNarrow_10
end

/-! LeastPatterns.isLeast(III)I -/
def g_X6_isLeast_104 (F : Nat) (K : zK) (a0 : Nat)  (kself : zI → zR → Int32 → Option (Int32 × zI × zR)) (I : zI) (R : zR) (x7 : Int32) : Option (Int32 × zI × zR) :=
  if (10 : Int32) ≤ x7 then
    some ((1 : Int32), I, R)
  else
    zbd (some (R a0 9)) fun o2 =>
    zbd (some (R a0 10)) fun o3 =>
    zbd (zdr K o2 11) fun a4 =>
    zbd (f_X1_canNarrow F K I R a4 x7 o3) fun v7 =>
    if v7 = (0 : Int32) then
      zbd (some (R a0 9)) fun o10 =>
      zbd (some (R a0 10)) fun o11 =>
      zbd (zdr K o10 11) fun a12 =>
      zbd (f_X1_canMerge F K I R a12 x7 o11) fun v15 =>
      if v15 = (0 : Int32) then
        kself I R (x7 + (1 : Int32))
      else
        some ((0 : Int32), I, R)
    else
      some ((0 : Int32), I, R)
def f_X6_isLeast_104 (F : Nat) (K : zK) (a0 : Nat)  : Nat → zI → zR → Int32 → Option (Int32 × zI × zR)
  | 0, _, _, _ => none
  | t + 1, I, R, x7 => g_X6_isLeast_104 F K a0  (f_X6_isLeast_104 F K a0  t) I R x7
def f_X6_isLeast (F : Nat) (K : zK) (I : zI) (R : zR) (a0 : Nat) (x1 : Int32) (x2 : Int32) (x3 : Int32) : Option (Int32 × zI × zR) :=
  zbd (f_X6_noRegister F K I R x1) fun v18 =>
  if v18 = (0 : Int32) then
    zbd (f_X6_noRegister F K I R x2) fun v21 =>
    if v21 = (0 : Int32) then
      zbd (f_X6_noRegister F K I R x3) fun v24 =>
      if v24 = (0 : Int32) then
        zbd (some (R a0 3)) fun o27 =>
        zbd (zdr K o27 14) fun a28 =>
        zbd (f_X4_term F K I R a28 x1) fun o31 =>
        zbd (some (R a0 3)) fun o33 =>
        zbd (zdr K o33 14) fun a34 =>
        zbd (f_X4_term F K I R a34 x2) fun o37 =>
        zbd (some (R a0 3)) fun o39 =>
        zbd (zdr K o39 14) fun a40 =>
        zbd (f_X4_term F K I R a40 x3) fun o43 =>
        zcs o31 (
          some ((-2 : Int32), I, R)
        ) fun a45 =>
          zcs o37 (
            some ((-2 : Int32), I, R)
          ) fun a47 =>
            zcs o43 (
              some ((-2 : Int32), I, R)
            ) fun a49 =>
              zbd (some (R a0 9)) fun o51 =>
              zbd (zdr K o51 11) fun a52 =>
              zbd3 (f_X1_matches F K I R a52 (some a45) (some a47)) fun v55 I56 R57 =>
              if v55 = (0 : Int32) then
                some ((0 : Int32), I56, R57)
              else
                zbd (some (R57 a0 10)) fun o60 =>
                zbd (zdr K o60 11) fun a61 =>
                zbd3 (f_X1_matches F K I56 R57 a61 (some a45) (some a49)) fun v64 I65 R66 =>
                if v64 = (0 : Int32) then
                  some ((0 : Int32), I65, R66)
                else
                  f_X6_isLeast_104 F K a0 F I65 R66 (0 : Int32)
      else
        some ((-1 : Int32), I, R)
    else
      some ((-1 : Int32), I, R)
  else
    some ((-1 : Int32), I, R)
section
variable {p : Program} {l : Launch} {e : Env} {s : State} {m : MethodId} {args : Array Value} {below : List Frame} {meth : Method} {c : Code} {D : zD} {B n n0 n' fd ld : Nat} {K K0 K' : zK} {I I' : zI} {R R' : zR} {H : Heap} {locs : List Loc} {ls : Array Slot} {r : Int32}
set_option maxRecDepth 100000 in
set_option maxHeartbeats 4000000 in
theorem wg_X6_isLeast_104 {F : Nat} {a0 : Nat}  (X : zX p s m c cX6_isLeast 8 RX6 D) (hr : meth.sig.returnType = some .int) (hlk : meth.locks = false) (hK0 : (K a0).1 = 16)  {kself : zI → zR → Int32 → Option (Int32 × zI × zR)} (hkself : ∀ (I : zI) (R : zR) (x7 : Int32) (H : Heap) (locs : List Loc) (ls : Array Slot), kself I R x7 = some (r, I', R') → zS (zOwn B K (B + n)) D B n K I R s.heap H locs → lv_has ls 8 [(0, .ref (B + a0)), (7, .int x7)] → W p l e ({ frames := 6, cells := 0, slots := 0, locals := 159 } : Room) s m args below meth c H locs 0 0 (MQ below (zQi D (zOwn B K (B + n)) r B n K I' R') args s 0 0 (zOwn B K (B + n))) (F0 m 104 ls [])) {x7 : Int32} (hf : g_X6_isLeast_104 F K a0  kself I R x7 = some (r, I', R')) (hW : zS (zOwn B K (B + n)) D B n K I R s.heap H locs) (hl : lv_has ls 8 [(0, .ref (B + a0)), (7, .int x7)]) : W p l e ({ frames := 6, cells := 0, slots := 0, locals := 159 } : Room) s m args below meth c H locs 0 0 (MQ below (zQi D (zOwn B K (B + n)) r B n K I' R') args s 0 0 (zOwn B K (B + n))) (F0 m 104 ls []) := by
  unfold g_X6_isLeast_104 at hf
  refine lv_iload X.1 X.2.1 dX6_isLeast_104 (lv_at hl 1 rfl) ?_
  refine lv_bipush (v := 10) X.1 X.2.1 dX6_isLeast_106 (by decide) ?_
  refine lv_icmp_ge (tgt := 151) X.1 X.2.1 dX6_isLeast_108 (by decide) (fun c1 => ?_) (fun c1 => ?_)
  · replace hf := zif_pos c1 hf
    refine lv_iconst (v := 1) X.1 X.2.1 dX6_isLeast_151 (by decide) ?_
    obtain ⟨rfl, rfl, rfl⟩ := zi3 hf
    exact ze_retI X hr hlk hW (Nat.le_refl _) (Nat.le_refl _) dX6_isLeast_152
  · replace hf := zif_neg c1 hf
    refine lv_aload_n X.1 X.2.1 dX6_isLeast_111 rfl (lv_at hl 0 rfl) ?_
    refine ze_gtR X 6 9 58 (RX6, TX6, 11) rfl hf hW hK0 rfl (by decide) kfl_X6_58 dX6_isLeast_112 (fun o2 hg => ?_)
    replace hf := hg
    refine lv_iload X.1 X.2.1 dX6_isLeast_115 (lv_at hl 1 rfl) ?_
    refine lv_aload_n X.1 X.2.1 dX6_isLeast_117 rfl (lv_at hl 0 rfl) ?_
    refine ze_gtR X 6 10 62 (RX6, TX6, 11) rfl hf hW hK0 rfl (by decide) kfl_X6_62 dX6_isLeast_118 (fun o3 hg => ?_)
    replace hf := hg
    obtain ⟨a4, rfl, k6, hg⟩ := zh_dr hf
    replace hf := hg
    obtain ⟨v7, h8, hg⟩ := zh_bd hf
    replace hf := hg
    refine ze_aftI0 (ze_runV (As := [.int x7, zrf B o3]) (rest := []) X 1 174 (c_X1_canNarrow l D B n k6 h8) vX1_canNarrow kml_X6_174 hW k6 rfl rfl ⟨by decide, by decide⟩ rfl hl.1 rfl (Nat.le_of_ble_eq_true rfl) ⟨Nat.le_refl _, Nat.le_refl _⟩ dX6_isLeast_121) hW (fun H locs hV => ?_)
    replace hW := hV
    refine lv_if_ne (tgt := 143) X.1 X.2.1 dX6_isLeast_124 (by decide) (fun c9 => ?_) (fun c9 => ?_)
    · replace hf := zif_neg c9 hf
      refine lv_iconst (v := 0) X.1 X.2.1 dX6_isLeast_143 (by decide) ?_
      obtain ⟨rfl, rfl, rfl⟩ := zi3 hf
      exact ze_retI X hr hlk hW (Nat.le_refl _) (Nat.le_refl _) dX6_isLeast_144
    · replace hf := zif_pos c9 hf
      refine lv_aload_n X.1 X.2.1 dX6_isLeast_127 rfl (lv_at hl 0 rfl) ?_
      refine ze_gtR X 6 9 58 (RX6, TX6, 11) rfl hf hW hK0 rfl (by decide) kfl_X6_58 dX6_isLeast_128 (fun o10 hg => ?_)
      replace hf := hg
      refine lv_iload X.1 X.2.1 dX6_isLeast_131 (lv_at hl 1 rfl) ?_
      refine lv_aload_n X.1 X.2.1 dX6_isLeast_133 rfl (lv_at hl 0 rfl) ?_
      refine ze_gtR X 6 10 62 (RX6, TX6, 11) rfl hf hW hK0 rfl (by decide) kfl_X6_62 dX6_isLeast_134 (fun o11 hg => ?_)
      replace hf := hg
      obtain ⟨a12, rfl, k14, hg⟩ := zh_dr hf
      replace hf := hg
      obtain ⟨v15, h16, hg⟩ := zh_bd hf
      replace hf := hg
      refine ze_aftI0 (ze_runV (As := [.int x7, zrf B o11]) (rest := []) X 1 178 (c_X1_canMerge l D B n k14 h16) vX1_canMerge kml_X6_178 hW k14 rfl rfl ⟨by decide, by decide⟩ rfl hl.1 rfl (Nat.le_of_ble_eq_true rfl) ⟨Nat.le_refl _, Nat.le_refl _⟩ dX6_isLeast_137) hW (fun H locs hV => ?_)
      replace hW := hV
      refine lv_if_eq (tgt := 145) X.1 X.2.1 dX6_isLeast_140 (by decide) (fun c17 => ?_) (fun c17 => ?_)
      · replace hf := zif_pos c17 hf
        refine ze_iinc (lv' := [(7, .int (x7 + (1 : Int32))), (0, .ref (B + a0))]) (d := 1) X.1 X.2.1 dX6_isLeast_145 hl (k := 1) rfl (by decide) (by decide) rfl (fun ls hk => ?_)
        replace hl := hk
        refine lv_goto (tgt := 104) X.1 X.2.1 dX6_isLeast_148 (by decide) ?_
        exact hkself _ _ _ _ _ _ hf hW (lv_sub hl [1, 0] rfl)
      · replace hf := zif_neg c17 hf
        refine lv_iconst (v := 0) X.1 X.2.1 dX6_isLeast_143 (by decide) ?_
        obtain ⟨rfl, rfl, rfl⟩ := zi3 hf
        exact ze_retI X hr hlk hW (Nat.le_refl _) (Nat.le_refl _) dX6_isLeast_144
set_option maxRecDepth 100000 in
set_option maxHeartbeats 4000000 in
theorem w_X6_isLeast_104 {F : Nat} {a0 : Nat}  (X : zX p s m c cX6_isLeast 8 RX6 D) (hr : meth.sig.returnType = some .int) (hlk : meth.locks = false) (hK0 : (K a0).1 = 16)  {t : Nat} {x7 : Int32} (hf : f_X6_isLeast_104 F K a0  t I R x7 = some (r, I', R')) (hW : zS (zOwn B K (B + n)) D B n K I R s.heap H locs) (hl : lv_has ls 8 [(0, .ref (B + a0)), (7, .int x7)]) : W p l e ({ frames := 6, cells := 0, slots := 0, locals := 159 } : Room) s m args below meth c H locs 0 0 (MQ below (zQi D (zOwn B K (B + n)) r B n K I' R') args s 0 0 (zOwn B K (B + n))) (F0 m 104 ls []) := by
  have key : ∀ t : Nat, ∀ (I : zI) (R : zR) (x7 : Int32) (H : Heap) (locs : List Loc) (ls : Array Slot), f_X6_isLeast_104 F K a0  t I R x7 = some (r, I', R') → zS (zOwn B K (B + n)) D B n K I R s.heap H locs → lv_has ls 8 [(0, .ref (B + a0)), (7, .int x7)] → W p l e ({ frames := 6, cells := 0, slots := 0, locals := 159 } : Room) s m args below meth c H locs 0 0 (MQ below (zQi D (zOwn B K (B + n)) r B n K I' R') args s 0 0 (zOwn B K (B + n))) (F0 m 104 ls []) := by
    intro t
    induction t with
    | zero =>
      intro I R x7 H locs ls hf hW hl
      cases hf
    | succ t ih =>
      intro I R x7 H locs ls hf hW hl
      exact wg_X6_isLeast_104 X hr hlk hK0  ih hf hW hl
  exact key t _ _ _ _ _ _ hf hW hl
set_option maxRecDepth 100000 in
set_option maxHeartbeats 4000000 in
theorem c_X6_isLeast (l : Launch) (D : zD) (B n : Nat) {F : Nat} {K : zK} {I : zI} {R : zR} {a0 : Nat} {x1 : Int32} {x2 : Int32} {x3 : Int32} {r : Int32} {I' : zI} {R' : zR} (hK0 : (K a0).1 = 16) (hf : f_X6_isLeast F K I R a0 x1 x2 x3 = some (r, I', R')) : zM l yX6_isLeast cX6_isLeast 8 (some .int) ({ frames := 6, cells := 0, slots := 0, locals := 159 } : Room) D B n K I R [.ref (B + a0), .int x1, .int x2, .int x3] (zQi D (zOwn B K (B + n)) r B n K I' R') := by
  refine ze_entry (lv0 := [(0, .ref (B + a0)), (1, .int x1), (2, .int x2), (3, .int x3)]) (by decide) (by simp [lg_sl, zcat, zcat_i, zcat_r, zcat_l]) (by simp [lv_args, zcat, zcat_i, zcat_r, zcat_l]) (fun p e s m below meth c X hr hlk hin hW ls hl => ?_)
  unfold f_X6_isLeast at hf
  refine lv_iload_n X.1 X.2.1 dX6_isLeast_0 rfl (lv_at hl 1 rfl) ?_
  obtain ⟨v18, h19, hg⟩ := zh_bd hf
  replace hf := hg
  refine ze_aftI0 (ze_runS (As := [.int x1]) (rest := []) X 69 (c_X6_noRegister l D B n h19) vX6_noRegister kml_X6_69 hW ⟨by decide, by decide⟩ rfl hl.1 rfl (Nat.le_of_ble_eq_true rfl) ⟨Nat.le_refl _, Nat.le_refl _⟩ dX6_isLeast_1) hW (fun H locs hV => ?_)
  replace hW := hV
  refine lv_if_ne (tgt := 21) X.1 X.2.1 dX6_isLeast_4 (by decide) (fun c20 => ?_) (fun c20 => ?_)
  · replace hf := zif_neg c20 hf
    refine lv_iconst (v := -1) X.1 X.2.1 dX6_isLeast_21 (by decide) ?_
    obtain ⟨rfl, rfl, rfl⟩ := zi3 hf
    exact ze_retI X hr hlk hW (Nat.le_refl _) (Nat.le_refl _) dX6_isLeast_22
  · replace hf := zif_pos c20 hf
    refine lv_iload_n X.1 X.2.1 dX6_isLeast_7 rfl (lv_at hl 2 rfl) ?_
    obtain ⟨v21, h22, hg⟩ := zh_bd hf
    replace hf := hg
    refine ze_aftI0 (ze_runS (As := [.int x2]) (rest := []) X 69 (c_X6_noRegister l D B n h22) vX6_noRegister kml_X6_69 hW ⟨by decide, by decide⟩ rfl hl.1 rfl (Nat.le_of_ble_eq_true rfl) ⟨Nat.le_refl _, Nat.le_refl _⟩ dX6_isLeast_8) hW (fun H locs hV => ?_)
    replace hW := hV
    refine lv_if_ne (tgt := 21) X.1 X.2.1 dX6_isLeast_11 (by decide) (fun c23 => ?_) (fun c23 => ?_)
    · replace hf := zif_neg c23 hf
      refine lv_iconst (v := -1) X.1 X.2.1 dX6_isLeast_21 (by decide) ?_
      obtain ⟨rfl, rfl, rfl⟩ := zi3 hf
      exact ze_retI X hr hlk hW (Nat.le_refl _) (Nat.le_refl _) dX6_isLeast_22
    · replace hf := zif_pos c23 hf
      refine lv_iload_n X.1 X.2.1 dX6_isLeast_14 rfl (lv_at hl 3 rfl) ?_
      obtain ⟨v24, h25, hg⟩ := zh_bd hf
      replace hf := hg
      refine ze_aftI0 (ze_runS (As := [.int x3]) (rest := []) X 69 (c_X6_noRegister l D B n h25) vX6_noRegister kml_X6_69 hW ⟨by decide, by decide⟩ rfl hl.1 rfl (Nat.le_of_ble_eq_true rfl) ⟨Nat.le_refl _, Nat.le_refl _⟩ dX6_isLeast_15) hW (fun H locs hV => ?_)
      replace hW := hV
      refine lv_if_eq (tgt := 23) X.1 X.2.1 dX6_isLeast_18 (by decide) (fun c26 => ?_) (fun c26 => ?_)
      · replace hf := zif_pos c26 hf
        refine lv_aload_n X.1 X.2.1 dX6_isLeast_23 rfl (lv_at hl 0 rfl) ?_
        refine ze_gtR X 6 3 23 (RX6, TX6, 11) rfl hf hW hK0 rfl (by decide) kfl_X6_23 dX6_isLeast_24 (fun o27 hg => ?_)
        replace hf := hg
        refine lv_iload_n X.1 X.2.1 dX6_isLeast_27 rfl (lv_at hl 1 rfl) ?_
        obtain ⟨a28, rfl, k30, hg⟩ := zh_dr hf
        replace hf := hg
        obtain ⟨o31, h32, hg⟩ := zh_bd hf
        replace hf := hg
        refine ze_aftQ0 (ze_runV (As := [.int x1]) (rest := []) X 4 107 (c_X4_term l D B n k30 h32) vX4_term kml_X6_107 hW k30 rfl rfl ⟨by decide, by decide⟩ rfl hl.1 rfl (Nat.le_of_ble_eq_true rfl) ⟨Nat.le_refl _, Nat.le_refl _⟩ dX6_isLeast_28) hW (fun H locs hV => ?_)
        replace hW := hV
        refine ze_astore (lv' := [(4, zrf B o31), (0, .ref (B + a0)), (1, .int x1), (2, .int x2), (3, .int x3)]) X.1 X.2.1 dX6_isLeast_31 hl (by decide) rfl (fun ls hk => ?_)
        replace hl := hk
        refine lv_aload_n X.1 X.2.1 dX6_isLeast_33 rfl (lv_at hl 1 rfl) ?_
        refine ze_gtR X 6 3 23 (RX6, TX6, 11) rfl hf hW hK0 rfl (by decide) kfl_X6_23 dX6_isLeast_34 (fun o33 hg => ?_)
        replace hf := hg
        refine lv_iload_n X.1 X.2.1 dX6_isLeast_37 rfl (lv_at hl 3 rfl) ?_
        obtain ⟨a34, rfl, k36, hg⟩ := zh_dr hf
        replace hf := hg
        obtain ⟨o37, h38, hg⟩ := zh_bd hf
        replace hf := hg
        refine ze_aftQ0 (ze_runV (As := [.int x2]) (rest := []) X 4 107 (c_X4_term l D B n k36 h38) vX4_term kml_X6_107 hW k36 rfl rfl ⟨by decide, by decide⟩ rfl hl.1 rfl (Nat.le_of_ble_eq_true rfl) ⟨Nat.le_refl _, Nat.le_refl _⟩ dX6_isLeast_38) hW (fun H locs hV => ?_)
        replace hW := hV
        refine ze_astore (lv' := [(5, zrf B o37), (4, zrf B o31), (0, .ref (B + a0)), (1, .int x1), (2, .int x2), (3, .int x3)]) X.1 X.2.1 dX6_isLeast_41 hl (by decide) (by first | rfl | (simp [zcat, zcat_i, zcat_r, zcat_l, zrf_some]; done) | (simp [zcat, zcat_i, zcat_r, zcat_l, zrf_some]; decide)) (fun ls hk => ?_)
        replace hl := hk
        refine lv_aload_n X.1 X.2.1 dX6_isLeast_43 rfl (lv_at hl 2 rfl) ?_
        refine ze_gtR X 6 3 23 (RX6, TX6, 11) rfl hf hW hK0 rfl (by decide) kfl_X6_23 dX6_isLeast_44 (fun o39 hg => ?_)
        replace hf := hg
        refine lv_iload_n X.1 X.2.1 dX6_isLeast_47 rfl (lv_at hl 5 rfl) ?_
        obtain ⟨a40, rfl, k42, hg⟩ := zh_dr hf
        replace hf := hg
        obtain ⟨o43, h44, hg⟩ := zh_bd hf
        replace hf := hg
        refine ze_aftQ0 (ze_runV (As := [.int x3]) (rest := []) X 4 107 (c_X4_term l D B n k42 h44) vX4_term kml_X6_107 hW k42 rfl rfl ⟨by decide, by decide⟩ rfl hl.1 rfl (Nat.le_of_ble_eq_true rfl) ⟨Nat.le_refl _, Nat.le_refl _⟩ dX6_isLeast_48) hW (fun H locs hV => ?_)
        replace hW := hV
        refine ze_astore (lv' := [(6, zrf B o43), (5, zrf B o37), (4, zrf B o31), (0, .ref (B + a0)), (1, .int x1), (2, .int x2), (3, .int x3)]) X.1 X.2.1 dX6_isLeast_51 hl (by decide) (by first | rfl | (simp [zcat, zcat_i, zcat_r, zcat_l, zrf_some]; done) | (simp [zcat, zcat_i, zcat_r, zcat_l, zrf_some]; decide)) (fun ls hk => ?_)
        replace hl := hk
        refine ze_aload X.1 X.2.1 dX6_isLeast_53 (lv_at hl 2 rfl) ?_
        refine ze_ifnull (tgt := 68) X.1 X.2.1 dX6_isLeast_55 (by decide) (fun c46 => ?_) (fun a45 c46 => ?_)
        · replace hf := zcs_none c46 hf
          subst c46
          refine lv_bipush (v := -2) X.1 X.2.1 dX6_isLeast_68 (by decide) ?_
          obtain ⟨rfl, rfl, rfl⟩ := zi3 hf
          exact ze_retI X hr hlk hW (Nat.le_refl _) (Nat.le_refl _) dX6_isLeast_70
        · replace hf := zcs_some c46 hf
          subst c46
          refine ze_aload X.1 X.2.1 dX6_isLeast_58 (lv_at hl 1 rfl) ?_
          refine ze_ifnull (tgt := 68) X.1 X.2.1 dX6_isLeast_60 (by decide) (fun c48 => ?_) (fun a47 c48 => ?_)
          · replace hf := zcs_none c48 hf
            subst c48
            refine lv_bipush (v := -2) X.1 X.2.1 dX6_isLeast_68 (by decide) ?_
            obtain ⟨rfl, rfl, rfl⟩ := zi3 hf
            exact ze_retI X hr hlk hW (Nat.le_refl _) (Nat.le_refl _) dX6_isLeast_70
          · replace hf := zcs_some c48 hf
            subst c48
            refine ze_aload X.1 X.2.1 dX6_isLeast_63 (lv_at hl 0 rfl) ?_
            refine ze_ifnonnull (tgt := 71) X.1 X.2.1 dX6_isLeast_65 (by decide) (fun a49 c50 => ?_) (fun c50 => ?_)
            · replace hf := zcs_some c50 hf
              subst c50
              refine lv_aload_n X.1 X.2.1 dX6_isLeast_71 rfl (lv_at hl 3 rfl) ?_
              refine ze_gtR X 6 9 58 (RX6, TX6, 11) rfl hf hW hK0 rfl (by decide) kfl_X6_58 dX6_isLeast_72 (fun o51 hg => ?_)
              replace hf := hg
              refine lv_aload X.1 X.2.1 dX6_isLeast_75 (lv_at hl 2 rfl) ?_
              refine lv_aload X.1 X.2.1 dX6_isLeast_77 (lv_at hl 1 rfl) ?_
              obtain ⟨a52, rfl, k54, hg⟩ := zh_dr hf
              replace hf := hg
              obtain ⟨v55, I56, R57, h58, hg⟩ := zh_bd3 hf
              replace hf := hg
              refine ze_aftI0 (ze_runV (As := [.ref (B + a45), .ref (B + a47)]) (rest := []) X 1 167 (c_X1_matches l D B n k54 h58) vX1_matches kml_X6_167 hW k54 rfl rfl ⟨by decide, by decide⟩ rfl hl.1 rfl (Nat.le_of_ble_eq_true rfl) ⟨Nat.le_refl _, Nat.le_refl _⟩ dX6_isLeast_79) hW (fun H locs hV => ?_)
              replace hW := hV
              refine lv_if_eq (tgt := 99) X.1 X.2.1 dX6_isLeast_82 (by decide) (fun c59 => ?_) (fun c59 => ?_)
              · replace hf := zif_pos c59 hf
                refine lv_iconst (v := 0) X.1 X.2.1 dX6_isLeast_99 (by decide) ?_
                obtain ⟨rfl, rfl, rfl⟩ := zi3 hf
                exact ze_retI X hr hlk hW (Nat.le_refl _) (Nat.le_refl _) dX6_isLeast_100
              · replace hf := zif_neg c59 hf
                refine lv_aload_n X.1 X.2.1 dX6_isLeast_85 rfl (lv_at hl 3 rfl) ?_
                refine ze_gtR X 6 10 62 (RX6, TX6, 11) rfl hf hW hK0 rfl (by decide) kfl_X6_62 dX6_isLeast_86 (fun o60 hg => ?_)
                replace hf := hg
                refine lv_aload X.1 X.2.1 dX6_isLeast_89 (lv_at hl 2 rfl) ?_
                refine lv_aload X.1 X.2.1 dX6_isLeast_91 (lv_at hl 0 rfl) ?_
                obtain ⟨a61, rfl, k63, hg⟩ := zh_dr hf
                replace hf := hg
                obtain ⟨v64, I65, R66, h67, hg⟩ := zh_bd3 hf
                replace hf := hg
                refine ze_aftI0 (ze_runV (As := [.ref (B + a45), .ref (B + a49)]) (rest := []) X 1 167 (c_X1_matches l D B n k63 h67) vX1_matches kml_X6_167 hW k63 rfl rfl ⟨by decide, by decide⟩ rfl hl.1 rfl (Nat.le_of_ble_eq_true rfl) ⟨Nat.le_refl _, Nat.le_refl _⟩ dX6_isLeast_93) hW (fun H locs hV => ?_)
                replace hW := hV
                refine lv_if_ne (tgt := 101) X.1 X.2.1 dX6_isLeast_96 (by decide) (fun c68 => ?_) (fun c68 => ?_)
                · replace hf := zif_neg c68 hf
                  refine lv_iconst (v := 0) X.1 X.2.1 dX6_isLeast_101 (by decide) ?_
                  refine lv_istore (lv' := [(7, .int (0 : Int32)), (6, .ref (B + a49)), (5, .ref (B + a47)), (4, .ref (B + a45)), (0, .ref (B + a0)), (1, .int x1), (2, .int x2), (3, .int x3)]) X.1 X.2.1 dX6_isLeast_102 hl (by decide) rfl (fun ls hk => ?_)
                  replace hl := hk
                  exact w_X6_isLeast_104 X hr hlk hK0 hf hW (lv_sub hl [4, 0] rfl)
                · replace hf := zif_pos c68 hf
                  refine lv_iconst (v := 0) X.1 X.2.1 dX6_isLeast_99 (by decide) ?_
                  obtain ⟨rfl, rfl, rfl⟩ := zi3 hf
                  exact ze_retI X hr hlk hW (Nat.le_refl _) (Nat.le_refl _) dX6_isLeast_100
            · replace hf := zcs_none c50 hf
              subst c50
              refine lv_bipush (v := -2) X.1 X.2.1 dX6_isLeast_68 (by decide) ?_
              obtain ⟨rfl, rfl, rfl⟩ := zi3 hf
              exact ze_retI X hr hlk hW (Nat.le_refl _) (Nat.le_refl _) dX6_isLeast_70
      · replace hf := zif_neg c26 hf
        refine lv_iconst (v := -1) X.1 X.2.1 dX6_isLeast_21 (by decide) ?_
        obtain ⟨rfl, rfl, rfl⟩ := zi3 hf
        exact ze_retI X hr hlk hW (Nat.le_refl _) (Nat.le_refl _) dX6_isLeast_22
end

/-! LeastPatterns.learn(IIIIII)I -/
def f_X6_learn (F : Nat) (n : Nat) (K : zK) (I : zI) (R : zR) (a0 : Nat) (x1 : Int32) (x2 : Int32) (x3 : Int32) (x4 : Int32) (x5 : Int32) (x6 : Int32) : Option (Int32 × Nat × zK × zI × zR) :=
  zbd (f_X6_noRegister F K I R x1) fun v1 =>
  if v1 = (0 : Int32) then
    zbd (f_X6_noRegister F K I R x2) fun v4 =>
    if v4 = (0 : Int32) then
      zbd (f_X6_noRegister F K I R x3) fun v7 =>
      if v7 = (0 : Int32) then
        zbd (f_X6_noRegister F K I R x4) fun v10 =>
        if v10 = (0 : Int32) then
          zbd (f_X6_noRegister F K I R x5) fun v13 =>
          if v13 = (0 : Int32) then
            zbd (f_X6_noRegister F K I R x6) fun v16 =>
            if v16 = (0 : Int32) then
              if x5 = x6 then
                some ((-1 : Int32), n, K, I, R)
              else
                if (K a0).1 = 16 then
                zbd (some (R a0 3)) fun o21 =>
                zbd (zdr K o21 14) fun a22 =>
                zbd (f_X4_term F K I R a22 x1) fun o25 =>
                zbd (some (R a0 3)) fun o27 =>
                zbd (zdr K o27 14) fun a28 =>
                zbd (f_X4_term F K I R a28 x2) fun o31 =>
                zbd (some (R a0 3)) fun o33 =>
                zbd (zdr K o33 14) fun a34 =>
                zbd (f_X4_term F K I R a34 x3) fun o37 =>
                zbd (some (R a0 3)) fun o39 =>
                zbd (zdr K o39 14) fun a40 =>
                zbd (f_X4_term F K I R a40 x4) fun o43 =>
                zcs o25 (
                  some ((-2 : Int32), n, K, I, R)
                ) fun a45 =>
                  zcs o31 (
                    some ((-2 : Int32), n, K, I, R)
                  ) fun a47 =>
                    zcs o37 (
                      some ((-2 : Int32), n, K, I, R)
                    ) fun a49 =>
                      zcs o43 (
                        some ((-2 : Int32), n, K, I, R)
                      ) fun a51 =>
                        zbd (some (R a0 8)) fun o53 =>
                        zbd (some (R a0 3)) fun o54 =>
                        zbd (zdr K o53 10) fun a55 =>
                        zbd (f_X0_begin F K I R a55 o54) fun I58 =>
                        zbd (some (R a0 8)) fun o60 =>
                        zbd (zdr K o60 10) fun a61 =>
                        zbd5 (f_X0_joined F n K I58 R a61 (some a45) (some a49)) fun o64 n65 K66 I67 R68 =>
                        zcs o64 (
                          some ((-3 : Int32), n65, K66, I67, R68)
                        ) fun a70 =>
                          if (K66 a0).1 = 16 then
                          zbd (some (R68 a0 8)) fun o73 =>
                          zbd (zdr K66 o73 10) fun a74 =>
                          zbd5 (f_X0_joined F n65 K66 I67 R68 a74 (some a47) (some a51)) fun o77 n78 K79 I80 R81 =>
                          zcs o77 (
                            some ((-3 : Int32), n78, K79, I80, R81)
                          ) fun a83 =>
                            if (K79 a0).1 = 16 then
                            zbd2 (f_X6_remember F K79 I80 R81 a0) fun I86 R87 =>
                            zbd (some (R87 a0 3)) fun o89 =>
                            zbd (zdr K79 o89 14) fun a90 =>
                            zbd (f_X4_hold F K79 I86 R87 a90 x5 (some a70)) fun R93 =>
                            zbd (some (R93 a0 3)) fun o95 =>
                            zbd (zdr K79 o95 14) fun a96 =>
                            zbd (f_X4_hold F K79 I86 R93 a96 x6 (some a83)) fun R99 =>
                            if (K79 a83).1 = 15 then
                            zbd (f_X5_holes F K79 I86 R99 a83) fun v102 =>
                            if (K79 a70).1 = 15 then
                            zbd (f_X5_holes F K79 I86 R99 a70) fun v105 =>
                            if (v102 &&& (v105 ^^^ (-1 : Int32))) = (0 : Int32) then
                              some ((1 : Int32), n78, K79, I86, R99)
                            else
                              some ((0 : Int32), n78, K79, I86, R99)
                            else none
                            else none
                            else none
                          else none
                else none
            else
              some ((-1 : Int32), n, K, I, R)
          else
            some ((-1 : Int32), n, K, I, R)
        else
          some ((-1 : Int32), n, K, I, R)
      else
        some ((-1 : Int32), n, K, I, R)
    else
      some ((-1 : Int32), n, K, I, R)
  else
    some ((-1 : Int32), n, K, I, R)
section
variable {p : Program} {l : Launch} {e : Env} {s : State} {m : MethodId} {args : Array Value} {below : List Frame} {meth : Method} {c : Code} {D : zD} {B n n0 n' fd ld : Nat} {K K0 K' : zK} {I I' : zI} {R R' : zR} {H : Heap} {locs : List Loc} {ls : Array Slot} {r : Int32}
set_option maxRecDepth 100000 in
set_option maxHeartbeats 4000000 in
theorem c_X6_learn (l : Launch) (D : zD) (B n : Nat) {F : Nat} {K : zK} {I : zI} {R : zR} {a0 : Nat} {x1 : Int32} {x2 : Int32} {x3 : Int32} {x4 : Int32} {x5 : Int32} {x6 : Int32} {r : Int32} {n' : Nat} {K' : zK} {I' : zI} {R' : zR} (hf : f_X6_learn F n K I R a0 x1 x2 x3 x4 x5 x6 = some (r, n', K', I', R')) : zM l yX6_learn cX6_learn 13 (some .int) ({ frames := 82, cells := 8, slots := 200, locals := 4049 } : Room) D B n K I R [.ref (B + a0), .int x1, .int x2, .int x3, .int x4, .int x5, .int x6] (zQi D (zOwn B K (B + n)) r B n' K' I' R') := by
  refine ze_entry (lv0 := [(0, .ref (B + a0)), (1, .int x1), (2, .int x2), (3, .int x3), (4, .int x4), (5, .int x5), (6, .int x6)]) (by decide) (by simp [lg_sl, zcat, zcat_i, zcat_r, zcat_l]) (by simp [lv_args, zcat, zcat_i, zcat_r, zcat_l]) (fun p e s m below meth c X hr hlk hin hW ls hl => ?_)
  unfold f_X6_learn at hf
  have b1 : (0 : Nat) ≤ 0 := Nat.le_refl _
  refine lv_iload_n X.1 X.2.1 dX6_learn_0 rfl (lv_at hl 1 rfl) ?_
  obtain ⟨v1, h2, hg⟩ := zh_bd hf
  replace hf := hg
  refine ze_aftI0 (ze_runS (As := [.int x1]) (rest := []) X 69 (c_X6_noRegister l D B n h2) vX6_noRegister kml_X6_69 hW ⟨by decide, by decide⟩ rfl hl.1 rfl (Nat.le_of_ble_eq_true rfl) ⟨by show _ + 0 ≤ (8 : Nat); (try dsimp only); omega, by show _ + 0 ≤ (200 : Nat); (try dsimp only); omega⟩ dX6_learn_1) hW (fun H locs hV => ?_)
  replace hW := hV
  refine lv_if_ne (tgt := 52) X.1 X.2.1 dX6_learn_4 (by decide) (fun c3 => ?_) (fun c3 => ?_)
  · replace hf := zif_neg c3 hf
    refine lv_iconst (v := -1) X.1 X.2.1 dX6_learn_52 (by decide) ?_
    obtain ⟨rfl, rfl, rfl, rfl, rfl⟩ := zi5 hf
    exact ze_retI X hr hlk hW (by (try dsimp only); omega) (by (try dsimp only); omega) dX6_learn_53
  · replace hf := zif_pos c3 hf
    refine lv_iload_n X.1 X.2.1 dX6_learn_7 rfl (lv_at hl 2 rfl) ?_
    obtain ⟨v4, h5, hg⟩ := zh_bd hf
    replace hf := hg
    refine ze_aftI0 (ze_runS (As := [.int x2]) (rest := []) X 69 (c_X6_noRegister l D B n h5) vX6_noRegister kml_X6_69 hW ⟨by decide, by decide⟩ rfl hl.1 rfl (Nat.le_of_ble_eq_true rfl) ⟨by show _ + 0 ≤ (8 : Nat); (try dsimp only); omega, by show _ + 0 ≤ (200 : Nat); (try dsimp only); omega⟩ dX6_learn_8) hW (fun H locs hV => ?_)
    replace hW := hV
    refine lv_if_ne (tgt := 52) X.1 X.2.1 dX6_learn_11 (by decide) (fun c6 => ?_) (fun c6 => ?_)
    · replace hf := zif_neg c6 hf
      refine lv_iconst (v := -1) X.1 X.2.1 dX6_learn_52 (by decide) ?_
      obtain ⟨rfl, rfl, rfl, rfl, rfl⟩ := zi5 hf
      exact ze_retI X hr hlk hW (by (try dsimp only); omega) (by (try dsimp only); omega) dX6_learn_53
    · replace hf := zif_pos c6 hf
      refine lv_iload_n X.1 X.2.1 dX6_learn_14 rfl (lv_at hl 3 rfl) ?_
      obtain ⟨v7, h8, hg⟩ := zh_bd hf
      replace hf := hg
      refine ze_aftI0 (ze_runS (As := [.int x3]) (rest := []) X 69 (c_X6_noRegister l D B n h8) vX6_noRegister kml_X6_69 hW ⟨by decide, by decide⟩ rfl hl.1 rfl (Nat.le_of_ble_eq_true rfl) ⟨by show _ + 0 ≤ (8 : Nat); (try dsimp only); omega, by show _ + 0 ≤ (200 : Nat); (try dsimp only); omega⟩ dX6_learn_15) hW (fun H locs hV => ?_)
      replace hW := hV
      refine lv_if_ne (tgt := 52) X.1 X.2.1 dX6_learn_18 (by decide) (fun c9 => ?_) (fun c9 => ?_)
      · replace hf := zif_neg c9 hf
        refine lv_iconst (v := -1) X.1 X.2.1 dX6_learn_52 (by decide) ?_
        obtain ⟨rfl, rfl, rfl, rfl, rfl⟩ := zi5 hf
        exact ze_retI X hr hlk hW (by (try dsimp only); omega) (by (try dsimp only); omega) dX6_learn_53
      · replace hf := zif_pos c9 hf
        refine lv_iload X.1 X.2.1 dX6_learn_21 (lv_at hl 4 rfl) ?_
        obtain ⟨v10, h11, hg⟩ := zh_bd hf
        replace hf := hg
        refine ze_aftI0 (ze_runS (As := [.int x4]) (rest := []) X 69 (c_X6_noRegister l D B n h11) vX6_noRegister kml_X6_69 hW ⟨by decide, by decide⟩ rfl hl.1 rfl (Nat.le_of_ble_eq_true rfl) ⟨by show _ + 0 ≤ (8 : Nat); (try dsimp only); omega, by show _ + 0 ≤ (200 : Nat); (try dsimp only); omega⟩ dX6_learn_23) hW (fun H locs hV => ?_)
        replace hW := hV
        refine lv_if_ne (tgt := 52) X.1 X.2.1 dX6_learn_26 (by decide) (fun c12 => ?_) (fun c12 => ?_)
        · replace hf := zif_neg c12 hf
          refine lv_iconst (v := -1) X.1 X.2.1 dX6_learn_52 (by decide) ?_
          obtain ⟨rfl, rfl, rfl, rfl, rfl⟩ := zi5 hf
          exact ze_retI X hr hlk hW (by (try dsimp only); omega) (by (try dsimp only); omega) dX6_learn_53
        · replace hf := zif_pos c12 hf
          refine lv_iload X.1 X.2.1 dX6_learn_29 (lv_at hl 5 rfl) ?_
          obtain ⟨v13, h14, hg⟩ := zh_bd hf
          replace hf := hg
          refine ze_aftI0 (ze_runS (As := [.int x5]) (rest := []) X 69 (c_X6_noRegister l D B n h14) vX6_noRegister kml_X6_69 hW ⟨by decide, by decide⟩ rfl hl.1 rfl (Nat.le_of_ble_eq_true rfl) ⟨by show _ + 0 ≤ (8 : Nat); (try dsimp only); omega, by show _ + 0 ≤ (200 : Nat); (try dsimp only); omega⟩ dX6_learn_31) hW (fun H locs hV => ?_)
          replace hW := hV
          refine lv_if_ne (tgt := 52) X.1 X.2.1 dX6_learn_34 (by decide) (fun c15 => ?_) (fun c15 => ?_)
          · replace hf := zif_neg c15 hf
            refine lv_iconst (v := -1) X.1 X.2.1 dX6_learn_52 (by decide) ?_
            obtain ⟨rfl, rfl, rfl, rfl, rfl⟩ := zi5 hf
            exact ze_retI X hr hlk hW (by (try dsimp only); omega) (by (try dsimp only); omega) dX6_learn_53
          · replace hf := zif_pos c15 hf
            refine lv_iload X.1 X.2.1 dX6_learn_37 (lv_at hl 6 rfl) ?_
            obtain ⟨v16, h17, hg⟩ := zh_bd hf
            replace hf := hg
            refine ze_aftI0 (ze_runS (As := [.int x6]) (rest := []) X 69 (c_X6_noRegister l D B n h17) vX6_noRegister kml_X6_69 hW ⟨by decide, by decide⟩ rfl hl.1 rfl (Nat.le_of_ble_eq_true rfl) ⟨by show _ + 0 ≤ (8 : Nat); (try dsimp only); omega, by show _ + 0 ≤ (200 : Nat); (try dsimp only); omega⟩ dX6_learn_39) hW (fun H locs hV => ?_)
            replace hW := hV
            refine lv_if_ne (tgt := 52) X.1 X.2.1 dX6_learn_42 (by decide) (fun c18 => ?_) (fun c18 => ?_)
            · replace hf := zif_neg c18 hf
              refine lv_iconst (v := -1) X.1 X.2.1 dX6_learn_52 (by decide) ?_
              obtain ⟨rfl, rfl, rfl, rfl, rfl⟩ := zi5 hf
              exact ze_retI X hr hlk hW (by (try dsimp only); omega) (by (try dsimp only); omega) dX6_learn_53
            · replace hf := zif_pos c18 hf
              refine lv_iload X.1 X.2.1 dX6_learn_45 (lv_at hl 5 rfl) ?_
              refine lv_iload X.1 X.2.1 dX6_learn_47 (lv_at hl 6 rfl) ?_
              refine lv_icmp_ne (tgt := 54) X.1 X.2.1 dX6_learn_49 (by decide) (fun c19 => ?_) (fun c19 => ?_)
              · replace hf := zif_neg c19 hf
                refine lv_aload_n X.1 X.2.1 dX6_learn_54 rfl (lv_at hl 0 rfl) ?_
                obtain ⟨k20, hg⟩ := zh_if hf
                replace hf := hg
                refine ze_gtR X 6 3 23 (RX6, TX6, 11) rfl hf hW k20 rfl (by decide) kfl_X6_23 dX6_learn_55 (fun o21 hg => ?_)
                replace hf := hg
                refine lv_iload_n X.1 X.2.1 dX6_learn_58 rfl (lv_at hl 1 rfl) ?_
                obtain ⟨a22, rfl, k24, hg⟩ := zh_dr hf
                replace hf := hg
                obtain ⟨o25, h26, hg⟩ := zh_bd hf
                replace hf := hg
                refine ze_aftQ0 (ze_runV (As := [.int x1]) (rest := []) X 4 107 (c_X4_term l D B n k24 h26) vX4_term kml_X6_107 hW k24 rfl rfl ⟨by decide, by decide⟩ rfl hl.1 rfl (Nat.le_of_ble_eq_true rfl) ⟨by show _ + 0 ≤ (8 : Nat); (try dsimp only); omega, by show _ + 0 ≤ (200 : Nat); (try dsimp only); omega⟩ dX6_learn_59) hW (fun H locs hV => ?_)
                replace hW := hV
                refine ze_astore (lv' := [(7, zrf B o25), (0, .ref (B + a0)), (1, .int x1), (2, .int x2), (3, .int x3), (4, .int x4), (5, .int x5), (6, .int x6)]) X.1 X.2.1 dX6_learn_62 hl (by decide) rfl (fun ls hk => ?_)
                replace hl := hk
                refine lv_aload_n X.1 X.2.1 dX6_learn_64 rfl (lv_at hl 1 rfl) ?_
                refine ze_gtR X 6 3 23 (RX6, TX6, 11) rfl hf hW k20 rfl (by decide) kfl_X6_23 dX6_learn_65 (fun o27 hg => ?_)
                replace hf := hg
                refine lv_iload_n X.1 X.2.1 dX6_learn_68 rfl (lv_at hl 3 rfl) ?_
                obtain ⟨a28, rfl, k30, hg⟩ := zh_dr hf
                replace hf := hg
                obtain ⟨o31, h32, hg⟩ := zh_bd hf
                replace hf := hg
                refine ze_aftQ0 (ze_runV (As := [.int x2]) (rest := []) X 4 107 (c_X4_term l D B n k30 h32) vX4_term kml_X6_107 hW k30 rfl rfl ⟨by decide, by decide⟩ rfl hl.1 rfl (Nat.le_of_ble_eq_true rfl) ⟨by show _ + 0 ≤ (8 : Nat); (try dsimp only); omega, by show _ + 0 ≤ (200 : Nat); (try dsimp only); omega⟩ dX6_learn_69) hW (fun H locs hV => ?_)
                replace hW := hV
                refine ze_astore (lv' := [(8, zrf B o31), (7, zrf B o25), (0, .ref (B + a0)), (1, .int x1), (2, .int x2), (3, .int x3), (4, .int x4), (5, .int x5), (6, .int x6)]) X.1 X.2.1 dX6_learn_72 hl (by decide) (by first | rfl | (simp [zcat, zcat_i, zcat_r, zcat_l, zrf_some]; done) | (simp [zcat, zcat_i, zcat_r, zcat_l, zrf_some]; decide)) (fun ls hk => ?_)
                replace hl := hk
                refine lv_aload_n X.1 X.2.1 dX6_learn_74 rfl (lv_at hl 2 rfl) ?_
                refine ze_gtR X 6 3 23 (RX6, TX6, 11) rfl hf hW k20 rfl (by decide) kfl_X6_23 dX6_learn_75 (fun o33 hg => ?_)
                replace hf := hg
                refine lv_iload_n X.1 X.2.1 dX6_learn_78 rfl (lv_at hl 5 rfl) ?_
                obtain ⟨a34, rfl, k36, hg⟩ := zh_dr hf
                replace hf := hg
                obtain ⟨o37, h38, hg⟩ := zh_bd hf
                replace hf := hg
                refine ze_aftQ0 (ze_runV (As := [.int x3]) (rest := []) X 4 107 (c_X4_term l D B n k36 h38) vX4_term kml_X6_107 hW k36 rfl rfl ⟨by decide, by decide⟩ rfl hl.1 rfl (Nat.le_of_ble_eq_true rfl) ⟨by show _ + 0 ≤ (8 : Nat); (try dsimp only); omega, by show _ + 0 ≤ (200 : Nat); (try dsimp only); omega⟩ dX6_learn_79) hW (fun H locs hV => ?_)
                replace hW := hV
                refine ze_astore (lv' := [(9, zrf B o37), (8, zrf B o31), (7, zrf B o25), (0, .ref (B + a0)), (1, .int x1), (2, .int x2), (3, .int x3), (4, .int x4), (5, .int x5), (6, .int x6)]) X.1 X.2.1 dX6_learn_82 hl (by decide) (by first | rfl | (simp [zcat, zcat_i, zcat_r, zcat_l, zrf_some]; done) | (simp [zcat, zcat_i, zcat_r, zcat_l, zrf_some]; decide)) (fun ls hk => ?_)
                replace hl := hk
                refine lv_aload_n X.1 X.2.1 dX6_learn_84 rfl (lv_at hl 3 rfl) ?_
                refine ze_gtR X 6 3 23 (RX6, TX6, 11) rfl hf hW k20 rfl (by decide) kfl_X6_23 dX6_learn_85 (fun o39 hg => ?_)
                replace hf := hg
                refine lv_iload X.1 X.2.1 dX6_learn_88 (lv_at hl 7 rfl) ?_
                obtain ⟨a40, rfl, k42, hg⟩ := zh_dr hf
                replace hf := hg
                obtain ⟨o43, h44, hg⟩ := zh_bd hf
                replace hf := hg
                refine ze_aftQ0 (ze_runV (As := [.int x4]) (rest := []) X 4 107 (c_X4_term l D B n k42 h44) vX4_term kml_X6_107 hW k42 rfl rfl ⟨by decide, by decide⟩ rfl hl.1 rfl (Nat.le_of_ble_eq_true rfl) ⟨by show _ + 0 ≤ (8 : Nat); (try dsimp only); omega, by show _ + 0 ≤ (200 : Nat); (try dsimp only); omega⟩ dX6_learn_90) hW (fun H locs hV => ?_)
                replace hW := hV
                refine ze_astore (lv' := [(10, zrf B o43), (9, zrf B o37), (8, zrf B o31), (7, zrf B o25), (0, .ref (B + a0)), (1, .int x1), (2, .int x2), (3, .int x3), (4, .int x4), (5, .int x5), (6, .int x6)]) X.1 X.2.1 dX6_learn_93 hl (by decide) (by first | rfl | (simp [zcat, zcat_i, zcat_r, zcat_l, zrf_some]; done) | (simp [zcat, zcat_i, zcat_r, zcat_l, zrf_some]; decide)) (fun ls hk => ?_)
                replace hl := hk
                refine ze_aload X.1 X.2.1 dX6_learn_95 (lv_at hl 3 rfl) ?_
                refine ze_ifnull (tgt := 115) X.1 X.2.1 dX6_learn_97 (by decide) (fun c46 => ?_) (fun a45 c46 => ?_)
                · replace hf := zcs_none c46 hf
                  subst c46
                  refine lv_bipush (v := -2) X.1 X.2.1 dX6_learn_115 (by decide) ?_
                  obtain ⟨rfl, rfl, rfl, rfl, rfl⟩ := zi5 hf
                  exact ze_retI X hr hlk hW (by (try dsimp only); omega) (by (try dsimp only); omega) dX6_learn_117
                · replace hf := zcs_some c46 hf
                  subst c46
                  refine ze_aload X.1 X.2.1 dX6_learn_100 (lv_at hl 2 rfl) ?_
                  refine ze_ifnull (tgt := 115) X.1 X.2.1 dX6_learn_102 (by decide) (fun c48 => ?_) (fun a47 c48 => ?_)
                  · replace hf := zcs_none c48 hf
                    subst c48
                    refine lv_bipush (v := -2) X.1 X.2.1 dX6_learn_115 (by decide) ?_
                    obtain ⟨rfl, rfl, rfl, rfl, rfl⟩ := zi5 hf
                    exact ze_retI X hr hlk hW (by (try dsimp only); omega) (by (try dsimp only); omega) dX6_learn_117
                  · replace hf := zcs_some c48 hf
                    subst c48
                    refine ze_aload X.1 X.2.1 dX6_learn_105 (lv_at hl 1 rfl) ?_
                    refine ze_ifnull (tgt := 115) X.1 X.2.1 dX6_learn_107 (by decide) (fun c50 => ?_) (fun a49 c50 => ?_)
                    · replace hf := zcs_none c50 hf
                      subst c50
                      refine lv_bipush (v := -2) X.1 X.2.1 dX6_learn_115 (by decide) ?_
                      obtain ⟨rfl, rfl, rfl, rfl, rfl⟩ := zi5 hf
                      exact ze_retI X hr hlk hW (by (try dsimp only); omega) (by (try dsimp only); omega) dX6_learn_117
                    · replace hf := zcs_some c50 hf
                      subst c50
                      refine ze_aload X.1 X.2.1 dX6_learn_110 (lv_at hl 0 rfl) ?_
                      refine ze_ifnonnull (tgt := 118) X.1 X.2.1 dX6_learn_112 (by decide) (fun a51 c52 => ?_) (fun c52 => ?_)
                      · replace hf := zcs_some c52 hf
                        subst c52
                        refine lv_aload_n X.1 X.2.1 dX6_learn_118 rfl (lv_at hl 4 rfl) ?_
                        refine ze_gtR X 6 8 51 (RX6, TX6, 11) rfl hf hW k20 rfl (by decide) kfl_X6_51 dX6_learn_119 (fun o53 hg => ?_)
                        replace hf := hg
                        refine lv_aload_n X.1 X.2.1 dX6_learn_122 rfl (lv_at hl 4 rfl) ?_
                        refine ze_gtR X 6 3 23 (RX6, TX6, 11) rfl hf hW k20 rfl (by decide) kfl_X6_23 dX6_learn_123 (fun o54 hg => ?_)
                        replace hf := hg
                        obtain ⟨a55, rfl, k57, hg⟩ := zh_dr hf
                        replace hf := hg
                        obtain ⟨I58, h59, hg⟩ := zh_bd hf
                        replace hf := hg
                        refine ze_aftV0 (ze_runV (As := [zrf B o54]) (rest := []) X 0 148 (c_X0_begin l D B n k57 h59) vX0_begin kml_X6_148 hW k57 rfl rfl ⟨by decide, by decide⟩ rfl hl.1 rfl (Nat.le_of_ble_eq_true rfl) ⟨by show _ + 0 ≤ (8 : Nat); (try dsimp only); omega, by show _ + 0 ≤ (200 : Nat); (try dsimp only); omega⟩ dX6_learn_126) hW (fun H locs hV => ?_)
                        replace hW := hV
                        refine lv_aload_n X.1 X.2.1 dX6_learn_129 rfl (lv_at hl 4 rfl) ?_
                        refine ze_gtR X 6 8 51 (RX6, TX6, 11) rfl hf hW k20 rfl (by decide) kfl_X6_51 dX6_learn_130 (fun o60 hg => ?_)
                        replace hf := hg
                        refine lv_aload X.1 X.2.1 dX6_learn_133 (lv_at hl 3 rfl) ?_
                        refine lv_aload X.1 X.2.1 dX6_learn_135 (lv_at hl 1 rfl) ?_
                        obtain ⟨a61, rfl, k63, hg⟩ := zh_dr hf
                        replace hf := hg
                        obtain ⟨o64, n65, K66, I67, R68, h69, hg⟩ := zh_bd5 hf
                        replace hf := hg
                        refine ze_aftQ (ze_runV (As := [.ref (B + a45), .ref (B + a49)]) (rest := []) X 0 152 (c_X0_joined l D B n h69) vX0_joined kml_X6_152 hW k63 rfl rfl ⟨by decide, by decide⟩ rfl hl.1 rfl (Nat.le_of_ble_eq_true rfl) ⟨by show _ + 4 ≤ (8 : Nat); (try dsimp only); omega, by show _ + 100 ≤ (200 : Nat); (try dsimp only); omega⟩ dX6_learn_137) hW (fun H locs hV => ?_)
                        replace hW := hV
                        refine ze_astore (lv' := [(11, zrf B o64), (10, .ref (B + a51)), (9, .ref (B + a49)), (8, .ref (B + a47)), (7, .ref (B + a45)), (0, .ref (B + a0)), (1, .int x1), (2, .int x2), (3, .int x3), (4, .int x4), (5, .int x5), (6, .int x6)]) X.1 X.2.1 dX6_learn_140 hl (by decide) rfl (fun ls hk => ?_)
                        replace hl := hk
                        refine ze_aload X.1 X.2.1 dX6_learn_142 (lv_at hl 0 rfl) ?_
                        refine ze_ifnonnull (tgt := 150) X.1 X.2.1 dX6_learn_144 (by decide) (fun a70 c71 => ?_) (fun c71 => ?_)
                        · replace hf := zcs_some c71 hf
                          subst c71
                          refine lv_aload_n X.1 X.2.1 dX6_learn_150 rfl (lv_at hl 5 rfl) ?_
                          obtain ⟨k72, hg⟩ := zh_if hf
                          replace hf := hg
                          refine ze_gtR X 6 8 51 (RX6, TX6, 11) rfl hf hW k72 rfl (by decide) kfl_X6_51 dX6_learn_151 (fun o73 hg => ?_)
                          replace hf := hg
                          refine lv_aload X.1 X.2.1 dX6_learn_154 (lv_at hl 3 rfl) ?_
                          refine lv_aload X.1 X.2.1 dX6_learn_156 (lv_at hl 1 rfl) ?_
                          obtain ⟨a74, rfl, k76, hg⟩ := zh_dr hf
                          replace hf := hg
                          obtain ⟨o77, n78, K79, I80, R81, h82, hg⟩ := zh_bd5 hf
                          replace hf := hg
                          refine ze_aftQ (ze_runV (As := [.ref (B + a47), .ref (B + a51)]) (rest := []) X 0 152 (c_X0_joined l D B n65 h82) vX0_joined kml_X6_152 hW k76 rfl rfl ⟨by decide, by decide⟩ rfl hl.1 rfl (Nat.le_of_ble_eq_true rfl) ⟨by show _ + 4 ≤ (8 : Nat); (try dsimp only); omega, by show _ + 100 ≤ (200 : Nat); (try dsimp only); omega⟩ dX6_learn_158) hW (fun H locs hV => ?_)
                          replace hW := hV
                          refine ze_astore (lv' := [(12, zrf B o77), (11, .ref (B + a70)), (10, .ref (B + a51)), (9, .ref (B + a49)), (8, .ref (B + a47)), (7, .ref (B + a45)), (0, .ref (B + a0)), (1, .int x1), (2, .int x2), (3, .int x3), (4, .int x4), (5, .int x5), (6, .int x6)]) X.1 X.2.1 dX6_learn_161 hl (by decide) rfl (fun ls hk => ?_)
                          replace hl := hk
                          refine ze_aload X.1 X.2.1 dX6_learn_163 (lv_at hl 0 rfl) ?_
                          refine ze_ifnonnull (tgt := 171) X.1 X.2.1 dX6_learn_165 (by decide) (fun a83 c84 => ?_) (fun c84 => ?_)
                          · replace hf := zcs_some c84 hf
                            subst c84
                            refine lv_aload_n X.1 X.2.1 dX6_learn_171 rfl (lv_at hl 6 rfl) ?_
                            obtain ⟨k85, hg⟩ := zh_if hf
                            replace hf := hg
                            obtain ⟨I86, R87, h88, hg⟩ := zh_bd2 hf
                            replace hf := hg
                            refine ze_aftV0 (ze_runV (As := []) (rest := []) X 6 95 (c_X6_remember l D B n78 k85 h88) vX6_remember kml_X6_95 hW k85 rfl rfl ⟨by decide, by decide⟩ rfl hl.1 rfl (Nat.le_of_ble_eq_true rfl) ⟨by show _ + 0 ≤ (8 : Nat); (try dsimp only); omega, by show _ + 0 ≤ (200 : Nat); (try dsimp only); omega⟩ dX6_learn_172) hW (fun H locs hV => ?_)
                            replace hW := hV
                            refine lv_aload_n X.1 X.2.1 dX6_learn_175 rfl (lv_at hl 6 rfl) ?_
                            refine ze_gtR X 6 3 23 (RX6, TX6, 11) rfl hf hW k85 rfl (by decide) kfl_X6_23 dX6_learn_176 (fun o89 hg => ?_)
                            replace hf := hg
                            refine lv_iload X.1 X.2.1 dX6_learn_179 (lv_at hl 11 rfl) ?_
                            refine lv_aload X.1 X.2.1 dX6_learn_181 (lv_at hl 1 rfl) ?_
                            obtain ⟨a90, rfl, k92, hg⟩ := zh_dr hf
                            replace hf := hg
                            obtain ⟨R93, h94, hg⟩ := zh_bd hf
                            replace hf := hg
                            refine ze_aftV0 (ze_runV (As := [.int x5, .ref (B + a70)]) (rest := []) X 4 98 (c_X4_hold l D B n78 k92 h94) vX4_hold kml_X6_98 hW k92 rfl rfl ⟨by decide, by decide⟩ rfl hl.1 rfl (Nat.le_of_ble_eq_true rfl) ⟨by show _ + 0 ≤ (8 : Nat); (try dsimp only); omega, by show _ + 0 ≤ (200 : Nat); (try dsimp only); omega⟩ dX6_learn_183) hW (fun H locs hV => ?_)
                            replace hW := hV
                            refine lv_aload_n X.1 X.2.1 dX6_learn_186 rfl (lv_at hl 6 rfl) ?_
                            refine ze_gtR X 6 3 23 (RX6, TX6, 11) rfl hf hW k85 rfl (by decide) kfl_X6_23 dX6_learn_187 (fun o95 hg => ?_)
                            replace hf := hg
                            refine lv_iload X.1 X.2.1 dX6_learn_190 (lv_at hl 12 rfl) ?_
                            refine lv_aload X.1 X.2.1 dX6_learn_192 (lv_at hl 0 rfl) ?_
                            obtain ⟨a96, rfl, k98, hg⟩ := zh_dr hf
                            replace hf := hg
                            obtain ⟨R99, h100, hg⟩ := zh_bd hf
                            replace hf := hg
                            refine ze_aftV0 (ze_runV (As := [.int x6, .ref (B + a83)]) (rest := []) X 4 98 (c_X4_hold l D B n78 k98 h100) vX4_hold kml_X6_98 hW k98 rfl rfl ⟨by decide, by decide⟩ rfl hl.1 rfl (Nat.le_of_ble_eq_true rfl) ⟨by show _ + 0 ≤ (8 : Nat); (try dsimp only); omega, by show _ + 0 ≤ (200 : Nat); (try dsimp only); omega⟩ dX6_learn_194) hW (fun H locs hV => ?_)
                            replace hW := hV
                            refine lv_aload X.1 X.2.1 dX6_learn_197 (lv_at hl 0 rfl) ?_
                            obtain ⟨k101, hg⟩ := zh_if hf
                            replace hf := hg
                            obtain ⟨v102, h103, hg⟩ := zh_bd hf
                            replace hf := hg
                            refine ze_aftI0 (ze_runV (As := []) (rest := []) X 5 134 (c_X5_holes l D B n78 k101 h103) vX5_holes kml_X6_134 hW k101 rfl rfl ⟨by decide, by decide⟩ rfl hl.1 rfl (Nat.le_of_ble_eq_true rfl) ⟨by show _ + 0 ≤ (8 : Nat); (try dsimp only); omega, by show _ + 0 ≤ (200 : Nat); (try dsimp only); omega⟩ dX6_learn_199) hW (fun H locs hV => ?_)
                            replace hW := hV
                            refine lv_aload X.1 X.2.1 dX6_learn_202 (lv_at hl 1 rfl) ?_
                            obtain ⟨k104, hg⟩ := zh_if hf
                            replace hf := hg
                            obtain ⟨v105, h106, hg⟩ := zh_bd hf
                            replace hf := hg
                            refine ze_aftI0 (ze_runV (As := []) (rest := [.int v102]) X 5 134 (c_X5_holes l D B n78 k104 h106) vX5_holes kml_X6_134 hW k104 rfl rfl ⟨by decide, by decide⟩ rfl hl.1 rfl (Nat.le_of_ble_eq_true rfl) ⟨by show _ + 0 ≤ (8 : Nat); (try dsimp only); omega, by show _ + 0 ≤ (200 : Nat); (try dsimp only); omega⟩ dX6_learn_204) hW (fun H locs hV => ?_)
                            replace hW := hV
                            refine lv_iconst (v := -1) X.1 X.2.1 dX6_learn_207 (by decide) ?_
                            refine lv_ixor X.1 X.2.1 dX6_learn_208 ?_
                            refine lv_iand X.1 X.2.1 dX6_learn_209 ?_
                            refine lv_if_ne (tgt := 217) X.1 X.2.1 dX6_learn_210 (by decide) (fun c107 => ?_) (fun c107 => ?_)
                            · replace hf := zif_neg c107 hf
                              refine lv_iconst (v := 0) X.1 X.2.1 dX6_learn_217 (by decide) ?_
                              obtain ⟨rfl, rfl, rfl, rfl, rfl⟩ := zi5 hf
                              exact ze_retI X hr hlk hW (by (try dsimp only); omega) (by (try dsimp only); omega) dX6_learn_218
                            · replace hf := zif_pos c107 hf
                              refine lv_iconst (v := 1) X.1 X.2.1 dX6_learn_213 (by decide) ?_
                              refine lv_goto (tgt := 218) X.1 X.2.1 dX6_learn_214 (by decide) ?_
                              obtain ⟨rfl, rfl, rfl, rfl, rfl⟩ := zi5 hf
                              exact ze_retI X hr hlk hW (by (try dsimp only); omega) (by (try dsimp only); omega) dX6_learn_218
                          · replace hf := zcs_none c84 hf
                            subst c84
                            refine lv_bipush (v := -3) X.1 X.2.1 dX6_learn_168 (by decide) ?_
                            obtain ⟨rfl, rfl, rfl, rfl, rfl⟩ := zi5 hf
                            exact ze_retI X hr hlk hW (by (try dsimp only); omega) (by (try dsimp only); omega) dX6_learn_170
                        · replace hf := zcs_none c71 hf
                          subst c71
                          refine lv_bipush (v := -3) X.1 X.2.1 dX6_learn_147 (by decide) ?_
                          obtain ⟨rfl, rfl, rfl, rfl, rfl⟩ := zi5 hf
                          exact ze_retI X hr hlk hW (by (try dsimp only); omega) (by (try dsimp only); omega) dX6_learn_149
                      · replace hf := zcs_none c52 hf
                        subst c52
                        refine lv_bipush (v := -2) X.1 X.2.1 dX6_learn_115 (by decide) ?_
                        obtain ⟨rfl, rfl, rfl, rfl, rfl⟩ := zi5 hf
                        exact ze_retI X hr hlk hW (by (try dsimp only); omega) (by (try dsimp only); omega) dX6_learn_117
              · replace hf := zif_pos c19 hf
                refine lv_iconst (v := -1) X.1 X.2.1 dX6_learn_52 (by decide) ?_
                obtain ⟨rfl, rfl, rfl, rfl, rfl⟩ := zi5 hf
                exact ze_retI X hr hlk hW (by (try dsimp only); omega) (by (try dsimp only); omega) dX6_learn_53
end

/-! LeastPatterns$Matcher.argumentsWhenFilled(LLeastPatterns$Term;I)I -/
def f_X1_argumentsWhenFilled (F : Nat) (K : zK) (I : zI) (R : zR) (a0 : Nat) (x1 : Option Nat) (x2 : Int32) : Option (Int32) :=
  zbd (zdr K x1 15) fun a1 =>
  zbd (f_X5_argumentsOf F K I R a1 x2) fun v4 =>
  zbd (f_X5_sequencePlace F K I R a1 x2) fun v6 =>
  if (0 : Int32) ≤ v6 then
    zbd (f_X5_argument F K I R a1 x2 v6) fun v9 =>
    zbd (f_X5_numberOf F K I R a1 v9) fun v11 =>
    zbd (f_X6_outside F K I R v11 (9 : Int32)) fun v13 =>
    if v13 = (0 : Int32) then
      zbd (some (R a0 7)) fun o16 =>
      zbd (zdr K o16 1) fun a17 =>
      zbd (zrd K I a17 v11) fun v20 =>
      some ((v4 - (1 : Int32)) + v20)
    else
      some ((v4 - (1 : Int32)) + (0 : Int32))
  else
    some v4
section
variable {p : Program} {l : Launch} {e : Env} {s : State} {m : MethodId} {args : Array Value} {below : List Frame} {meth : Method} {c : Code} {D : zD} {B n n0 n' fd ld : Nat} {K K0 K' : zK} {I I' : zI} {R R' : zR} {H : Heap} {locs : List Loc} {ls : Array Slot} {r : Int32}
set_option maxRecDepth 100000 in
set_option maxHeartbeats 4000000 in
theorem c_X1_argumentsWhenFilled (l : Launch) (D : zD) (B n : Nat) {F : Nat} {K : zK} {I : zI} {R : zR} {a0 : Nat} {x1 : Option Nat} {x2 : Int32} {r : Int32} (hK0 : (K a0).1 = 11) (hf : f_X1_argumentsWhenFilled F K I R a0 x1 x2 = some r) : zM l yX1_argumentsWhenFilled cX1_argumentsWhenFilled 6 (some .int) ({ frames := 3, cells := 0, slots := 0, locals := 85 } : Room) D B n K I R [.ref (B + a0), zrf B x1, .int x2] (zQi D (zOwn B K (B + n)) r B n K I R) := by
  refine ze_entry (lv0 := [(0, .ref (B + a0)), (1, zrf B x1), (2, .int x2)]) (by decide) (by simp [lg_sl, zcat, zcat_i, zcat_r, zcat_l]) (by simp [lv_args, zcat, zcat_i, zcat_r, zcat_l]) (fun p e s m below meth c X hr hlk hin hW ls hl => ?_)
  unfold f_X1_argumentsWhenFilled at hf
  refine ze_aload_n X.1 X.2.1 dX1_argumentsWhenFilled_0 rfl (lv_at hl 1 rfl) ?_
  refine lv_iload_n X.1 X.2.1 dX1_argumentsWhenFilled_1 rfl (lv_at hl 2 rfl) ?_
  obtain ⟨a1, rfl, k3, hg⟩ := zh_dr hf
  replace hf := hg
  obtain ⟨v4, h5, hg⟩ := zh_bd hf
  replace hf := hg
  refine ze_aftI0 (ze_runV (As := [.int x2]) (rest := []) X 5 69 (c_X5_argumentsOf l D B n k3 h5) vX5_argumentsOf kml_X1_69 hW k3 rfl rfl ⟨by decide, by decide⟩ rfl hl.1 rfl (Nat.le_of_ble_eq_true rfl) ⟨Nat.le_refl _, Nat.le_refl _⟩ dX1_argumentsWhenFilled_2) hW (fun H locs hV => ?_)
  replace hW := hV
  refine lv_istore_n (i := 3) (lv' := [(3, .int v4), (0, .ref (B + a0)), (1, .ref (B + a1)), (2, .int x2)]) X.1 X.2.1 dX1_argumentsWhenFilled_5 rfl hl (by decide) rfl (fun ls hk => ?_)
  replace hl := hk
  refine lv_aload_n X.1 X.2.1 dX1_argumentsWhenFilled_6 rfl (lv_at hl 2 rfl) ?_
  refine lv_iload_n X.1 X.2.1 dX1_argumentsWhenFilled_7 rfl (lv_at hl 3 rfl) ?_
  obtain ⟨v6, h7, hg⟩ := zh_bd hf
  replace hf := hg
  refine ze_aftI0 (ze_runV (As := [.int x2]) (rest := []) X 5 72 (c_X5_sequencePlace l D B n k3 h7) vX5_sequencePlace kml_X1_72 hW k3 rfl rfl ⟨by decide, by decide⟩ rfl hl.1 rfl (Nat.le_of_ble_eq_true rfl) ⟨Nat.le_refl _, Nat.le_refl _⟩ dX1_argumentsWhenFilled_8) hW (fun H locs hV => ?_)
  replace hW := hV
  refine lv_istore (lv' := [(4, .int v6), (3, .int v4), (0, .ref (B + a0)), (1, .ref (B + a1)), (2, .int x2)]) X.1 X.2.1 dX1_argumentsWhenFilled_11 hl (by decide) rfl (fun ls hk => ?_)
  replace hl := hk
  refine lv_iload X.1 X.2.1 dX1_argumentsWhenFilled_13 (lv_at hl 0 rfl) ?_
  refine lv_if_ge (tgt := 20) X.1 X.2.1 dX1_argumentsWhenFilled_15 (by decide) (fun c8 => ?_) (fun c8 => ?_)
  · replace hf := zif_pos c8 hf
    refine lv_aload_n X.1 X.2.1 dX1_argumentsWhenFilled_20 rfl (lv_at hl 3 rfl) ?_
    refine lv_aload_n X.1 X.2.1 dX1_argumentsWhenFilled_21 rfl (lv_at hl 3 rfl) ?_
    refine lv_iload_n X.1 X.2.1 dX1_argumentsWhenFilled_22 rfl (lv_at hl 4 rfl) ?_
    refine lv_iload X.1 X.2.1 dX1_argumentsWhenFilled_23 (lv_at hl 0 rfl) ?_
    obtain ⟨v9, h10, hg⟩ := zh_bd hf
    replace hf := hg
    refine ze_aftI0 (ze_runV (As := [.int x2, .int v6]) (rest := [.ref (B + a1)]) X 5 52 (c_X5_argument l D B n k3 h10) vX5_argument kml_X1_52 hW k3 rfl rfl ⟨by decide, by decide⟩ rfl hl.1 rfl (Nat.le_of_ble_eq_true rfl) ⟨Nat.le_refl _, Nat.le_refl _⟩ dX1_argumentsWhenFilled_25) hW (fun H locs hV => ?_)
    replace hW := hV
    obtain ⟨v11, h12, hg⟩ := zh_bd hf
    replace hf := hg
    refine ze_aftI0 (ze_runV (As := [.int v9]) (rest := []) X 5 75 (c_X5_numberOf l D B n k3 h12) vX5_numberOf kml_X1_75 hW k3 rfl rfl ⟨by decide, by decide⟩ rfl hl.1 rfl (Nat.le_of_ble_eq_true rfl) ⟨Nat.le_refl _, Nat.le_refl _⟩ dX1_argumentsWhenFilled_28) hW (fun H locs hV => ?_)
    replace hW := hV
    refine lv_istore (lv' := [(5, .int v11), (4, .int v6), (3, .int v4), (0, .ref (B + a0)), (1, .ref (B + a1)), (2, .int x2)]) X.1 X.2.1 dX1_argumentsWhenFilled_31 hl (by decide) rfl (fun ls hk => ?_)
    replace hl := hk
    refine lv_iload_n X.1 X.2.1 dX1_argumentsWhenFilled_33 rfl (lv_at hl 2 rfl) ?_
    refine lv_iconst (v := 1) X.1 X.2.1 dX1_argumentsWhenFilled_34 (by decide) ?_
    refine lv_isub X.1 X.2.1 dX1_argumentsWhenFilled_35 ?_
    refine lv_iload X.1 X.2.1 dX1_argumentsWhenFilled_36 (lv_at hl 0 rfl) ?_
    refine lv_bipush (v := 9) X.1 X.2.1 dX1_argumentsWhenFilled_38 (by decide) ?_
    obtain ⟨v13, h14, hg⟩ := zh_bd hf
    replace hf := hg
    refine ze_aftI0 (ze_runSN (As := [.int v11, .int (9 : Int32)]) (rest := [.int (v4 - (1 : Int32))]) X 78 (c_X6_outside l D B n h14) vX6_outside kml_X1_78 hW ⟨by decide, by decide⟩ rfl hl.1 rfl (Nat.le_of_ble_eq_true rfl) ⟨Nat.le_refl _, Nat.le_refl _⟩ dX1_argumentsWhenFilled_40) hW (fun H locs hV => ?_)
    replace hW := hV
    refine lv_if_ne (tgt := 56) X.1 X.2.1 dX1_argumentsWhenFilled_43 (by decide) (fun c15 => ?_) (fun c15 => ?_)
    · replace hf := zif_neg c15 hf
      refine lv_iconst (v := 0) X.1 X.2.1 dX1_argumentsWhenFilled_56 (by decide) ?_
      refine lv_iadd X.1 X.2.1 dX1_argumentsWhenFilled_57 ?_
      obtain rfl := zi1 hf
      exact ze_retI X hr hlk hW (Nat.le_refl _) (Nat.le_refl _) dX1_argumentsWhenFilled_58
    · replace hf := zif_pos c15 hf
      refine lv_aload_n X.1 X.2.1 dX1_argumentsWhenFilled_46 rfl (lv_at hl 3 rfl) ?_
      refine ze_gtR X 1 7 37 (RX1, TX1, 8) rfl hf hW hK0 rfl (by decide) kfl_X1_37 dX1_argumentsWhenFilled_47 (fun o16 hg => ?_)
      replace hf := hg
      refine lv_iload X.1 X.2.1 dX1_argumentsWhenFilled_50 (lv_at hl 0 rfl) ?_
      obtain ⟨a17, rfl, k19, hg⟩ := zh_dr hf
      replace hf := hg
      refine ze_iald X hf hW k19 dX1_argumentsWhenFilled_52 (fun v20 hg => ?_)
      replace hf := hg
      refine lv_goto (tgt := 57) X.1 X.2.1 dX1_argumentsWhenFilled_53 (by decide) ?_
      refine lv_iadd X.1 X.2.1 dX1_argumentsWhenFilled_57 ?_
      obtain rfl := zi1 hf
      exact ze_retI X hr hlk hW (Nat.le_refl _) (Nat.le_refl _) dX1_argumentsWhenFilled_58
  · replace hf := zif_neg c8 hf
    refine lv_iload_n X.1 X.2.1 dX1_argumentsWhenFilled_18 rfl (lv_at hl 1 rfl) ?_
    obtain rfl := zi1 hf
    exact ze_retI X hr hlk hW (Nat.le_refl _) (Nat.le_refl _) dX1_argumentsWhenFilled_19
end

/-! LeastPatterns$Matcher.canFill(LLeastPatterns$Term;)Z -/
def f_X1_canFill_87 (F : Nat) (K : zK) (I : zI) (R : zR) (a0 : Nat) (k2 : Option Nat → Int32 → Option (Int32)) (x1 : Option Nat) (x2 : Int32) : Option (Int32) :=
  k2 x1 (x2 + (1 : Int32))
def g_X1_canFill_2 (F : Nat) (K : zK) (I : zI) (R : zR) (a0 : Nat)  (kself : Option Nat → Int32 → Option (Int32)) (x1 : Option Nat) (x2 : Int32) : Option (Int32) :=
  zbd (zdr K x1 15) fun a1 =>
  if (I a1 3) ≤ x2 then
    some (1 : Int32)
  else
    zbd (f_X5_sortOf F K I R a1 x2) fun v5 =>
    zbd (f_X5_numberOf F K I R a1 x2) fun v7 =>
    if v5 = (0 : Int32) then
      f_X1_canFill_87 F K I R a0 kself (some a1) x2
    else
      zbd (f_X6_outside F K I R v7 (9 : Int32)) fun v10 =>
      if v10 = (0 : Int32) then
        zbd (some (R a0 4)) fun o13 =>
        zbd (zdr K o13 1) fun a14 =>
        zbd (zrd K I a14 v7) fun v17 =>
        if v17 = v5 then
          if v5 = (2 : Int32) then
            zbd (some (R a0 1)) fun o20 =>
            zbd (some (R a0 5)) fun o21 =>
            zbd (zdr K o21 1) fun a22 =>
            zbd (zrd K I a22 v7) fun v25 =>
            zbd (zdr K o20 15) fun a26 =>
            zbd (f_X5_sortOf F K I R a26 v25) fun v29 =>
            if v29 = (2 : Int32) then
              zbd (f_X1_argumentsWhenFilled F K I R a0 (some a1) x2) fun v32 =>
              if v32 = (0 : Int32) then
                some (0 : Int32)
              else
                f_X1_canFill_87 F K I R a0 kself (some a1) x2
            else
              f_X1_canFill_87 F K I R a0 kself (some a1) x2
          else
            f_X1_canFill_87 F K I R a0 kself (some a1) x2
        else
          some (0 : Int32)
      else
        some (0 : Int32)
def f_X1_canFill_2 (F : Nat) (K : zK) (I : zI) (R : zR) (a0 : Nat)  : Nat → Option Nat → Int32 → Option (Int32)
  | 0, _, _ => none
  | t + 1, x1, x2 => g_X1_canFill_2 F K I R a0  (f_X1_canFill_2 F K I R a0  t) x1 x2
def f_X1_canFill (F : Nat) (K : zK) (I : zI) (R : zR) (a0 : Nat) (x1 : Option Nat) : Option (Int32) :=
  f_X1_canFill_2 F K I R a0 F x1 (0 : Int32)
section
variable {p : Program} {l : Launch} {e : Env} {s : State} {m : MethodId} {args : Array Value} {below : List Frame} {meth : Method} {c : Code} {D : zD} {B n n0 n' fd ld : Nat} {K K0 K' : zK} {I I' : zI} {R R' : zR} {H : Heap} {locs : List Loc} {ls : Array Slot} {r : Int32}
set_option maxRecDepth 100000 in
set_option maxHeartbeats 4000000 in
theorem w_X1_canFill_87 {F : Nat} {a0 : Nat} {k2 : Option Nat → Int32 → Option (Int32)} (X : zX p s m c cX1_canFill 5 RX1 D) (hr : meth.sig.returnType = some .boolean) (hlk : meth.locks = false) (hK0 : (K a0).1 = 11) (hk2 : ∀ (x1 : Option Nat) (x2 : Int32) (H : Heap) (locs : List Loc) (ls : Array Slot), k2 x1 x2 = some r → zS (zOwn B K (B + n)) D B n K I R s.heap H locs → lv_has ls 5 [(0, .ref (B + a0)), (1, zrf B x1), (2, .int x2)] → W p l e ({ frames := 4, cells := 0, slots := 0, locals := 110 } : Room) s m args below meth c H locs 0 0 (MQ below (zQi D (zOwn B K (B + n)) r B n K I R) args s 0 0 (zOwn B K (B + n))) (F0 m 2 ls [])) {x1 : Option Nat} {x2 : Int32} (hf : f_X1_canFill_87 F K I R a0 k2 x1 x2 = some r) (hW : zS (zOwn B K (B + n)) D B n K I R s.heap H locs) (hl : lv_has ls 5 [(0, .ref (B + a0)), (1, zrf B x1), (2, .int x2)]) : W p l e ({ frames := 4, cells := 0, slots := 0, locals := 110 } : Room) s m args below meth c H locs 0 0 (MQ below (zQi D (zOwn B K (B + n)) r B n K I R) args s 0 0 (zOwn B K (B + n))) (F0 m 87 ls []) := by
  unfold f_X1_canFill_87 at hf
  refine ze_iinc (lv' := [(2, .int (x2 + (1 : Int32))), (0, .ref (B + a0)), (1, zrf B x1)]) (d := 1) X.1 X.2.1 dX1_canFill_87 hl (k := 2) rfl (by decide) (by decide) (by first | rfl | (simp [zcat, zcat_i, zcat_r, zcat_l, zrf_some]; done) | (simp [zcat, zcat_i, zcat_r, zcat_l, zrf_some]; decide)) (fun ls hk => ?_)
  replace hl := hk
  refine lv_goto (tgt := 2) X.1 X.2.1 dX1_canFill_90 (by decide) ?_
  exact hk2 _ _ _ _ _ hf hW (lv_sub hl [1, 2, 0] rfl)
set_option maxRecDepth 100000 in
set_option maxHeartbeats 4000000 in
theorem wg_X1_canFill_2 {F : Nat} {a0 : Nat}  (X : zX p s m c cX1_canFill 5 RX1 D) (hr : meth.sig.returnType = some .boolean) (hlk : meth.locks = false) (hK0 : (K a0).1 = 11)  {kself : Option Nat → Int32 → Option (Int32)} (hkself : ∀ (x1 : Option Nat) (x2 : Int32) (H : Heap) (locs : List Loc) (ls : Array Slot), kself x1 x2 = some r → zS (zOwn B K (B + n)) D B n K I R s.heap H locs → lv_has ls 5 [(0, .ref (B + a0)), (1, zrf B x1), (2, .int x2)] → W p l e ({ frames := 4, cells := 0, slots := 0, locals := 110 } : Room) s m args below meth c H locs 0 0 (MQ below (zQi D (zOwn B K (B + n)) r B n K I R) args s 0 0 (zOwn B K (B + n))) (F0 m 2 ls [])) {x1 : Option Nat} {x2 : Int32} (hf : g_X1_canFill_2 F K I R a0  kself x1 x2 = some r) (hW : zS (zOwn B K (B + n)) D B n K I R s.heap H locs) (hl : lv_has ls 5 [(0, .ref (B + a0)), (1, zrf B x1), (2, .int x2)]) : W p l e ({ frames := 4, cells := 0, slots := 0, locals := 110 } : Room) s m args below meth c H locs 0 0 (MQ below (zQi D (zOwn B K (B + n)) r B n K I R) args s 0 0 (zOwn B K (B + n))) (F0 m 2 ls []) := by
  unfold g_X1_canFill_2 at hf
  refine lv_iload_n X.1 X.2.1 dX1_canFill_2 rfl (lv_at hl 2 rfl) ?_
  refine ze_aload_n X.1 X.2.1 dX1_canFill_3 rfl (lv_at hl 1 rfl) ?_
  obtain ⟨a1, rfl, k3, hg⟩ := zh_dr hf
  replace hf := hg
  refine ze_getIN X 5 3 40 (RX5, TX5, 4) rfl hW k3 rfl (by decide) kfl_X1_40 dX1_canFill_4 ?_
  refine lv_icmp_ge (tgt := 93) X.1 X.2.1 dX1_canFill_7 (by decide) (fun c4 => ?_) (fun c4 => ?_)
  · replace hf := zif_pos c4 hf
    refine lv_iconst (v := 1) X.1 X.2.1 dX1_canFill_93 (by decide) ?_
    obtain rfl := zi1 hf
    exact ze_retZ X hr hlk (by decide) hW (Nat.le_refl _) (Nat.le_refl _) dX1_canFill_94
  · replace hf := zif_neg c4 hf
    refine lv_aload_n X.1 X.2.1 dX1_canFill_10 rfl (lv_at hl 1 rfl) ?_
    refine lv_iload_n X.1 X.2.1 dX1_canFill_11 rfl (lv_at hl 2 rfl) ?_
    obtain ⟨v5, h6, hg⟩ := zh_bd hf
    replace hf := hg
    refine ze_aftI0 (ze_runV (As := [.int x2]) (rest := []) X 5 48 (c_X5_sortOf l D B n k3 h6) vX5_sortOf kml_X1_48 hW k3 rfl rfl ⟨by decide, by decide⟩ rfl hl.1 rfl (Nat.le_of_ble_eq_true rfl) ⟨Nat.le_refl _, Nat.le_refl _⟩ dX1_canFill_12) hW (fun H locs hV => ?_)
    replace hW := hV
    refine lv_istore_n (i := 3) (lv' := [(3, .int v5), (0, .ref (B + a0)), (1, .ref (B + a1)), (2, .int x2)]) X.1 X.2.1 dX1_canFill_15 rfl hl (by decide) rfl (fun ls hk => ?_)
    replace hl := hk
    refine lv_aload_n X.1 X.2.1 dX1_canFill_16 rfl (lv_at hl 2 rfl) ?_
    refine lv_iload_n X.1 X.2.1 dX1_canFill_17 rfl (lv_at hl 3 rfl) ?_
    obtain ⟨v7, h8, hg⟩ := zh_bd hf
    replace hf := hg
    refine ze_aftI0 (ze_runV (As := [.int x2]) (rest := []) X 5 75 (c_X5_numberOf l D B n k3 h8) vX5_numberOf kml_X1_75 hW k3 rfl rfl ⟨by decide, by decide⟩ rfl hl.1 rfl (Nat.le_of_ble_eq_true rfl) ⟨Nat.le_refl _, Nat.le_refl _⟩ dX1_canFill_18) hW (fun H locs hV => ?_)
    replace hW := hV
    refine lv_istore (lv' := [(4, .int v7), (3, .int v5), (0, .ref (B + a0)), (1, .ref (B + a1)), (2, .int x2)]) X.1 X.2.1 dX1_canFill_21 hl (by decide) rfl (fun ls hk => ?_)
    replace hl := hk
    refine lv_iload_n X.1 X.2.1 dX1_canFill_23 rfl (lv_at hl 1 rfl) ?_
    refine lv_if_ne (tgt := 30) X.1 X.2.1 dX1_canFill_24 (by decide) (fun c9 => ?_) (fun c9 => ?_)
    · replace hf := zif_neg c9 hf
      refine lv_iload X.1 X.2.1 dX1_canFill_30 (lv_at hl 0 rfl) ?_
      refine lv_bipush (v := 9) X.1 X.2.1 dX1_canFill_32 (by decide) ?_
      obtain ⟨v10, h11, hg⟩ := zh_bd hf
      replace hf := hg
      refine ze_aftI0 (ze_runSN (As := [.int v7, .int (9 : Int32)]) (rest := []) X 78 (c_X6_outside l D B n h11) vX6_outside kml_X1_78 hW ⟨by decide, by decide⟩ rfl hl.1 rfl (Nat.le_of_ble_eq_true rfl) ⟨Nat.le_refl _, Nat.le_refl _⟩ dX1_canFill_34) hW (fun H locs hV => ?_)
      replace hW := hV
      refine lv_if_ne (tgt := 51) X.1 X.2.1 dX1_canFill_37 (by decide) (fun c12 => ?_) (fun c12 => ?_)
      · replace hf := zif_neg c12 hf
        refine lv_iconst (v := 0) X.1 X.2.1 dX1_canFill_51 (by decide) ?_
        obtain rfl := zi1 hf
        exact ze_retZ X hr hlk (by decide) hW (Nat.le_refl _) (Nat.le_refl _) dX1_canFill_52
      · replace hf := zif_pos c12 hf
        refine lv_aload_n X.1 X.2.1 dX1_canFill_40 rfl (lv_at hl 2 rfl) ?_
        refine ze_gtR X 1 4 28 (RX1, TX1, 8) rfl hf hW hK0 rfl (by decide) kfl_X1_28 dX1_canFill_41 (fun o13 hg => ?_)
        replace hf := hg
        refine lv_iload X.1 X.2.1 dX1_canFill_44 (lv_at hl 0 rfl) ?_
        obtain ⟨a14, rfl, k16, hg⟩ := zh_dr hf
        replace hf := hg
        refine ze_iald X hf hW k16 dX1_canFill_46 (fun v17 hg => ?_)
        replace hf := hg
        refine lv_iload_n X.1 X.2.1 dX1_canFill_47 rfl (lv_at hl 1 rfl) ?_
        refine lv_icmp_eq (tgt := 53) X.1 X.2.1 dX1_canFill_48 (by decide) (fun c18 => ?_) (fun c18 => ?_)
        · replace hf := zif_pos c18 hf
          refine lv_iload_n X.1 X.2.1 dX1_canFill_53 rfl (lv_at hl 1 rfl) ?_
          refine lv_iconst (v := 2) X.1 X.2.1 dX1_canFill_54 (by decide) ?_
          refine lv_icmp_ne (tgt := 87) X.1 X.2.1 dX1_canFill_55 (by decide) (fun c19 => ?_) (fun c19 => ?_)
          · replace hf := zif_neg c19 hf
            exact w_X1_canFill_87 X hr hlk hK0 hkself hf hW (lv_sub hl [2, 3, 4] rfl)
          · replace hf := zif_pos c19 hf
            refine lv_aload_n X.1 X.2.1 dX1_canFill_58 rfl (lv_at hl 2 rfl) ?_
            refine ze_gtR X 1 1 18 (RX1, TX1, 8) rfl hf hW hK0 rfl (by decide) kfl_X1_18 dX1_canFill_59 (fun o20 hg => ?_)
            replace hf := hg
            refine lv_aload_n X.1 X.2.1 dX1_canFill_62 rfl (lv_at hl 2 rfl) ?_
            refine ze_gtR X 1 5 31 (RX1, TX1, 8) rfl hf hW hK0 rfl (by decide) kfl_X1_31 dX1_canFill_63 (fun o21 hg => ?_)
            replace hf := hg
            refine lv_iload X.1 X.2.1 dX1_canFill_66 (lv_at hl 0 rfl) ?_
            obtain ⟨a22, rfl, k24, hg⟩ := zh_dr hf
            replace hf := hg
            refine ze_iald X hf hW k24 dX1_canFill_68 (fun v25 hg => ?_)
            replace hf := hg
            obtain ⟨a26, rfl, k28, hg⟩ := zh_dr hf
            replace hf := hg
            obtain ⟨v29, h30, hg⟩ := zh_bd hf
            replace hf := hg
            refine ze_aftI0 (ze_runV (As := [.int v25]) (rest := []) X 5 48 (c_X5_sortOf l D B n k28 h30) vX5_sortOf kml_X1_48 hW k28 rfl rfl ⟨by decide, by decide⟩ rfl hl.1 rfl (Nat.le_of_ble_eq_true rfl) ⟨Nat.le_refl _, Nat.le_refl _⟩ dX1_canFill_69) hW (fun H locs hV => ?_)
            replace hW := hV
            refine lv_iconst (v := 2) X.1 X.2.1 dX1_canFill_72 (by decide) ?_
            refine lv_icmp_ne (tgt := 87) X.1 X.2.1 dX1_canFill_73 (by decide) (fun c31 => ?_) (fun c31 => ?_)
            · replace hf := zif_neg c31 hf
              exact w_X1_canFill_87 X hr hlk hK0 hkself hf hW (lv_sub hl [2, 3, 4] rfl)
            · replace hf := zif_pos c31 hf
              refine lv_aload_n X.1 X.2.1 dX1_canFill_76 rfl (lv_at hl 2 rfl) ?_
              refine lv_aload_n X.1 X.2.1 dX1_canFill_77 rfl (lv_at hl 3 rfl) ?_
              refine lv_iload_n X.1 X.2.1 dX1_canFill_78 rfl (lv_at hl 4 rfl) ?_
              obtain ⟨v32, h33, hg⟩ := zh_bd hf
              replace hf := hg
              refine ze_aftI0 (ze_runV (As := [.ref (B + a1), .int x2]) (rest := []) X 1 99 (c_X1_argumentsWhenFilled l D B n hK0 h33) vX1_argumentsWhenFilled kml_X1_99 hW hK0 rfl rfl ⟨by decide, by decide⟩ rfl hl.1 rfl (Nat.le_of_ble_eq_true rfl) ⟨Nat.le_refl _, Nat.le_refl _⟩ dX1_canFill_79) hW (fun H locs hV => ?_)
              replace hW := hV
              refine lv_if_ne (tgt := 87) X.1 X.2.1 dX1_canFill_82 (by decide) (fun c34 => ?_) (fun c34 => ?_)
              · replace hf := zif_neg c34 hf
                exact w_X1_canFill_87 X hr hlk hK0 hkself hf hW (lv_sub hl [2, 3, 4] rfl)
              · replace hf := zif_pos c34 hf
                refine lv_iconst (v := 0) X.1 X.2.1 dX1_canFill_85 (by decide) ?_
                obtain rfl := zi1 hf
                exact ze_retZ X hr hlk (by decide) hW (Nat.le_refl _) (Nat.le_refl _) dX1_canFill_86
        · replace hf := zif_neg c18 hf
          refine lv_iconst (v := 0) X.1 X.2.1 dX1_canFill_51 (by decide) ?_
          obtain rfl := zi1 hf
          exact ze_retZ X hr hlk (by decide) hW (Nat.le_refl _) (Nat.le_refl _) dX1_canFill_52
    · replace hf := zif_pos c9 hf
      refine lv_goto (tgt := 87) X.1 X.2.1 dX1_canFill_27 (by decide) ?_
      exact w_X1_canFill_87 X hr hlk hK0 hkself hf hW (lv_sub hl [2, 3, 4] rfl)
set_option maxRecDepth 100000 in
set_option maxHeartbeats 4000000 in
theorem w_X1_canFill_2 {F : Nat} {a0 : Nat}  (X : zX p s m c cX1_canFill 5 RX1 D) (hr : meth.sig.returnType = some .boolean) (hlk : meth.locks = false) (hK0 : (K a0).1 = 11)  {t : Nat} {x1 : Option Nat} {x2 : Int32} (hf : f_X1_canFill_2 F K I R a0  t x1 x2 = some r) (hW : zS (zOwn B K (B + n)) D B n K I R s.heap H locs) (hl : lv_has ls 5 [(0, .ref (B + a0)), (1, zrf B x1), (2, .int x2)]) : W p l e ({ frames := 4, cells := 0, slots := 0, locals := 110 } : Room) s m args below meth c H locs 0 0 (MQ below (zQi D (zOwn B K (B + n)) r B n K I R) args s 0 0 (zOwn B K (B + n))) (F0 m 2 ls []) := by
  have key : ∀ t : Nat, ∀ (x1 : Option Nat) (x2 : Int32) (H : Heap) (locs : List Loc) (ls : Array Slot), f_X1_canFill_2 F K I R a0  t x1 x2 = some r → zS (zOwn B K (B + n)) D B n K I R s.heap H locs → lv_has ls 5 [(0, .ref (B + a0)), (1, zrf B x1), (2, .int x2)] → W p l e ({ frames := 4, cells := 0, slots := 0, locals := 110 } : Room) s m args below meth c H locs 0 0 (MQ below (zQi D (zOwn B K (B + n)) r B n K I R) args s 0 0 (zOwn B K (B + n))) (F0 m 2 ls []) := by
    intro t
    induction t with
    | zero =>
      intro x1 x2 H locs ls hf hW hl
      cases hf
    | succ t ih =>
      intro x1 x2 H locs ls hf hW hl
      exact wg_X1_canFill_2 X hr hlk hK0  ih hf hW hl
  exact key t _ _ _ _ _ hf hW hl
set_option maxRecDepth 100000 in
set_option maxHeartbeats 4000000 in
theorem c_X1_canFill (l : Launch) (D : zD) (B n : Nat) {F : Nat} {K : zK} {I : zI} {R : zR} {a0 : Nat} {x1 : Option Nat} {r : Int32} (hK0 : (K a0).1 = 11) (hf : f_X1_canFill F K I R a0 x1 = some r) : zM l yX1_canFill cX1_canFill 5 (some .boolean) ({ frames := 4, cells := 0, slots := 0, locals := 110 } : Room) D B n K I R [.ref (B + a0), zrf B x1] (zQi D (zOwn B K (B + n)) r B n K I R) := by
  refine ze_entry (lv0 := [(0, .ref (B + a0)), (1, zrf B x1)]) (by decide) (by simp [lg_sl, zcat, zcat_i, zcat_r, zcat_l]) (by simp [lv_args, zcat, zcat_i, zcat_r, zcat_l]) (fun p e s m below meth c X hr hlk hin hW ls hl => ?_)
  unfold f_X1_canFill at hf
  refine lv_iconst (v := 0) X.1 X.2.1 dX1_canFill_0 (by decide) ?_
  refine lv_istore_n (i := 2) (lv' := [(2, .int (0 : Int32)), (0, .ref (B + a0)), (1, zrf B x1)]) X.1 X.2.1 dX1_canFill_1 rfl hl (by decide) (by first | rfl | (simp [zcat, zcat_i, zcat_r, zcat_l, zrf_some]; done) | (simp [zcat, zcat_i, zcat_r, zcat_l, zrf_some]; decide)) (fun ls hk => ?_)
  replace hl := hk
  exact w_X1_canFill_2 X hr hlk hK0 hf hW (lv_sub hl [1, 2, 0] rfl)
end

/-! LeastPatterns$Term.appendNodes(LLeastPatterns$Term;II)Z -/
def g_X5_appendNodes_3 (F : Nat) (K : zK) (R : zR) (a0 : Nat)  (kself : zI → Option Nat → Int32 → Int32 → Int32 → Option (Int32 × zI)) (I : zI) (x1 : Option Nat) (x2 : Int32) (x3 : Int32) (x4 : Int32) : Option (Int32 × zI) :=
  if (x2 + x3) ≤ x4 then
    some ((1 : Int32), I)
  else
    zbd (zdr K x1 15) fun a2 =>
    zbd (f_X5_headOf F K I R a2 x4) fun v5 =>
    zbd (f_X5_argumentsOf F K I R a2 x4) fun v7 =>
    zbd2 (f_X5_append F K I R a0 v5 v7) fun v9 I10 =>
    if v9 = (0 : Int32) then
      some ((0 : Int32), I10)
    else
      kself I10 (some a2) x2 x3 (x4 + (1 : Int32))
def f_X5_appendNodes_3 (F : Nat) (K : zK) (R : zR) (a0 : Nat)  : Nat → zI → Option Nat → Int32 → Int32 → Int32 → Option (Int32 × zI)
  | 0, _, _, _, _, _ => none
  | t + 1, I, x1, x2, x3, x4 => g_X5_appendNodes_3 F K R a0  (f_X5_appendNodes_3 F K R a0  t) I x1 x2 x3 x4
def f_X5_appendNodes (F : Nat) (K : zK) (I : zI) (R : zR) (a0 : Nat) (x1 : Option Nat) (x2 : Int32) (x3 : Int32) : Option (Int32 × zI) :=
  f_X5_appendNodes_3 F K R a0 F I x1 x2 x3 x2
section
variable {p : Program} {l : Launch} {e : Env} {s : State} {m : MethodId} {args : Array Value} {below : List Frame} {meth : Method} {c : Code} {D : zD} {B n n0 n' fd ld : Nat} {K K0 K' : zK} {I I' : zI} {R R' : zR} {H : Heap} {locs : List Loc} {ls : Array Slot} {r : Int32}
set_option maxRecDepth 100000 in
set_option maxHeartbeats 4000000 in
theorem wg_X5_appendNodes_3 {F : Nat} {a0 : Nat}  (X : zX p s m c cX5_appendNodes 5 RX5 D) (hr : meth.sig.returnType = some .boolean) (hlk : meth.locks = false) (hK0 : (K a0).1 = 15)  {kself : zI → Option Nat → Int32 → Int32 → Int32 → Option (Int32 × zI)} (hkself : ∀ (I : zI) (x1 : Option Nat) (x2 : Int32) (x3 : Int32) (x4 : Int32) (H : Heap) (locs : List Loc) (ls : Array Slot), kself I x1 x2 x3 x4 = some (r, I') → zS (zOwn B K (B + n)) D B n K I R s.heap H locs → lv_has ls 5 [(0, .ref (B + a0)), (1, zrf B x1), (2, .int x2), (3, .int x3), (4, .int x4)] → W p l e ({ frames := 3, cells := 0, slots := 0, locals := 83 } : Room) s m args below meth c H locs 0 0 (MQ below (zQi D (zOwn B K (B + n)) r B n K I' R) args s 0 0 (zOwn B K (B + n))) (F0 m 3 ls [])) {x1 : Option Nat} {x2 : Int32} {x3 : Int32} {x4 : Int32} (hf : g_X5_appendNodes_3 F K R a0  kself I x1 x2 x3 x4 = some (r, I')) (hW : zS (zOwn B K (B + n)) D B n K I R s.heap H locs) (hl : lv_has ls 5 [(0, .ref (B + a0)), (1, zrf B x1), (2, .int x2), (3, .int x3), (4, .int x4)]) : W p l e ({ frames := 3, cells := 0, slots := 0, locals := 83 } : Room) s m args below meth c H locs 0 0 (MQ below (zQi D (zOwn B K (B + n)) r B n K I' R) args s 0 0 (zOwn B K (B + n))) (F0 m 3 ls []) := by
  unfold g_X5_appendNodes_3 at hf
  refine lv_iload X.1 X.2.1 dX5_appendNodes_3 (lv_at hl 4 rfl) ?_
  refine lv_iload_n X.1 X.2.1 dX5_appendNodes_5 rfl (lv_at hl 2 rfl) ?_
  refine lv_iload_n X.1 X.2.1 dX5_appendNodes_6 rfl (lv_at hl 3 rfl) ?_
  refine lv_iadd X.1 X.2.1 dX5_appendNodes_7 ?_
  refine lv_icmp_ge (tgt := 38) X.1 X.2.1 dX5_appendNodes_8 (by decide) (fun c1 => ?_) (fun c1 => ?_)
  · replace hf := zif_pos c1 hf
    refine lv_iconst (v := 1) X.1 X.2.1 dX5_appendNodes_38 (by decide) ?_
    obtain ⟨rfl, rfl⟩ := zi2 hf
    exact ze_retZ X hr hlk (by decide) hW (Nat.le_refl _) (Nat.le_refl _) dX5_appendNodes_39
  · replace hf := zif_neg c1 hf
    refine lv_aload_n X.1 X.2.1 dX5_appendNodes_11 rfl (lv_at hl 0 rfl) ?_
    refine ze_aload_n X.1 X.2.1 dX5_appendNodes_12 rfl (lv_at hl 1 rfl) ?_
    refine lv_iload X.1 X.2.1 dX5_appendNodes_13 (lv_at hl 4 rfl) ?_
    obtain ⟨a2, rfl, k4, hg⟩ := zh_dr hf
    replace hf := hg
    obtain ⟨v5, h6, hg⟩ := zh_bd hf
    replace hf := hg
    refine ze_aftI0 (ze_runV (As := [.int x4]) (rest := [.ref (B + a0)]) X 5 29 (c_X5_headOf l D B n k4 h6) vX5_headOf kml_X5_29 hW k4 rfl rfl ⟨by decide, by decide⟩ rfl hl.1 rfl (Nat.le_of_ble_eq_true rfl) ⟨Nat.le_refl _, Nat.le_refl _⟩ dX5_appendNodes_15) hW (fun H locs hV => ?_)
    replace hW := hV
    refine lv_aload_n X.1 X.2.1 dX5_appendNodes_18 rfl (lv_at hl 1 rfl) ?_
    refine lv_iload X.1 X.2.1 dX5_appendNodes_19 (lv_at hl 4 rfl) ?_
    obtain ⟨v7, h8, hg⟩ := zh_bd hf
    replace hf := hg
    refine ze_aftI0 (ze_runV (As := [.int x4]) (rest := [.int v5, .ref (B + a0)]) X 5 33 (c_X5_argumentsOf l D B n k4 h8) vX5_argumentsOf kml_X5_33 hW k4 rfl rfl ⟨by decide, by decide⟩ rfl hl.1 rfl (Nat.le_of_ble_eq_true rfl) ⟨Nat.le_refl _, Nat.le_refl _⟩ dX5_appendNodes_21) hW (fun H locs hV => ?_)
    replace hW := hV
    obtain ⟨v9, I10, h11, hg⟩ := zh_bd2 hf
    replace hf := hg
    refine ze_aftI0 (ze_runV (As := [.int v5, .int v7]) (rest := []) X 5 36 (c_X5_append l D B n hK0 h11) vX5_append kml_X5_36 hW hK0 rfl rfl ⟨by decide, by decide⟩ rfl hl.1 rfl (Nat.le_of_ble_eq_true rfl) ⟨Nat.le_refl _, Nat.le_refl _⟩ dX5_appendNodes_24) hW (fun H locs hV => ?_)
    replace hW := hV
    refine lv_if_ne (tgt := 32) X.1 X.2.1 dX5_appendNodes_27 (by decide) (fun c12 => ?_) (fun c12 => ?_)
    · replace hf := zif_neg c12 hf
      refine ze_iinc (lv' := [(4, .int (x4 + (1 : Int32))), (0, .ref (B + a0)), (1, .ref (B + a2)), (2, .int x2), (3, .int x3)]) (d := 1) X.1 X.2.1 dX5_appendNodes_32 hl (k := 4) rfl (by decide) (by decide) rfl (fun ls hk => ?_)
      replace hl := hk
      refine lv_goto (tgt := 3) X.1 X.2.1 dX5_appendNodes_35 (by decide) ?_
      exact hkself _ _ _ _ _ _ _ _ hf hW (lv_sub hl [1, 2, 3, 4, 0] rfl)
    · replace hf := zif_pos c12 hf
      refine lv_iconst (v := 0) X.1 X.2.1 dX5_appendNodes_30 (by decide) ?_
      obtain ⟨rfl, rfl⟩ := zi2 hf
      exact ze_retZ X hr hlk (by decide) hW (Nat.le_refl _) (Nat.le_refl _) dX5_appendNodes_31
set_option maxRecDepth 100000 in
set_option maxHeartbeats 4000000 in
theorem w_X5_appendNodes_3 {F : Nat} {a0 : Nat}  (X : zX p s m c cX5_appendNodes 5 RX5 D) (hr : meth.sig.returnType = some .boolean) (hlk : meth.locks = false) (hK0 : (K a0).1 = 15)  {t : Nat} {x1 : Option Nat} {x2 : Int32} {x3 : Int32} {x4 : Int32} (hf : f_X5_appendNodes_3 F K R a0  t I x1 x2 x3 x4 = some (r, I')) (hW : zS (zOwn B K (B + n)) D B n K I R s.heap H locs) (hl : lv_has ls 5 [(0, .ref (B + a0)), (1, zrf B x1), (2, .int x2), (3, .int x3), (4, .int x4)]) : W p l e ({ frames := 3, cells := 0, slots := 0, locals := 83 } : Room) s m args below meth c H locs 0 0 (MQ below (zQi D (zOwn B K (B + n)) r B n K I' R) args s 0 0 (zOwn B K (B + n))) (F0 m 3 ls []) := by
  have key : ∀ t : Nat, ∀ (I : zI) (x1 : Option Nat) (x2 : Int32) (x3 : Int32) (x4 : Int32) (H : Heap) (locs : List Loc) (ls : Array Slot), f_X5_appendNodes_3 F K R a0  t I x1 x2 x3 x4 = some (r, I') → zS (zOwn B K (B + n)) D B n K I R s.heap H locs → lv_has ls 5 [(0, .ref (B + a0)), (1, zrf B x1), (2, .int x2), (3, .int x3), (4, .int x4)] → W p l e ({ frames := 3, cells := 0, slots := 0, locals := 83 } : Room) s m args below meth c H locs 0 0 (MQ below (zQi D (zOwn B K (B + n)) r B n K I' R) args s 0 0 (zOwn B K (B + n))) (F0 m 3 ls []) := by
    intro t
    induction t with
    | zero =>
      intro I x1 x2 x3 x4 H locs ls hf hW hl
      cases hf
    | succ t ih =>
      intro I x1 x2 x3 x4 H locs ls hf hW hl
      exact wg_X5_appendNodes_3 X hr hlk hK0  ih hf hW hl
  exact key t _ _ _ _ _ _ _ _ hf hW hl
set_option maxRecDepth 100000 in
set_option maxHeartbeats 4000000 in
theorem c_X5_appendNodes (l : Launch) (D : zD) (B n : Nat) {F : Nat} {K : zK} {I : zI} {R : zR} {a0 : Nat} {x1 : Option Nat} {x2 : Int32} {x3 : Int32} {r : Int32} {I' : zI} (hK0 : (K a0).1 = 15) (hf : f_X5_appendNodes F K I R a0 x1 x2 x3 = some (r, I')) : zM l yX5_appendNodes cX5_appendNodes 5 (some .boolean) ({ frames := 3, cells := 0, slots := 0, locals := 83 } : Room) D B n K I R [.ref (B + a0), zrf B x1, .int x2, .int x3] (zQi D (zOwn B K (B + n)) r B n K I' R) := by
  refine ze_entry (lv0 := [(0, .ref (B + a0)), (1, zrf B x1), (2, .int x2), (3, .int x3)]) (by decide) (by simp [lg_sl, zcat, zcat_i, zcat_r, zcat_l]) (by simp [lv_args, zcat, zcat_i, zcat_r, zcat_l]) (fun p e s m below meth c X hr hlk hin hW ls hl => ?_)
  unfold f_X5_appendNodes at hf
  refine lv_iload_n X.1 X.2.1 dX5_appendNodes_0 rfl (lv_at hl 2 rfl) ?_
  refine lv_istore (lv' := [(4, .int x2), (0, .ref (B + a0)), (1, zrf B x1), (2, .int x2), (3, .int x3)]) X.1 X.2.1 dX5_appendNodes_1 hl (by decide) rfl (fun ls hk => ?_)
  replace hl := hk
  exact w_X5_appendNodes_3 X hr hlk hK0 hf hW (lv_sub hl [1, 2, 3, 4, 0] rfl)
end

/-! LeastPatterns$Matcher.rewritten(LLeastPatterns$Term;)LLeastPatterns$Term; -/
def f_X1_rewritten_130 (F : Nat) (a0 : Nat) (k10 : Nat → zK → zI → zR → Option Nat → Option Nat → Int32 → Option (Option Nat × Nat × zK × zI × zR)) (n : Nat) (K : zK) (I : zI) (R : zR) (x1 : Option Nat) (x2 : Option Nat) (x3 : Int32) (x5 : Int32) : Option (Option Nat × Nat × zK × zI × zR) :=
  if x5 = (0 : Int32) then
    some (none, n, K, I, R)
  else
    k10 n K I R x1 x2 (x3 + (1 : Int32))
def g_X1_rewritten_10 (F : Nat) (a0 : Nat)  (kself : Nat → zK → zI → zR → Option Nat → Option Nat → Int32 → Option (Option Nat × Nat × zK × zI × zR)) (n : Nat) (K : zK) (I : zI) (R : zR) (x1 : Option Nat) (x2 : Option Nat) (x3 : Int32) : Option (Option Nat × Nat × zK × zI × zR) :=
  zbd (zdr K x1 15) fun a2 =>
  if (I a2 3) ≤ x3 then
    zbd (zdr K x2 15) fun a6 =>
    zbd (f_X5_settle F K I R a6) fun I9 =>
    zbd (f_X5_greatestDepth F K I9 R a6) fun v11 =>
    if (7 : Int32) < v11 then
      some (none, n, K, I9, R)
    else
      some ((some a6), n, K, I9, R)
  else
    zbd (f_X5_numberOf F K I R a2 x3) fun v14 =>
    zbd (f_X5_sortOf F K I R a2 x3) fun v16 =>
    if v16 = (0 : Int32) then
      zbd (f_X5_headOf F K I R a2 x3) fun v63 =>
      if (K a0).1 = 11 then
      zbd (f_X1_argumentsWhenFilled F K I R a0 (some a2) x3) fun v66 =>
      zbd (zdr K x2 15) fun a68 =>
      zbd2 (f_X5_append F K I R a68 v63 v66) fun v71 I72 =>
      f_X1_rewritten_130 F a0 kself n K I72 R (some a2) (some a68) x3 v71
      else none
    else
      zbd (f_X6_outside F K I R v14 (9 : Int32)) fun v19 =>
      if v19 = (0 : Int32) then
        zbd (f_X5_sortOf F K I R a2 x3) fun v22 =>
        if v22 = (2 : Int32) then
          if (K a0).1 = 11 then
          zbd (some (R a0 1)) fun o44 =>
          zbd (some (R a0 5)) fun o45 =>
          zbd (zdr K o45 1) fun a46 =>
          zbd (zrd K I a46 v14) fun v49 =>
          zbd (zdr K o44 15) fun a50 =>
          zbd (f_X5_headOf F K I R a50 v49) fun v53 =>
          zbd (f_X1_argumentsWhenFilled F K I R a0 (some a2) x3) fun v55 =>
          zbd (zdr K x2 15) fun a57 =>
          zbd2 (f_X5_append F K I R a57 v53 v55) fun v60 I61 =>
          f_X1_rewritten_130 F a0 kself n K I61 R (some a2) (some a57) x3 v60
          else none
        else
          if (K a0).1 = 11 then
          zbd (some (R a0 1)) fun o26 =>
          zbd (some (R a0 5)) fun o27 =>
          zbd (zdr K o27 1) fun a28 =>
          zbd (zrd K I a28 v14) fun v31 =>
          zbd (some (R a0 6)) fun o32 =>
          zbd (zdr K o32 1) fun a33 =>
          zbd (zrd K I a33 v14) fun v36 =>
          zbd (zdr K x2 15) fun a37 =>
          zbd2 (f_X5_appendNodes F K I R a37 o26 v31 v36) fun v40 I41 =>
          f_X1_rewritten_130 F a0 kself n K I41 R (some a2) (some a37) x3 v40
          else none
      else
        some (none, n, K, I, R)
def f_X1_rewritten_10 (F : Nat) (a0 : Nat)  : Nat → Nat → zK → zI → zR → Option Nat → Option Nat → Int32 → Option (Option Nat × Nat × zK × zI × zR)
  | 0, _, _, _, _, _, _, _ => none
  | t + 1, n, K, I, R, x1, x2, x3 => g_X1_rewritten_10 F a0  (f_X1_rewritten_10 F a0  t) n K I R x1 x2 x3
def f_X1_rewritten (F : Nat) (n : Nat) (K : zK) (I : zI) (R : zR) (a0 : Nat) (x1 : Option Nat) : Option (Option Nat × Nat × zK × zI × zR) :=
  zbd4 (some (n + 1, zset K n (15, 0), zclr I n 0, zclr R n none)) fun n74 K75 I76 R77 =>
  zbd4 (f_X5_init F n74 K75 I76 R77 n) fun n78 K79 I80 R81 =>
  f_X1_rewritten_10 F a0 F n78 K79 I80 R81 x1 (some n) (0 : Int32)
section
variable {p : Program} {l : Launch} {e : Env} {s : State} {m : MethodId} {args : Array Value} {below : List Frame} {meth : Method} {c : Code} {D : zD} {B n n0 n' fd ld : Nat} {K K0 K' : zK} {I I' : zI} {R R' : zR} {H : Heap} {locs : List Loc} {ls : Array Slot} {r : Option Nat}
set_option maxRecDepth 100000 in
set_option maxHeartbeats 4000000 in
theorem w_X1_rewritten_130 {F : Nat} {a0 : Nat} {k10 : Nat → zK → zI → zR → Option Nat → Option Nat → Int32 → Option (Option Nat × Nat × zK × zI × zR)} (X : zX p s m c cX1_rewritten 6 RX1 D) (hr : meth.sig.returnType = some (.object "LeastPatterns$Term")) (hlk : meth.locks = false) (hk10 : ∀ (n : Nat) (K : zK) (I : zI) (R : zR) (x1 : Option Nat) (x2 : Option Nat) (x3 : Int32) (cells slots : Nat) (H : Heap) (locs : List Loc) (ls : Array Slot), k10 n K I R x1 x2 x3 = some (r, n', K', I', R') → cells + 0 ≤ 4 → slots + 0 ≤ 100 → zS (zOwn B K0 (B + n0)) D B n K I R s.heap H locs → lv_has ls 6 [(0, .ref (B + a0)), (1, zrf B x1), (2, zrf B x2), (3, .int x3)] → W p l e ({ frames := 4, cells := 4, slots := 100, locals := 110 } : Room) s m args below meth c H locs cells slots (MQ below (zQq D (zOwn B K0 (B + n0)) r B n' K' I' R') args s 4 100 (zOwn B K0 (B + n0))) (F0 m 10 ls [])) {x1 : Option Nat} {x2 : Option Nat} {x3 : Int32} {x5 : Int32} {cells slots : Nat} (hf : f_X1_rewritten_130 F a0 k10 n K I R x1 x2 x3 x5 = some (r, n', K', I', R')) (b1 : cells + 0 ≤ 4) (b2 : slots + 0 ≤ 100) (hW : zS (zOwn B K0 (B + n0)) D B n K I R s.heap H locs) (hl : lv_has ls 6 [(0, .ref (B + a0)), (1, zrf B x1), (2, zrf B x2), (3, .int x3), (5, .int x5)]) : W p l e ({ frames := 4, cells := 4, slots := 100, locals := 110 } : Room) s m args below meth c H locs cells slots (MQ below (zQq D (zOwn B K0 (B + n0)) r B n' K' I' R') args s 4 100 (zOwn B K0 (B + n0))) (F0 m 130 ls []) := by
  unfold f_X1_rewritten_130 at hf
  refine lv_iload X.1 X.2.1 dX1_rewritten_130 (lv_at hl 4 rfl) ?_
  refine lv_if_ne (tgt := 137) X.1 X.2.1 dX1_rewritten_132 (by decide) (fun c1 => ?_) (fun c1 => ?_)
  · replace hf := zif_neg c1 hf
    refine ze_iinc (lv' := [(3, .int (x3 + (1 : Int32))), (0, .ref (B + a0)), (1, zrf B x1), (2, zrf B x2), (5, .int x5)]) (d := 1) X.1 X.2.1 dX1_rewritten_137 hl (k := 3) rfl (by decide) (by decide) (by first | rfl | (simp [zcat, zcat_i, zcat_r, zcat_l, zrf_some]; done) | (simp [zcat, zcat_i, zcat_r, zcat_l, zrf_some]; decide)) (fun ls hk => ?_)
    replace hl := hk
    refine lv_goto (tgt := 10) X.1 X.2.1 dX1_rewritten_140 (by decide) ?_
    exact hk10 _ _ _ _ _ _ _ _ _ _ _ _ hf (by (try dsimp only); omega) (by (try dsimp only); omega) hW (lv_sub hl [1, 2, 3, 0] rfl)
  · replace hf := zif_pos c1 hf
    refine lv_null X.1 X.2.1 dX1_rewritten_135 ?_
    obtain ⟨rfl, rfl, rfl, rfl, rfl⟩ := zi5 hf
    exact ze_retQ X hr hlk hW (by (try dsimp only); omega) (by (try dsimp only); omega) dX1_rewritten_136
set_option maxRecDepth 100000 in
set_option maxHeartbeats 4000000 in
theorem wg_X1_rewritten_10 {F : Nat} {a0 : Nat}  (X : zX p s m c cX1_rewritten 6 RX1 D) (hr : meth.sig.returnType = some (.object "LeastPatterns$Term")) (hlk : meth.locks = false)  {kself : Nat → zK → zI → zR → Option Nat → Option Nat → Int32 → Option (Option Nat × Nat × zK × zI × zR)} (hkself : ∀ (n : Nat) (K : zK) (I : zI) (R : zR) (x1 : Option Nat) (x2 : Option Nat) (x3 : Int32) (cells slots : Nat) (H : Heap) (locs : List Loc) (ls : Array Slot), kself n K I R x1 x2 x3 = some (r, n', K', I', R') → cells + 0 ≤ 4 → slots + 0 ≤ 100 → zS (zOwn B K0 (B + n0)) D B n K I R s.heap H locs → lv_has ls 6 [(0, .ref (B + a0)), (1, zrf B x1), (2, zrf B x2), (3, .int x3)] → W p l e ({ frames := 4, cells := 4, slots := 100, locals := 110 } : Room) s m args below meth c H locs cells slots (MQ below (zQq D (zOwn B K0 (B + n0)) r B n' K' I' R') args s 4 100 (zOwn B K0 (B + n0))) (F0 m 10 ls [])) {x1 : Option Nat} {x2 : Option Nat} {x3 : Int32} {cells slots : Nat} (hf : g_X1_rewritten_10 F a0  kself n K I R x1 x2 x3 = some (r, n', K', I', R')) (b1 : cells + 0 ≤ 4) (b2 : slots + 0 ≤ 100) (hW : zS (zOwn B K0 (B + n0)) D B n K I R s.heap H locs) (hl : lv_has ls 6 [(0, .ref (B + a0)), (1, zrf B x1), (2, zrf B x2), (3, .int x3)]) : W p l e ({ frames := 4, cells := 4, slots := 100, locals := 110 } : Room) s m args below meth c H locs cells slots (MQ below (zQq D (zOwn B K0 (B + n0)) r B n' K' I' R') args s 4 100 (zOwn B K0 (B + n0))) (F0 m 10 ls []) := by
  unfold g_X1_rewritten_10 at hf
  refine lv_iload_n X.1 X.2.1 dX1_rewritten_10 rfl (lv_at hl 3 rfl) ?_
  refine ze_aload_n X.1 X.2.1 dX1_rewritten_11 rfl (lv_at hl 1 rfl) ?_
  obtain ⟨a2, rfl, k4, hg⟩ := zh_dr hf
  replace hf := hg
  refine ze_getIN X 5 3 40 (RX5, TX5, 4) rfl hW k4 rfl (by decide) kfl_X1_40 dX1_rewritten_12 ?_
  refine lv_icmp_ge (tgt := 143) X.1 X.2.1 dX1_rewritten_15 (by decide) (fun c5 => ?_) (fun c5 => ?_)
  · replace hf := zif_pos c5 hf
    refine ze_aload_n X.1 X.2.1 dX1_rewritten_143 rfl (lv_at hl 2 rfl) ?_
    obtain ⟨a6, rfl, k8, hg⟩ := zh_dr hf
    replace hf := hg
    obtain ⟨I9, h10, hg⟩ := zh_bd hf
    replace hf := hg
    refine ze_aftV0 (ze_runV (As := []) (rest := []) X 5 110 (c_X5_settle l D B n k8 h10) vX5_settle kml_X1_110 hW k8 rfl rfl ⟨by decide, by decide⟩ rfl hl.1 rfl (Nat.le_of_ble_eq_true rfl) ⟨by show _ + 0 ≤ (4 : Nat); (try dsimp only); omega, by show _ + 0 ≤ (100 : Nat); (try dsimp only); omega⟩ dX1_rewritten_144) hW (fun H locs hV => ?_)
    replace hW := hV
    refine lv_aload_n X.1 X.2.1 dX1_rewritten_147 rfl (lv_at hl 2 rfl) ?_
    obtain ⟨v11, h12, hg⟩ := zh_bd hf
    replace hf := hg
    refine ze_aftI0 (ze_runV (As := []) (rest := []) X 5 113 (c_X5_greatestDepth l D B n k8 h12) vX5_greatestDepth kml_X1_113 hW k8 rfl rfl ⟨by decide, by decide⟩ rfl hl.1 rfl (Nat.le_of_ble_eq_true rfl) ⟨by show _ + 0 ≤ (4 : Nat); (try dsimp only); omega, by show _ + 0 ≤ (100 : Nat); (try dsimp only); omega⟩ dX1_rewritten_148) hW (fun H locs hV => ?_)
    replace hW := hV
    refine lv_bipush (v := 7) X.1 X.2.1 dX1_rewritten_151 (by decide) ?_
    refine lv_icmp_gt (tgt := 160) X.1 X.2.1 dX1_rewritten_153 (by decide) (fun c13 => ?_) (fun c13 => ?_)
    · replace hf := zif_pos c13 hf
      refine lv_null X.1 X.2.1 dX1_rewritten_160 ?_
      obtain ⟨rfl, rfl, rfl, rfl, rfl⟩ := zi5 hf
      exact ze_retQ X hr hlk hW (by (try dsimp only); omega) (by (try dsimp only); omega) dX1_rewritten_161
    · replace hf := zif_neg c13 hf
      refine lv_aload_n X.1 X.2.1 dX1_rewritten_156 rfl (lv_at hl 2 rfl) ?_
      refine lv_goto (tgt := 161) X.1 X.2.1 dX1_rewritten_157 (by decide) ?_
      obtain ⟨rfl, rfl, rfl, rfl, rfl⟩ := zi5 hf
      exact ze_retQ X hr hlk hW (by (try dsimp only); omega) (by (try dsimp only); omega) dX1_rewritten_161
  · replace hf := zif_neg c5 hf
    refine lv_aload_n X.1 X.2.1 dX1_rewritten_18 rfl (lv_at hl 1 rfl) ?_
    refine lv_iload_n X.1 X.2.1 dX1_rewritten_19 rfl (lv_at hl 3 rfl) ?_
    obtain ⟨v14, h15, hg⟩ := zh_bd hf
    replace hf := hg
    refine ze_aftI0 (ze_runV (As := [.int x3]) (rest := []) X 5 75 (c_X5_numberOf l D B n k4 h15) vX5_numberOf kml_X1_75 hW k4 rfl rfl ⟨by decide, by decide⟩ rfl hl.1 rfl (Nat.le_of_ble_eq_true rfl) ⟨by show _ + 0 ≤ (4 : Nat); (try dsimp only); omega, by show _ + 0 ≤ (100 : Nat); (try dsimp only); omega⟩ dX1_rewritten_20) hW (fun H locs hV => ?_)
    replace hW := hV
    refine lv_istore (lv' := [(4, .int v14), (0, .ref (B + a0)), (1, .ref (B + a2)), (2, zrf B x2), (3, .int x3)]) X.1 X.2.1 dX1_rewritten_23 hl (by decide) rfl (fun ls hk => ?_)
    replace hl := hk
    refine lv_iconst (v := 0) X.1 X.2.1 dX1_rewritten_25 (by decide) ?_
    refine lv_istore (lv' := [(5, .int (0 : Int32)), (4, .int v14), (0, .ref (B + a0)), (1, .ref (B + a2)), (2, zrf B x2), (3, .int x3)]) X.1 X.2.1 dX1_rewritten_26 hl (by decide) rfl (fun ls hk => ?_)
    replace hl := hk
    refine lv_aload_n X.1 X.2.1 dX1_rewritten_28 rfl (lv_at hl 3 rfl) ?_
    refine lv_iload_n X.1 X.2.1 dX1_rewritten_29 rfl (lv_at hl 5 rfl) ?_
    obtain ⟨v16, h17, hg⟩ := zh_bd hf
    replace hf := hg
    refine ze_aftI0 (ze_runV (As := [.int x3]) (rest := []) X 5 48 (c_X5_sortOf l D B n k4 h17) vX5_sortOf kml_X1_48 hW k4 rfl rfl ⟨by decide, by decide⟩ rfl hl.1 rfl (Nat.le_of_ble_eq_true rfl) ⟨by show _ + 0 ≤ (4 : Nat); (try dsimp only); omega, by show _ + 0 ≤ (100 : Nat); (try dsimp only); omega⟩ dX1_rewritten_30) hW (fun H locs hV => ?_)
    replace hW := hV
    refine lv_if_ne (tgt := 56) X.1 X.2.1 dX1_rewritten_33 (by decide) (fun c18 => ?_) (fun c18 => ?_)
    · replace hf := zif_neg c18 hf
      refine lv_iload X.1 X.2.1 dX1_rewritten_56 (lv_at hl 1 rfl) ?_
      refine lv_bipush (v := 9) X.1 X.2.1 dX1_rewritten_58 (by decide) ?_
      obtain ⟨v19, h20, hg⟩ := zh_bd hf
      replace hf := hg
      refine ze_aftI0 (ze_runSN (As := [.int v14, .int (9 : Int32)]) (rest := []) X 78 (c_X6_outside l D B n h20) vX6_outside kml_X1_78 hW ⟨by decide, by decide⟩ rfl hl.1 rfl (Nat.le_of_ble_eq_true rfl) ⟨by show _ + 0 ≤ (4 : Nat); (try dsimp only); omega, by show _ + 0 ≤ (100 : Nat); (try dsimp only); omega⟩ dX1_rewritten_60) hW (fun H locs hV => ?_)
      replace hW := hV
      refine lv_if_eq (tgt := 68) X.1 X.2.1 dX1_rewritten_63 (by decide) (fun c21 => ?_) (fun c21 => ?_)
      · replace hf := zif_pos c21 hf
        refine lv_aload_n X.1 X.2.1 dX1_rewritten_68 rfl (lv_at hl 3 rfl) ?_
        refine lv_iload_n X.1 X.2.1 dX1_rewritten_69 rfl (lv_at hl 5 rfl) ?_
        obtain ⟨v22, h23, hg⟩ := zh_bd hf
        replace hf := hg
        refine ze_aftI0 (ze_runV (As := [.int x3]) (rest := []) X 5 48 (c_X5_sortOf l D B n k4 h23) vX5_sortOf kml_X1_48 hW k4 rfl rfl ⟨by decide, by decide⟩ rfl hl.1 rfl (Nat.le_of_ble_eq_true rfl) ⟨by show _ + 0 ≤ (4 : Nat); (try dsimp only); omega, by show _ + 0 ≤ (100 : Nat); (try dsimp only); omega⟩ dX1_rewritten_70) hW (fun H locs hV => ?_)
        replace hW := hV
        refine lv_iconst (v := 2) X.1 X.2.1 dX1_rewritten_73 (by decide) ?_
        refine lv_icmp_ne (tgt := 106) X.1 X.2.1 dX1_rewritten_74 (by decide) (fun c24 => ?_) (fun c24 => ?_)
        · replace hf := zif_neg c24 hf
          refine ze_aload_n X.1 X.2.1 dX1_rewritten_106 rfl (lv_at hl 4 rfl) ?_
          refine lv_aload_n X.1 X.2.1 dX1_rewritten_107 rfl (lv_at hl 2 rfl) ?_
          obtain ⟨k25, hg⟩ := zh_if hf
          replace hf := hg
          refine ze_gtR X 1 1 18 (RX1, TX1, 8) rfl hf hW k25 rfl (by decide) kfl_X1_18 dX1_rewritten_108 (fun o26 hg => ?_)
          replace hf := hg
          refine lv_aload_n X.1 X.2.1 dX1_rewritten_111 rfl (lv_at hl 2 rfl) ?_
          refine ze_gtR X 1 5 31 (RX1, TX1, 8) rfl hf hW k25 rfl (by decide) kfl_X1_31 dX1_rewritten_112 (fun o27 hg => ?_)
          replace hf := hg
          refine lv_iload X.1 X.2.1 dX1_rewritten_115 (lv_at hl 1 rfl) ?_
          obtain ⟨a28, rfl, k30, hg⟩ := zh_dr hf
          replace hf := hg
          refine ze_iald X hf hW k30 dX1_rewritten_117 (fun v31 hg => ?_)
          replace hf := hg
          refine lv_aload_n X.1 X.2.1 dX1_rewritten_118 rfl (lv_at hl 2 rfl) ?_
          refine ze_gtR X 1 6 34 (RX1, TX1, 8) rfl hf hW k25 rfl (by decide) kfl_X1_34 dX1_rewritten_119 (fun o32 hg => ?_)
          replace hf := hg
          refine lv_iload X.1 X.2.1 dX1_rewritten_122 (lv_at hl 1 rfl) ?_
          obtain ⟨a33, rfl, k35, hg⟩ := zh_dr hf
          replace hf := hg
          refine ze_iald X hf hW k35 dX1_rewritten_124 (fun v36 hg => ?_)
          replace hf := hg
          obtain ⟨a37, rfl, k39, hg⟩ := zh_dr hf
          replace hf := hg
          obtain ⟨v40, I41, h42, hg⟩ := zh_bd2 hf
          replace hf := hg
          refine ze_aftI0 (ze_runV (As := [zrf B o26, .int v31, .int v36]) (rest := []) X 5 106 (c_X5_appendNodes l D B n k39 h42) vX5_appendNodes kml_X1_106 hW k39 rfl rfl ⟨by decide, by decide⟩ rfl hl.1 rfl (Nat.le_of_ble_eq_true rfl) ⟨by show _ + 0 ≤ (4 : Nat); (try dsimp only); omega, by show _ + 0 ≤ (100 : Nat); (try dsimp only); omega⟩ dX1_rewritten_125) hW (fun H locs hV => ?_)
          replace hW := hV
          refine lv_istore (lv' := [(5, .int v40), (4, .int v14), (0, .ref (B + a0)), (1, .ref (B + a2)), (2, .ref (B + a37)), (3, .int x3)]) X.1 X.2.1 dX1_rewritten_128 hl (by decide) rfl (fun ls hk => ?_)
          replace hl := hk
          exact w_X1_rewritten_130 X hr hlk hkself hf (by (try dsimp only); omega) (by (try dsimp only); omega) hW (lv_sub hl [2, 3, 4, 5, 0] rfl)
        · replace hf := zif_pos c24 hf
          refine ze_aload_n X.1 X.2.1 dX1_rewritten_77 rfl (lv_at hl 4 rfl) ?_
          refine lv_aload_n X.1 X.2.1 dX1_rewritten_78 rfl (lv_at hl 2 rfl) ?_
          obtain ⟨k43, hg⟩ := zh_if hf
          replace hf := hg
          refine ze_gtR X 1 1 18 (RX1, TX1, 8) rfl hf hW k43 rfl (by decide) kfl_X1_18 dX1_rewritten_79 (fun o44 hg => ?_)
          replace hf := hg
          refine lv_aload_n X.1 X.2.1 dX1_rewritten_82 rfl (lv_at hl 2 rfl) ?_
          refine ze_gtR X 1 5 31 (RX1, TX1, 8) rfl hf hW k43 rfl (by decide) kfl_X1_31 dX1_rewritten_83 (fun o45 hg => ?_)
          replace hf := hg
          refine lv_iload X.1 X.2.1 dX1_rewritten_86 (lv_at hl 1 rfl) ?_
          obtain ⟨a46, rfl, k48, hg⟩ := zh_dr hf
          replace hf := hg
          refine ze_iald X hf hW k48 dX1_rewritten_88 (fun v49 hg => ?_)
          replace hf := hg
          obtain ⟨a50, rfl, k52, hg⟩ := zh_dr hf
          replace hf := hg
          obtain ⟨v53, h54, hg⟩ := zh_bd hf
          replace hf := hg
          refine ze_aftI0 (ze_runV (As := [.int v49]) (rest := [zrf B x2]) X 5 66 (c_X5_headOf l D B n k52 h54) vX5_headOf kml_X1_66 hW k52 rfl rfl ⟨by decide, by decide⟩ rfl hl.1 rfl (by simp [zcat, zcat_i, zcat_r, zcat_l]) ⟨by show _ + 0 ≤ (4 : Nat); (try dsimp only); omega, by show _ + 0 ≤ (100 : Nat); (try dsimp only); omega⟩ dX1_rewritten_89) hW (fun H locs hV => ?_)
          replace hW := hV
          refine lv_aload_n X.1 X.2.1 dX1_rewritten_92 rfl (lv_at hl 2 rfl) ?_
          refine lv_aload_n X.1 X.2.1 dX1_rewritten_93 rfl (lv_at hl 3 rfl) ?_
          refine lv_iload_n X.1 X.2.1 dX1_rewritten_94 rfl (lv_at hl 5 rfl) ?_
          obtain ⟨v55, h56, hg⟩ := zh_bd hf
          replace hf := hg
          refine ze_aftI0 (ze_runV (As := [.ref (B + a2), .int x3]) (rest := [.int v53, zrf B x2]) X 1 99 (c_X1_argumentsWhenFilled l D B n k43 h56) vX1_argumentsWhenFilled kml_X1_99 hW k43 rfl rfl ⟨by decide, by decide⟩ rfl hl.1 rfl (by simp [zcat, zcat_i, zcat_r, zcat_l]) ⟨by show _ + 0 ≤ (4 : Nat); (try dsimp only); omega, by show _ + 0 ≤ (100 : Nat); (try dsimp only); omega⟩ dX1_rewritten_95) hW (fun H locs hV => ?_)
          replace hW := hV
          obtain ⟨a57, rfl, k59, hg⟩ := zh_dr hf
          replace hf := hg
          obtain ⟨v60, I61, h62, hg⟩ := zh_bd2 hf
          replace hf := hg
          refine ze_aftI0 (ze_runV (As := [.int v53, .int v55]) (rest := []) X 5 103 (c_X5_append l D B n k59 h62) vX5_append kml_X1_103 hW k59 rfl rfl ⟨by decide, by decide⟩ rfl hl.1 rfl (Nat.le_of_ble_eq_true rfl) ⟨by show _ + 0 ≤ (4 : Nat); (try dsimp only); omega, by show _ + 0 ≤ (100 : Nat); (try dsimp only); omega⟩ dX1_rewritten_98) hW (fun H locs hV => ?_)
          replace hW := hV
          refine lv_istore (lv' := [(5, .int v60), (4, .int v14), (0, .ref (B + a0)), (1, .ref (B + a2)), (2, .ref (B + a57)), (3, .int x3)]) X.1 X.2.1 dX1_rewritten_101 hl (by decide) rfl (fun ls hk => ?_)
          replace hl := hk
          refine lv_goto (tgt := 130) X.1 X.2.1 dX1_rewritten_103 (by decide) ?_
          exact w_X1_rewritten_130 X hr hlk hkself hf (by (try dsimp only); omega) (by (try dsimp only); omega) hW (lv_sub hl [2, 3, 4, 5, 0] rfl)
      · replace hf := zif_neg c21 hf
        refine lv_null X.1 X.2.1 dX1_rewritten_66 ?_
        obtain ⟨rfl, rfl, rfl, rfl, rfl⟩ := zi5 hf
        exact ze_retQ X hr hlk hW (by (try dsimp only); omega) (by (try dsimp only); omega) dX1_rewritten_67
    · replace hf := zif_pos c18 hf
      refine ze_aload_n X.1 X.2.1 dX1_rewritten_36 rfl (lv_at hl 4 rfl) ?_
      refine lv_aload_n X.1 X.2.1 dX1_rewritten_37 rfl (lv_at hl 3 rfl) ?_
      refine lv_iload_n X.1 X.2.1 dX1_rewritten_38 rfl (lv_at hl 5 rfl) ?_
      obtain ⟨v63, h64, hg⟩ := zh_bd hf
      replace hf := hg
      refine ze_aftI0 (ze_runV (As := [.int x3]) (rest := [zrf B x2]) X 5 66 (c_X5_headOf l D B n k4 h64) vX5_headOf kml_X1_66 hW k4 rfl rfl ⟨by decide, by decide⟩ rfl hl.1 rfl (by simp [zcat, zcat_i, zcat_r, zcat_l]) ⟨by show _ + 0 ≤ (4 : Nat); (try dsimp only); omega, by show _ + 0 ≤ (100 : Nat); (try dsimp only); omega⟩ dX1_rewritten_39) hW (fun H locs hV => ?_)
      replace hW := hV
      refine lv_aload_n X.1 X.2.1 dX1_rewritten_42 rfl (lv_at hl 2 rfl) ?_
      refine lv_aload_n X.1 X.2.1 dX1_rewritten_43 rfl (lv_at hl 3 rfl) ?_
      refine lv_iload_n X.1 X.2.1 dX1_rewritten_44 rfl (lv_at hl 5 rfl) ?_
      obtain ⟨k65, hg⟩ := zh_if hf
      replace hf := hg
      obtain ⟨v66, h67, hg⟩ := zh_bd hf
      replace hf := hg
      refine ze_aftI0 (ze_runV (As := [.ref (B + a2), .int x3]) (rest := [.int v63, zrf B x2]) X 1 99 (c_X1_argumentsWhenFilled l D B n k65 h67) vX1_argumentsWhenFilled kml_X1_99 hW k65 rfl rfl ⟨by decide, by decide⟩ rfl hl.1 rfl (by simp [zcat, zcat_i, zcat_r, zcat_l]) ⟨by show _ + 0 ≤ (4 : Nat); (try dsimp only); omega, by show _ + 0 ≤ (100 : Nat); (try dsimp only); omega⟩ dX1_rewritten_45) hW (fun H locs hV => ?_)
      replace hW := hV
      obtain ⟨a68, rfl, k70, hg⟩ := zh_dr hf
      replace hf := hg
      obtain ⟨v71, I72, h73, hg⟩ := zh_bd2 hf
      replace hf := hg
      refine ze_aftI0 (ze_runV (As := [.int v63, .int v66]) (rest := []) X 5 103 (c_X5_append l D B n k70 h73) vX5_append kml_X1_103 hW k70 rfl rfl ⟨by decide, by decide⟩ rfl hl.1 rfl (Nat.le_of_ble_eq_true rfl) ⟨by show _ + 0 ≤ (4 : Nat); (try dsimp only); omega, by show _ + 0 ≤ (100 : Nat); (try dsimp only); omega⟩ dX1_rewritten_48) hW (fun H locs hV => ?_)
      replace hW := hV
      refine lv_istore (lv' := [(5, .int v71), (4, .int v14), (0, .ref (B + a0)), (1, .ref (B + a2)), (2, .ref (B + a68)), (3, .int x3)]) X.1 X.2.1 dX1_rewritten_51 hl (by decide) rfl (fun ls hk => ?_)
      replace hl := hk
      refine lv_goto (tgt := 130) X.1 X.2.1 dX1_rewritten_53 (by decide) ?_
      exact w_X1_rewritten_130 X hr hlk hkself hf (by (try dsimp only); omega) (by (try dsimp only); omega) hW (lv_sub hl [2, 3, 4, 5, 0] rfl)
set_option maxRecDepth 100000 in
set_option maxHeartbeats 4000000 in
theorem w_X1_rewritten_10 {F : Nat} {a0 : Nat}  (X : zX p s m c cX1_rewritten 6 RX1 D) (hr : meth.sig.returnType = some (.object "LeastPatterns$Term")) (hlk : meth.locks = false)  {t : Nat} {x1 : Option Nat} {x2 : Option Nat} {x3 : Int32} {cells slots : Nat} (hf : f_X1_rewritten_10 F a0  t n K I R x1 x2 x3 = some (r, n', K', I', R')) (b1 : cells + 0 ≤ 4) (b2 : slots + 0 ≤ 100) (hW : zS (zOwn B K0 (B + n0)) D B n K I R s.heap H locs) (hl : lv_has ls 6 [(0, .ref (B + a0)), (1, zrf B x1), (2, zrf B x2), (3, .int x3)]) : W p l e ({ frames := 4, cells := 4, slots := 100, locals := 110 } : Room) s m args below meth c H locs cells slots (MQ below (zQq D (zOwn B K0 (B + n0)) r B n' K' I' R') args s 4 100 (zOwn B K0 (B + n0))) (F0 m 10 ls []) := by
  have key : ∀ t : Nat, ∀ (n : Nat) (K : zK) (I : zI) (R : zR) (x1 : Option Nat) (x2 : Option Nat) (x3 : Int32) (cells slots : Nat) (H : Heap) (locs : List Loc) (ls : Array Slot), f_X1_rewritten_10 F a0  t n K I R x1 x2 x3 = some (r, n', K', I', R') → cells + 0 ≤ 4 → slots + 0 ≤ 100 → zS (zOwn B K0 (B + n0)) D B n K I R s.heap H locs → lv_has ls 6 [(0, .ref (B + a0)), (1, zrf B x1), (2, zrf B x2), (3, .int x3)] → W p l e ({ frames := 4, cells := 4, slots := 100, locals := 110 } : Room) s m args below meth c H locs cells slots (MQ below (zQq D (zOwn B K0 (B + n0)) r B n' K' I' R') args s 4 100 (zOwn B K0 (B + n0))) (F0 m 10 ls []) := by
    intro t
    induction t with
    | zero =>
      intro n K I R x1 x2 x3 cells slots H locs ls hf b1 b2 hW hl
      cases hf
    | succ t ih =>
      intro n K I R x1 x2 x3 cells slots H locs ls hf b1 b2 hW hl
      exact wg_X1_rewritten_10 X hr hlk  ih hf b1 b2 hW hl
  exact key t _ _ _ _ _ _ _ _ _ _ _ _ hf b1 b2 hW hl
set_option maxRecDepth 100000 in
set_option maxHeartbeats 4000000 in
theorem c_X1_rewritten (l : Launch) (D : zD) (B n : Nat) {F : Nat} {K : zK} {I : zI} {R : zR} {a0 : Nat} {x1 : Option Nat} {r : Option Nat} {n' : Nat} {K' : zK} {I' : zI} {R' : zR} (hf : f_X1_rewritten F n K I R a0 x1 = some (r, n', K', I', R')) : zM l yX1_rewritten cX1_rewritten 6 (some (.object "LeastPatterns$Term")) ({ frames := 4, cells := 4, slots := 100, locals := 110 } : Room) D B n K I R [.ref (B + a0), zrf B x1] (zQq D (zOwn B K (B + n)) r B n' K' I' R') := by
  refine ze_entry (lv0 := [(0, .ref (B + a0)), (1, zrf B x1)]) (by decide) (by simp [lg_sl, zcat, zcat_i, zcat_r, zcat_l]) (by simp [lv_args, zcat, zcat_i, zcat_r, zcat_l]) (fun p e s m below meth c X hr hlk hin hW ls hl => ?_)
  unfold f_X1_rewritten at hf
  have b1 : (0 : Nat) ≤ 0 := Nat.le_refl _
  refine ze_nw X 5 9 (RX5, TX5, 4) hf rfl kcx_X1_9 kci_X5 kit_X5 hW (by show _ ≤ (4 : Nat); (try dsimp only); omega) (by show _ ≤ (100 : Nat); (try dsimp only); omega) dX1_rewritten_0 (fun n74 K75 I76 R77 H hg hV => ?_)
  replace hf := hg
  replace hW := hV
  refine lv_dup X.1 X.2.1 dX1_rewritten_3 rfl ?_
  obtain ⟨n78, K79, I80, R81, h82, hg⟩ := zh_bd4 hf
  replace hf := hg
  refine ze_aftV (ze_runIN (b := n) (As := []) (rest := [.ref (B + n)]) X 11 (c_X5_init l D B n74 h82) vX5_init kml_X1_11 hW ⟨by decide, by decide⟩ rfl hl.1 rfl (Nat.le_of_ble_eq_true rfl) ⟨by show _ + 3 ≤ (4 : Nat); (try dsimp only); omega, by show _ + 96 ≤ (100 : Nat); (try dsimp only); omega⟩ dX1_rewritten_4) hW (fun H locs hV => ?_)
  replace hW := hV
  refine lv_astore_n (i := 2) (lv' := [(2, .ref (B + n)), (0, .ref (B + a0)), (1, zrf B x1)]) X.1 X.2.1 dX1_rewritten_7 rfl hl (by decide) (by first | rfl | (simp [zcat, zcat_i, zcat_r, zcat_l, zrf_some]; done) | (simp [zcat, zcat_i, zcat_r, zcat_l, zrf_some]; decide)) (fun ls hk => ?_)
  replace hl := hk
  refine lv_iconst (v := 0) X.1 X.2.1 dX1_rewritten_8 (by decide) ?_
  refine lv_istore_n (i := 3) (lv' := [(3, .int (0 : Int32)), (2, .ref (B + n)), (0, .ref (B + a0)), (1, zrf B x1)]) X.1 X.2.1 dX1_rewritten_9 rfl hl (by decide) rfl (fun ls hk => ?_)
  replace hl := hk
  exact w_X1_rewritten_10 X hr hlk hf (by (try dsimp only); omega) (by (try dsimp only); omega) hW (lv_sub hl [2, 3, 1, 0] rfl)
end

/-! LeastPatterns.apply(IIII)I -/
def f_X6_apply (F : Nat) (n : Nat) (K : zK) (I : zI) (R : zR) (a0 : Nat) (x1 : Int32) (x2 : Int32) (x3 : Int32) (x4 : Int32) : Option (Int32 × Nat × zK × zI × zR) :=
  zbd (f_X6_noRegister F K I R x1) fun v1 =>
  if v1 = (0 : Int32) then
    zbd (f_X6_noRegister F K I R x2) fun v4 =>
    if v4 = (0 : Int32) then
      zbd (f_X6_noRegister F K I R x3) fun v7 =>
      if v7 = (0 : Int32) then
        zbd (f_X6_noRegister F K I R x4) fun v10 =>
        if v10 = (0 : Int32) then
          if (K a0).1 = 16 then
          zbd (some (R a0 3)) fun o14 =>
          zbd (zdr K o14 14) fun a15 =>
          zbd (f_X4_term F K I R a15 x1) fun o18 =>
          zbd (some (R a0 3)) fun o20 =>
          zbd (zdr K o20 14) fun a21 =>
          zbd (f_X4_term F K I R a21 x2) fun o24 =>
          zbd (some (R a0 3)) fun o26 =>
          zbd (zdr K o26 14) fun a27 =>
          zbd (f_X4_term F K I R a27 x3) fun o30 =>
          zcs o18 (
            some ((-2 : Int32), n, K, I, R)
          ) fun a32 =>
            zcs o24 (
              some ((-2 : Int32), n, K, I, R)
            ) fun a34 =>
              zcs o30 (
                some ((-2 : Int32), n, K, I, R)
              ) fun a36 =>
                zbd (some (R a0 9)) fun o38 =>
                zbd (zdr K o38 11) fun a39 =>
                zbd3 (f_X1_matches F K I R a39 (some a32) (some a36)) fun v42 I43 R44 =>
                if v42 = (0 : Int32) then
                  some ((-2 : Int32), n, K, I43, R44)
                else
                  zbd (some (R44 a0 9)) fun o47 =>
                  zbd (zdr K o47 11) fun a48 =>
                  zbd (f_X1_canFill F K I43 R44 a48 (some a34)) fun v51 =>
                  if v51 = (0 : Int32) then
                    some ((-2 : Int32), n, K, I43, R44)
                  else
                    zbd (some (R44 a0 9)) fun o54 =>
                    zbd (zdr K o54 11) fun a55 =>
                    zbd5 (f_X1_rewritten F n K I43 R44 a55 (some a34)) fun o58 n59 K60 I61 R62 =>
                    if (K60 a0).1 = 16 then
                    zbd3 (f_X6_keep F K60 I61 R62 a0 o58 x4) fun v65 I66 R67 =>
                    some (v65, n59, K60, I66, R67)
                    else none
          else none
        else
          some ((-1 : Int32), n, K, I, R)
      else
        some ((-1 : Int32), n, K, I, R)
    else
      some ((-1 : Int32), n, K, I, R)
  else
    some ((-1 : Int32), n, K, I, R)
section
variable {p : Program} {l : Launch} {e : Env} {s : State} {m : MethodId} {args : Array Value} {below : List Frame} {meth : Method} {c : Code} {D : zD} {B n n0 n' fd ld : Nat} {K K0 K' : zK} {I I' : zI} {R R' : zR} {H : Heap} {locs : List Loc} {ls : Array Slot} {r : Int32}
set_option maxRecDepth 100000 in
set_option maxHeartbeats 4000000 in
theorem c_X6_apply (l : Launch) (D : zD) (B n : Nat) {F : Nat} {K : zK} {I : zI} {R : zR} {a0 : Nat} {x1 : Int32} {x2 : Int32} {x3 : Int32} {x4 : Int32} {r : Int32} {n' : Nat} {K' : zK} {I' : zI} {R' : zR} (hf : f_X6_apply F n K I R a0 x1 x2 x3 x4 = some (r, n', K', I', R')) : zM l yX6_apply cX6_apply 8 (some .int) ({ frames := 6, cells := 4, slots := 100, locals := 159 } : Room) D B n K I R [.ref (B + a0), .int x1, .int x2, .int x3, .int x4] (zQi D (zOwn B K (B + n)) r B n' K' I' R') := by
  refine ze_entry (lv0 := [(0, .ref (B + a0)), (1, .int x1), (2, .int x2), (3, .int x3), (4, .int x4)]) (by decide) (by simp [lg_sl, zcat, zcat_i, zcat_r, zcat_l]) (by simp [lv_args, zcat, zcat_i, zcat_r, zcat_l]) (fun p e s m below meth c X hr hlk hin hW ls hl => ?_)
  unfold f_X6_apply at hf
  have b1 : (0 : Nat) ≤ 0 := Nat.le_refl _
  refine lv_iload_n X.1 X.2.1 dX6_apply_0 rfl (lv_at hl 1 rfl) ?_
  obtain ⟨v1, h2, hg⟩ := zh_bd hf
  replace hf := hg
  refine ze_aftI0 (ze_runS (As := [.int x1]) (rest := []) X 69 (c_X6_noRegister l D B n h2) vX6_noRegister kml_X6_69 hW ⟨by decide, by decide⟩ rfl hl.1 rfl (Nat.le_of_ble_eq_true rfl) ⟨by show _ + 0 ≤ (4 : Nat); (try dsimp only); omega, by show _ + 0 ≤ (100 : Nat); (try dsimp only); omega⟩ dX6_apply_1) hW (fun H locs hV => ?_)
  replace hW := hV
  refine lv_if_ne (tgt := 29) X.1 X.2.1 dX6_apply_4 (by decide) (fun c3 => ?_) (fun c3 => ?_)
  · replace hf := zif_neg c3 hf
    refine lv_iconst (v := -1) X.1 X.2.1 dX6_apply_29 (by decide) ?_
    obtain ⟨rfl, rfl, rfl, rfl, rfl⟩ := zi5 hf
    exact ze_retI X hr hlk hW (by (try dsimp only); omega) (by (try dsimp only); omega) dX6_apply_30
  · replace hf := zif_pos c3 hf
    refine lv_iload_n X.1 X.2.1 dX6_apply_7 rfl (lv_at hl 2 rfl) ?_
    obtain ⟨v4, h5, hg⟩ := zh_bd hf
    replace hf := hg
    refine ze_aftI0 (ze_runS (As := [.int x2]) (rest := []) X 69 (c_X6_noRegister l D B n h5) vX6_noRegister kml_X6_69 hW ⟨by decide, by decide⟩ rfl hl.1 rfl (Nat.le_of_ble_eq_true rfl) ⟨by show _ + 0 ≤ (4 : Nat); (try dsimp only); omega, by show _ + 0 ≤ (100 : Nat); (try dsimp only); omega⟩ dX6_apply_8) hW (fun H locs hV => ?_)
    replace hW := hV
    refine lv_if_ne (tgt := 29) X.1 X.2.1 dX6_apply_11 (by decide) (fun c6 => ?_) (fun c6 => ?_)
    · replace hf := zif_neg c6 hf
      refine lv_iconst (v := -1) X.1 X.2.1 dX6_apply_29 (by decide) ?_
      obtain ⟨rfl, rfl, rfl, rfl, rfl⟩ := zi5 hf
      exact ze_retI X hr hlk hW (by (try dsimp only); omega) (by (try dsimp only); omega) dX6_apply_30
    · replace hf := zif_pos c6 hf
      refine lv_iload_n X.1 X.2.1 dX6_apply_14 rfl (lv_at hl 3 rfl) ?_
      obtain ⟨v7, h8, hg⟩ := zh_bd hf
      replace hf := hg
      refine ze_aftI0 (ze_runS (As := [.int x3]) (rest := []) X 69 (c_X6_noRegister l D B n h8) vX6_noRegister kml_X6_69 hW ⟨by decide, by decide⟩ rfl hl.1 rfl (Nat.le_of_ble_eq_true rfl) ⟨by show _ + 0 ≤ (4 : Nat); (try dsimp only); omega, by show _ + 0 ≤ (100 : Nat); (try dsimp only); omega⟩ dX6_apply_15) hW (fun H locs hV => ?_)
      replace hW := hV
      refine lv_if_ne (tgt := 29) X.1 X.2.1 dX6_apply_18 (by decide) (fun c9 => ?_) (fun c9 => ?_)
      · replace hf := zif_neg c9 hf
        refine lv_iconst (v := -1) X.1 X.2.1 dX6_apply_29 (by decide) ?_
        obtain ⟨rfl, rfl, rfl, rfl, rfl⟩ := zi5 hf
        exact ze_retI X hr hlk hW (by (try dsimp only); omega) (by (try dsimp only); omega) dX6_apply_30
      · replace hf := zif_pos c9 hf
        refine lv_iload X.1 X.2.1 dX6_apply_21 (lv_at hl 4 rfl) ?_
        obtain ⟨v10, h11, hg⟩ := zh_bd hf
        replace hf := hg
        refine ze_aftI0 (ze_runS (As := [.int x4]) (rest := []) X 69 (c_X6_noRegister l D B n h11) vX6_noRegister kml_X6_69 hW ⟨by decide, by decide⟩ rfl hl.1 rfl (Nat.le_of_ble_eq_true rfl) ⟨by show _ + 0 ≤ (4 : Nat); (try dsimp only); omega, by show _ + 0 ≤ (100 : Nat); (try dsimp only); omega⟩ dX6_apply_23) hW (fun H locs hV => ?_)
        replace hW := hV
        refine lv_if_eq (tgt := 31) X.1 X.2.1 dX6_apply_26 (by decide) (fun c12 => ?_) (fun c12 => ?_)
        · replace hf := zif_pos c12 hf
          refine lv_aload_n X.1 X.2.1 dX6_apply_31 rfl (lv_at hl 0 rfl) ?_
          obtain ⟨k13, hg⟩ := zh_if hf
          replace hf := hg
          refine ze_gtR X 6 3 23 (RX6, TX6, 11) rfl hf hW k13 rfl (by decide) kfl_X6_23 dX6_apply_32 (fun o14 hg => ?_)
          replace hf := hg
          refine lv_iload_n X.1 X.2.1 dX6_apply_35 rfl (lv_at hl 1 rfl) ?_
          obtain ⟨a15, rfl, k17, hg⟩ := zh_dr hf
          replace hf := hg
          obtain ⟨o18, h19, hg⟩ := zh_bd hf
          replace hf := hg
          refine ze_aftQ0 (ze_runV (As := [.int x1]) (rest := []) X 4 107 (c_X4_term l D B n k17 h19) vX4_term kml_X6_107 hW k17 rfl rfl ⟨by decide, by decide⟩ rfl hl.1 rfl (Nat.le_of_ble_eq_true rfl) ⟨by show _ + 0 ≤ (4 : Nat); (try dsimp only); omega, by show _ + 0 ≤ (100 : Nat); (try dsimp only); omega⟩ dX6_apply_36) hW (fun H locs hV => ?_)
          replace hW := hV
          refine ze_astore (lv' := [(5, zrf B o18), (0, .ref (B + a0)), (1, .int x1), (2, .int x2), (3, .int x3), (4, .int x4)]) X.1 X.2.1 dX6_apply_39 hl (by decide) rfl (fun ls hk => ?_)
          replace hl := hk
          refine lv_aload_n X.1 X.2.1 dX6_apply_41 rfl (lv_at hl 1 rfl) ?_
          refine ze_gtR X 6 3 23 (RX6, TX6, 11) rfl hf hW k13 rfl (by decide) kfl_X6_23 dX6_apply_42 (fun o20 hg => ?_)
          replace hf := hg
          refine lv_iload_n X.1 X.2.1 dX6_apply_45 rfl (lv_at hl 3 rfl) ?_
          obtain ⟨a21, rfl, k23, hg⟩ := zh_dr hf
          replace hf := hg
          obtain ⟨o24, h25, hg⟩ := zh_bd hf
          replace hf := hg
          refine ze_aftQ0 (ze_runV (As := [.int x2]) (rest := []) X 4 107 (c_X4_term l D B n k23 h25) vX4_term kml_X6_107 hW k23 rfl rfl ⟨by decide, by decide⟩ rfl hl.1 rfl (Nat.le_of_ble_eq_true rfl) ⟨by show _ + 0 ≤ (4 : Nat); (try dsimp only); omega, by show _ + 0 ≤ (100 : Nat); (try dsimp only); omega⟩ dX6_apply_46) hW (fun H locs hV => ?_)
          replace hW := hV
          refine ze_astore (lv' := [(6, zrf B o24), (5, zrf B o18), (0, .ref (B + a0)), (1, .int x1), (2, .int x2), (3, .int x3), (4, .int x4)]) X.1 X.2.1 dX6_apply_49 hl (by decide) (by first | rfl | (simp [zcat, zcat_i, zcat_r, zcat_l, zrf_some]; done) | (simp [zcat, zcat_i, zcat_r, zcat_l, zrf_some]; decide)) (fun ls hk => ?_)
          replace hl := hk
          refine lv_aload_n X.1 X.2.1 dX6_apply_51 rfl (lv_at hl 2 rfl) ?_
          refine ze_gtR X 6 3 23 (RX6, TX6, 11) rfl hf hW k13 rfl (by decide) kfl_X6_23 dX6_apply_52 (fun o26 hg => ?_)
          replace hf := hg
          refine lv_iload_n X.1 X.2.1 dX6_apply_55 rfl (lv_at hl 5 rfl) ?_
          obtain ⟨a27, rfl, k29, hg⟩ := zh_dr hf
          replace hf := hg
          obtain ⟨o30, h31, hg⟩ := zh_bd hf
          replace hf := hg
          refine ze_aftQ0 (ze_runV (As := [.int x3]) (rest := []) X 4 107 (c_X4_term l D B n k29 h31) vX4_term kml_X6_107 hW k29 rfl rfl ⟨by decide, by decide⟩ rfl hl.1 rfl (Nat.le_of_ble_eq_true rfl) ⟨by show _ + 0 ≤ (4 : Nat); (try dsimp only); omega, by show _ + 0 ≤ (100 : Nat); (try dsimp only); omega⟩ dX6_apply_56) hW (fun H locs hV => ?_)
          replace hW := hV
          refine ze_astore (lv' := [(7, zrf B o30), (6, zrf B o24), (5, zrf B o18), (0, .ref (B + a0)), (1, .int x1), (2, .int x2), (3, .int x3), (4, .int x4)]) X.1 X.2.1 dX6_apply_59 hl (by decide) (by first | rfl | (simp [zcat, zcat_i, zcat_r, zcat_l, zrf_some]; done) | (simp [zcat, zcat_i, zcat_r, zcat_l, zrf_some]; decide)) (fun ls hk => ?_)
          replace hl := hk
          refine ze_aload X.1 X.2.1 dX6_apply_61 (lv_at hl 2 rfl) ?_
          refine ze_ifnull (tgt := 76) X.1 X.2.1 dX6_apply_63 (by decide) (fun c33 => ?_) (fun a32 c33 => ?_)
          · replace hf := zcs_none c33 hf
            subst c33
            refine lv_bipush (v := -2) X.1 X.2.1 dX6_apply_76 (by decide) ?_
            obtain ⟨rfl, rfl, rfl, rfl, rfl⟩ := zi5 hf
            exact ze_retI X hr hlk hW (by (try dsimp only); omega) (by (try dsimp only); omega) dX6_apply_78
          · replace hf := zcs_some c33 hf
            subst c33
            refine ze_aload X.1 X.2.1 dX6_apply_66 (lv_at hl 1 rfl) ?_
            refine ze_ifnull (tgt := 76) X.1 X.2.1 dX6_apply_68 (by decide) (fun c35 => ?_) (fun a34 c35 => ?_)
            · replace hf := zcs_none c35 hf
              subst c35
              refine lv_bipush (v := -2) X.1 X.2.1 dX6_apply_76 (by decide) ?_
              obtain ⟨rfl, rfl, rfl, rfl, rfl⟩ := zi5 hf
              exact ze_retI X hr hlk hW (by (try dsimp only); omega) (by (try dsimp only); omega) dX6_apply_78
            · replace hf := zcs_some c35 hf
              subst c35
              refine ze_aload X.1 X.2.1 dX6_apply_71 (lv_at hl 0 rfl) ?_
              refine ze_ifnonnull (tgt := 79) X.1 X.2.1 dX6_apply_73 (by decide) (fun a36 c37 => ?_) (fun c37 => ?_)
              · replace hf := zcs_some c37 hf
                subst c37
                refine lv_aload_n X.1 X.2.1 dX6_apply_79 rfl (lv_at hl 3 rfl) ?_
                refine ze_gtR X 6 9 58 (RX6, TX6, 11) rfl hf hW k13 rfl (by decide) kfl_X6_58 dX6_apply_80 (fun o38 hg => ?_)
                replace hf := hg
                refine lv_aload X.1 X.2.1 dX6_apply_83 (lv_at hl 2 rfl) ?_
                refine lv_aload X.1 X.2.1 dX6_apply_85 (lv_at hl 0 rfl) ?_
                obtain ⟨a39, rfl, k41, hg⟩ := zh_dr hf
                replace hf := hg
                obtain ⟨v42, I43, R44, h45, hg⟩ := zh_bd3 hf
                replace hf := hg
                refine ze_aftI0 (ze_runV (As := [.ref (B + a32), .ref (B + a36)]) (rest := []) X 1 167 (c_X1_matches l D B n k41 h45) vX1_matches kml_X6_167 hW k41 rfl rfl ⟨by decide, by decide⟩ rfl hl.1 rfl (Nat.le_of_ble_eq_true rfl) ⟨by show _ + 0 ≤ (4 : Nat); (try dsimp only); omega, by show _ + 0 ≤ (100 : Nat); (try dsimp only); omega⟩ dX6_apply_87) hW (fun H locs hV => ?_)
                replace hW := hV
                refine lv_if_eq (tgt := 105) X.1 X.2.1 dX6_apply_90 (by decide) (fun c46 => ?_) (fun c46 => ?_)
                · replace hf := zif_pos c46 hf
                  refine lv_bipush (v := -2) X.1 X.2.1 dX6_apply_105 (by decide) ?_
                  obtain ⟨rfl, rfl, rfl, rfl, rfl⟩ := zi5 hf
                  exact ze_retI X hr hlk hW (by (try dsimp only); omega) (by (try dsimp only); omega) dX6_apply_107
                · replace hf := zif_neg c46 hf
                  refine lv_aload_n X.1 X.2.1 dX6_apply_93 rfl (lv_at hl 3 rfl) ?_
                  refine ze_gtR X 6 9 58 (RX6, TX6, 11) rfl hf hW k13 rfl (by decide) kfl_X6_58 dX6_apply_94 (fun o47 hg => ?_)
                  replace hf := hg
                  refine lv_aload X.1 X.2.1 dX6_apply_97 (lv_at hl 1 rfl) ?_
                  obtain ⟨a48, rfl, k50, hg⟩ := zh_dr hf
                  replace hf := hg
                  obtain ⟨v51, h52, hg⟩ := zh_bd hf
                  replace hf := hg
                  refine ze_aftI0 (ze_runV (As := [.ref (B + a34)]) (rest := []) X 1 181 (c_X1_canFill l D B n k50 h52) vX1_canFill kml_X6_181 hW k50 rfl rfl ⟨by decide, by decide⟩ rfl hl.1 rfl (Nat.le_of_ble_eq_true rfl) ⟨by show _ + 0 ≤ (4 : Nat); (try dsimp only); omega, by show _ + 0 ≤ (100 : Nat); (try dsimp only); omega⟩ dX6_apply_99) hW (fun H locs hV => ?_)
                  replace hW := hV
                  refine lv_if_ne (tgt := 108) X.1 X.2.1 dX6_apply_102 (by decide) (fun c53 => ?_) (fun c53 => ?_)
                  · replace hf := zif_neg c53 hf
                    refine lv_aload_n X.1 X.2.1 dX6_apply_108 rfl (lv_at hl 3 rfl) ?_
                    refine lv_aload_n X.1 X.2.1 dX6_apply_109 rfl (lv_at hl 3 rfl) ?_
                    refine ze_gtR X 6 9 58 (RX6, TX6, 11) rfl hf hW k13 rfl (by decide) kfl_X6_58 dX6_apply_110 (fun o54 hg => ?_)
                    replace hf := hg
                    refine lv_aload X.1 X.2.1 dX6_apply_113 (lv_at hl 1 rfl) ?_
                    obtain ⟨a55, rfl, k57, hg⟩ := zh_dr hf
                    replace hf := hg
                    obtain ⟨o58, n59, K60, I61, R62, h63, hg⟩ := zh_bd5 hf
                    replace hf := hg
                    refine ze_aftQ (ze_runV (As := [.ref (B + a34)]) (rest := [.ref (B + a0)]) X 1 185 (c_X1_rewritten l D B n h63) vX1_rewritten kml_X6_185 hW k57 rfl rfl ⟨by decide, by decide⟩ rfl hl.1 rfl (Nat.le_of_ble_eq_true rfl) ⟨by show _ + 4 ≤ (4 : Nat); (try dsimp only); omega, by show _ + 100 ≤ (100 : Nat); (try dsimp only); omega⟩ dX6_apply_115) hW (fun H locs hV => ?_)
                    replace hW := hV
                    refine lv_iload X.1 X.2.1 dX6_apply_118 (lv_at hl 7 rfl) ?_
                    obtain ⟨k64, hg⟩ := zh_if hf
                    replace hf := hg
                    obtain ⟨v65, I66, R67, h68, hg⟩ := zh_bd3 hf
                    replace hf := hg
                    refine ze_aftI0 (ze_runV (As := [zrf B o58, .int x4]) (rest := []) X 6 156 (c_X6_keep l D B n59 k64 h68) vX6_keep kml_X6_156 hW k64 rfl rfl ⟨by decide, by decide⟩ rfl hl.1 rfl (Nat.le_of_ble_eq_true rfl) ⟨by show _ + 0 ≤ (4 : Nat); (try dsimp only); omega, by show _ + 0 ≤ (100 : Nat); (try dsimp only); omega⟩ dX6_apply_120) hW (fun H locs hV => ?_)
                    replace hW := hV
                    obtain ⟨rfl, rfl, rfl, rfl, rfl⟩ := zi5 hf
                    exact ze_retI X hr hlk hW (by (try dsimp only); omega) (by (try dsimp only); omega) dX6_apply_123
                  · replace hf := zif_pos c53 hf
                    refine lv_bipush (v := -2) X.1 X.2.1 dX6_apply_105 (by decide) ?_
                    obtain ⟨rfl, rfl, rfl, rfl, rfl⟩ := zi5 hf
                    exact ze_retI X hr hlk hW (by (try dsimp only); omega) (by (try dsimp only); omega) dX6_apply_107
              · replace hf := zcs_none c37 hf
                subst c37
                refine lv_bipush (v := -2) X.1 X.2.1 dX6_apply_76 (by decide) ?_
                obtain ⟨rfl, rfl, rfl, rfl, rfl⟩ := zi5 hf
                exact ze_retI X hr hlk hW (by (try dsimp only); omega) (by (try dsimp only); omega) dX6_apply_78
        · replace hf := zif_neg c12 hf
          refine lv_iconst (v := -1) X.1 X.2.1 dX6_apply_29 (by decide) ?_
          obtain ⟨rfl, rfl, rfl, rfl, rfl⟩ := zi5 hf
          exact ze_retI X hr hlk hW (by (try dsimp only); omega) (by (try dsimp only); omega) dX6_apply_30
end

/-! LeastPatterns$State.nodes()I -/
def f_X4_nodes_31 (F : Nat) (K : zK) (I : zI) (R : zR) (a0 : Nat) (k4 : Int32 → Int32 → Option (Int32)) (x1 : Int32) (x2 : Int32) : Option (Int32) :=
  k4 x1 (x2 + (1 : Int32))
def g_X4_nodes_4 (F : Nat) (K : zK) (I : zI) (R : zR) (a0 : Nat)  (kself : Int32 → Int32 → Option (Int32)) (x1 : Int32) (x2 : Int32) : Option (Int32) :=
  zbd (some (R a0 0)) fun o1 =>
  zbd (zdr K o1 4) fun a2 =>
  if (zln K a2) ≤ x2 then
    some x1
  else
    zbd (some (R a0 0)) fun o6 =>
    zbd (zdr K o6 4) fun a7 =>
    zbd (zrdR K R a7 x2) fun o10 =>
    zcs o10 (
      f_X4_nodes_31 F K I R a0 kself x1 x2
    ) fun a11 =>
      if (K a11).1 = 15 then
      zbd (some (x1 + (I a11 3))) fun v14 =>
      f_X4_nodes_31 F K I R a0 kself v14 x2
      else none
def f_X4_nodes_4 (F : Nat) (K : zK) (I : zI) (R : zR) (a0 : Nat)  : Nat → Int32 → Int32 → Option (Int32)
  | 0, _, _ => none
  | t + 1, x1, x2 => g_X4_nodes_4 F K I R a0  (f_X4_nodes_4 F K I R a0  t) x1 x2
def f_X4_nodes (F : Nat) (K : zK) (I : zI) (R : zR) (a0 : Nat)  : Option (Int32) :=
  f_X4_nodes_4 F K I R a0 F (0 : Int32) (0 : Int32)
section
variable {p : Program} {l : Launch} {e : Env} {s : State} {m : MethodId} {args : Array Value} {below : List Frame} {meth : Method} {c : Code} {D : zD} {B n n0 n' fd ld : Nat} {K K0 K' : zK} {I I' : zI} {R R' : zR} {H : Heap} {locs : List Loc} {ls : Array Slot} {r : Int32}
set_option maxRecDepth 100000 in
set_option maxHeartbeats 4000000 in
theorem w_X4_nodes_31 {F : Nat} {a0 : Nat} {k4 : Int32 → Int32 → Option (Int32)} (X : zX p s m c cX4_nodes 4 RX4 D) (hr : meth.sig.returnType = some .int) (hlk : meth.locks = false) (hK0 : (K a0).1 = 14) (hk4 : ∀ (x1 : Int32) (x2 : Int32) (H : Heap) (locs : List Loc) (ls : Array Slot), k4 x1 x2 = some r → zS (zOwn B K (B + n)) D B n K I R s.heap H locs → lv_has ls 4 [(0, .ref (B + a0)), (1, .int x1), (2, .int x2)] → W p l e ({ frames := 1, cells := 0, slots := 0, locals := 40 } : Room) s m args below meth c H locs 0 0 (MQ below (zQi D (zOwn B K (B + n)) r B n K I R) args s 0 0 (zOwn B K (B + n))) (F0 m 4 ls [])) {x1 : Int32} {x2 : Int32} (hf : f_X4_nodes_31 F K I R a0 k4 x1 x2 = some r) (hW : zS (zOwn B K (B + n)) D B n K I R s.heap H locs) (hl : lv_has ls 4 [(0, .ref (B + a0)), (1, .int x1), (2, .int x2)]) : W p l e ({ frames := 1, cells := 0, slots := 0, locals := 40 } : Room) s m args below meth c H locs 0 0 (MQ below (zQi D (zOwn B K (B + n)) r B n K I R) args s 0 0 (zOwn B K (B + n))) (F0 m 31 ls []) := by
  unfold f_X4_nodes_31 at hf
  refine ze_iinc (lv' := [(2, .int (x2 + (1 : Int32))), (0, .ref (B + a0)), (1, .int x1)]) (d := 1) X.1 X.2.1 dX4_nodes_31 hl (k := 2) rfl (by decide) (by decide) rfl (fun ls hk => ?_)
  replace hl := hk
  refine lv_goto (tgt := 4) X.1 X.2.1 dX4_nodes_34 (by decide) ?_
  exact hk4 _ _ _ _ _ hf hW (lv_sub hl [1, 2, 0] rfl)
set_option maxRecDepth 100000 in
set_option maxHeartbeats 4000000 in
theorem wg_X4_nodes_4 {F : Nat} {a0 : Nat}  (X : zX p s m c cX4_nodes 4 RX4 D) (hr : meth.sig.returnType = some .int) (hlk : meth.locks = false) (hK0 : (K a0).1 = 14)  {kself : Int32 → Int32 → Option (Int32)} (hkself : ∀ (x1 : Int32) (x2 : Int32) (H : Heap) (locs : List Loc) (ls : Array Slot), kself x1 x2 = some r → zS (zOwn B K (B + n)) D B n K I R s.heap H locs → lv_has ls 4 [(0, .ref (B + a0)), (1, .int x1), (2, .int x2)] → W p l e ({ frames := 1, cells := 0, slots := 0, locals := 40 } : Room) s m args below meth c H locs 0 0 (MQ below (zQi D (zOwn B K (B + n)) r B n K I R) args s 0 0 (zOwn B K (B + n))) (F0 m 4 ls [])) {x1 : Int32} {x2 : Int32} (hf : g_X4_nodes_4 F K I R a0  kself x1 x2 = some r) (hW : zS (zOwn B K (B + n)) D B n K I R s.heap H locs) (hl : lv_has ls 4 [(0, .ref (B + a0)), (1, .int x1), (2, .int x2)]) : W p l e ({ frames := 1, cells := 0, slots := 0, locals := 40 } : Room) s m args below meth c H locs 0 0 (MQ below (zQi D (zOwn B K (B + n)) r B n K I R) args s 0 0 (zOwn B K (B + n))) (F0 m 4 ls []) := by
  unfold g_X4_nodes_4 at hf
  refine lv_iload_n X.1 X.2.1 dX4_nodes_4 rfl (lv_at hl 2 rfl) ?_
  refine lv_aload_n X.1 X.2.1 dX4_nodes_5 rfl (lv_at hl 0 rfl) ?_
  refine ze_gtR X 4 0 11 (RX4, TX4, 2) rfl hf hW hK0 rfl (by decide) kfl_X4_11 dX4_nodes_6 (fun o1 hg => ?_)
  replace hf := hg
  obtain ⟨a2, rfl, k4, hg⟩ := zh_dr hf
  replace hf := hg
  refine ze_alen X 4 (by decide) hW k4 dX4_nodes_9 ?_
  refine lv_icmp_ge (tgt := 37) X.1 X.2.1 dX4_nodes_10 (by decide) (fun c5 => ?_) (fun c5 => ?_)
  · replace hf := zif_pos c5 hf
    refine lv_iload_n X.1 X.2.1 dX4_nodes_37 rfl (lv_at hl 1 rfl) ?_
    obtain rfl := zi1 hf
    exact ze_retI X hr hlk hW (Nat.le_refl _) (Nat.le_refl _) dX4_nodes_38
  · replace hf := zif_neg c5 hf
    refine lv_aload_n X.1 X.2.1 dX4_nodes_13 rfl (lv_at hl 0 rfl) ?_
    refine ze_gtR X 4 0 11 (RX4, TX4, 2) rfl hf hW hK0 rfl (by decide) kfl_X4_11 dX4_nodes_14 (fun o6 hg => ?_)
    replace hf := hg
    refine lv_iload_n X.1 X.2.1 dX4_nodes_17 rfl (lv_at hl 2 rfl) ?_
    obtain ⟨a7, rfl, k9, hg⟩ := zh_dr hf
    replace hf := hg
    refine ze_aald X 4 (by decide) hf hW k9 dX4_nodes_18 (fun o10 hg => ?_)
    replace hf := hg
    refine ze_astore_n (i := 3) (lv' := [(3, zrf B o10), (0, .ref (B + a0)), (1, .int x1), (2, .int x2)]) X.1 X.2.1 dX4_nodes_19 rfl hl (by decide) rfl (fun ls hk => ?_)
    replace hl := hk
    refine ze_aload_n X.1 X.2.1 dX4_nodes_20 rfl (lv_at hl 0 rfl) ?_
    refine ze_ifnull (tgt := 31) X.1 X.2.1 dX4_nodes_21 (by decide) (fun c12 => ?_) (fun a11 c12 => ?_)
    · replace hf := zcs_none c12 hf
      subst c12
      exact w_X4_nodes_31 X hr hlk hK0 hkself hf hW (lv_sub hl [1, 2, 3] rfl)
    · replace hf := zcs_some c12 hf
      subst c12
      refine lv_iload_n X.1 X.2.1 dX4_nodes_24 rfl (lv_at hl 2 rfl) ?_
      refine lv_aload_n X.1 X.2.1 dX4_nodes_25 rfl (lv_at hl 0 rfl) ?_
      obtain ⟨k13, hg⟩ := zh_if hf
      replace hf := hg
      refine ze_getIN X 5 3 21 (RX5, TX5, 4) rfl hW k13 rfl (by decide) kfl_X4_21 dX4_nodes_26 ?_
      refine lv_iadd X.1 X.2.1 dX4_nodes_29 ?_
      refine ze_nm hf (fun v14 hg => ?_)
      replace hf := hg
      refine lv_istore_n (i := 1) (lv' := [(1, .int v14), (3, .ref (B + a11)), (0, .ref (B + a0)), (2, .int x2)]) X.1 X.2.1 dX4_nodes_30 rfl hl (by decide) rfl (fun ls hk => ?_)
      replace hl := hk
      exact w_X4_nodes_31 X hr hlk hK0 hkself hf hW (lv_sub hl [2, 0, 3] rfl)
set_option maxRecDepth 100000 in
set_option maxHeartbeats 4000000 in
theorem w_X4_nodes_4 {F : Nat} {a0 : Nat}  (X : zX p s m c cX4_nodes 4 RX4 D) (hr : meth.sig.returnType = some .int) (hlk : meth.locks = false) (hK0 : (K a0).1 = 14)  {t : Nat} {x1 : Int32} {x2 : Int32} (hf : f_X4_nodes_4 F K I R a0  t x1 x2 = some r) (hW : zS (zOwn B K (B + n)) D B n K I R s.heap H locs) (hl : lv_has ls 4 [(0, .ref (B + a0)), (1, .int x1), (2, .int x2)]) : W p l e ({ frames := 1, cells := 0, slots := 0, locals := 40 } : Room) s m args below meth c H locs 0 0 (MQ below (zQi D (zOwn B K (B + n)) r B n K I R) args s 0 0 (zOwn B K (B + n))) (F0 m 4 ls []) := by
  have key : ∀ t : Nat, ∀ (x1 : Int32) (x2 : Int32) (H : Heap) (locs : List Loc) (ls : Array Slot), f_X4_nodes_4 F K I R a0  t x1 x2 = some r → zS (zOwn B K (B + n)) D B n K I R s.heap H locs → lv_has ls 4 [(0, .ref (B + a0)), (1, .int x1), (2, .int x2)] → W p l e ({ frames := 1, cells := 0, slots := 0, locals := 40 } : Room) s m args below meth c H locs 0 0 (MQ below (zQi D (zOwn B K (B + n)) r B n K I R) args s 0 0 (zOwn B K (B + n))) (F0 m 4 ls []) := by
    intro t
    induction t with
    | zero =>
      intro x1 x2 H locs ls hf hW hl
      cases hf
    | succ t ih =>
      intro x1 x2 H locs ls hf hW hl
      exact wg_X4_nodes_4 X hr hlk hK0  ih hf hW hl
  exact key t _ _ _ _ _ hf hW hl
set_option maxRecDepth 100000 in
set_option maxHeartbeats 4000000 in
theorem c_X4_nodes (l : Launch) (D : zD) (B n : Nat) {F : Nat} {K : zK} {I : zI} {R : zR} {a0 : Nat}  {r : Int32} (hK0 : (K a0).1 = 14) (hf : f_X4_nodes F K I R a0  = some r) : zM l yX4_nodes cX4_nodes 4 (some .int) ({ frames := 1, cells := 0, slots := 0, locals := 40 } : Room) D B n K I R [.ref (B + a0)] (zQi D (zOwn B K (B + n)) r B n K I R) := by
  refine ze_entry (lv0 := [(0, .ref (B + a0))]) (by decide) (by simp [lg_sl, zcat, zcat_i, zcat_r, zcat_l]) (by simp [lv_args, zcat, zcat_i, zcat_r, zcat_l]) (fun p e s m below meth c X hr hlk hin hW ls hl => ?_)
  unfold f_X4_nodes at hf
  refine lv_iconst (v := 0) X.1 X.2.1 dX4_nodes_0 (by decide) ?_
  refine lv_istore_n (i := 1) (lv' := [(1, .int (0 : Int32)), (0, .ref (B + a0))]) X.1 X.2.1 dX4_nodes_1 rfl hl (by decide) rfl (fun ls hk => ?_)
  replace hl := hk
  refine lv_iconst (v := 0) X.1 X.2.1 dX4_nodes_2 (by decide) ?_
  refine lv_istore_n (i := 2) (lv' := [(2, .int (0 : Int32)), (1, .int (0 : Int32)), (0, .ref (B + a0))]) X.1 X.2.1 dX4_nodes_3 rfl hl (by decide) rfl (fun ls hk => ?_)
  replace hl := hk
  exact w_X4_nodes_4 X hr hlk hK0 hf hW (lv_sub hl [2, 1, 0] rfl)
end

/-! LeastPatterns.told(I)I -/
def f_X6_told (F : Nat) (K : zK) (I : zI) (R : zR) (a0 : Nat) (x1 : Int32) : Option (Int32) :=
  zbd (f_X6_outside F K I R x1 (7 : Int32)) fun v1 =>
  if v1 = (0 : Int32) then
    if (4 : Int32) ≤ x1 then
      if x1 = 4 then
        zbd (some (R a0 3)) fun o5 =>
        zbd (zdr K o5 14) fun a6 =>
        zbd (f_X4_registersHeld F K I R a6) fun v9 =>
        zbd (f_J6_bitCount_0f7a4 F K I R v9) fun v11 =>
        some v11
      else
      if x1 = 5 then
        zbd (some (R a0 3)) fun o14 =>
        zbd (zdr K o14 14) fun a15 =>
        zbd (f_X4_nodes F K I R a15) fun v18 =>
        some v18
      else
      if x1 = 6 then
        some (I a0 1)
      else
        some (I a0 5)
    else
      zbd (some (R a0 3)) fun o22 =>
      zbd (zdr K o22 14) fun a23 =>
      zbd (f_X4_setting F K I R a23 x1) fun v26 =>
      some v26
  else
    some (-1 : Int32)
section
variable {p : Program} {l : Launch} {e : Env} {s : State} {m : MethodId} {args : Array Value} {below : List Frame} {meth : Method} {c : Code} {D : zD} {B n n0 n' fd ld : Nat} {K K0 K' : zK} {I I' : zI} {R R' : zR} {H : Heap} {locs : List Loc} {ls : Array Slot} {r : Int32}
set_option maxRecDepth 100000 in
set_option maxHeartbeats 4000000 in
theorem c_X6_told (l : Launch) (D : zD) (B n : Nat) {F : Nat} {K : zK} {I : zI} {R : zR} {a0 : Nat} {x1 : Int32} {r : Int32} (hK0 : (K a0).1 = 16) (hf : f_X6_told F K I R a0 x1 = some r) : zM l yX6_told cX6_told 2 (some .int) ({ frames := 2, cells := 0, slots := 0, locals := 63 } : Room) D B n K I R [.ref (B + a0), .int x1] (zQi D (zOwn B K (B + n)) r B n K I R) := by
  refine ze_entry (lv0 := [(0, .ref (B + a0)), (1, .int x1)]) (by decide) (by simp [lg_sl, zcat, zcat_i, zcat_r, zcat_l]) (by simp [lv_args, zcat, zcat_i, zcat_r, zcat_l]) (fun p e s m below meth c X hr hlk hin hW ls hl => ?_)
  unfold f_X6_told at hf
  refine lv_iload_n X.1 X.2.1 dX6_told_0 rfl (lv_at hl 1 rfl) ?_
  refine lv_bipush (v := 7) X.1 X.2.1 dX6_told_1 (by decide) ?_
  obtain ⟨v1, h2, hg⟩ := zh_bd hf
  replace hf := hg
  refine ze_aftI0 (ze_runS (As := [.int x1, .int (7 : Int32)]) (rest := []) X 65 (c_X6_outside l D B n h2) vX6_outside kml_X6_65 hW ⟨by decide, by decide⟩ rfl hl.1 rfl (Nat.le_of_ble_eq_true rfl) ⟨Nat.le_refl _, Nat.le_refl _⟩ dX6_told_3) hW (fun H locs hV => ?_)
  replace hW := hV
  refine lv_if_eq (tgt := 11) X.1 X.2.1 dX6_told_6 (by decide) (fun c3 => ?_) (fun c3 => ?_)
  · replace hf := zif_pos c3 hf
    refine lv_iload_n X.1 X.2.1 dX6_told_11 rfl (lv_at hl 1 rfl) ?_
    refine lv_iconst (v := 4) X.1 X.2.1 dX6_told_12 (by decide) ?_
    refine lv_icmp_ge (tgt := 25) X.1 X.2.1 dX6_told_13 (by decide) (fun c4 => ?_) (fun c4 => ?_)
    · replace hf := zif_pos c4 hf
      refine lv_iload_n X.1 X.2.1 dX6_told_25 rfl (lv_at hl 1 rfl) ?_
      by_cases c13 : x1 = 4
      · replace hf := zif_pos c13 hf
        refine lv_tableIn (tgt := 52) X.1 X.2.1 dX6_told_26 (by rw [c13]; decide) (by rw [c13]; decide) (by rw [c13]; rfl) (by decide) ?_
        refine lv_aload_n X.1 X.2.1 dX6_told_52 rfl (lv_at hl 0 rfl) ?_
        refine ze_gtR X 6 3 23 (RX6, TX6, 11) rfl hf hW hK0 rfl (by decide) kfl_X6_23 dX6_told_53 (fun o5 hg => ?_)
        replace hf := hg
        obtain ⟨a6, rfl, k8, hg⟩ := zh_dr hf
        replace hf := hg
        obtain ⟨v9, h10, hg⟩ := zh_bd hf
        replace hf := hg
        refine ze_aftI0 (ze_runV (As := []) (rest := []) X 4 160 (c_X4_registersHeld l D B n k8 h10) vX4_registersHeld kml_X6_160 hW k8 rfl rfl ⟨by decide, by decide⟩ rfl hl.1 rfl (Nat.le_of_ble_eq_true rfl) ⟨Nat.le_refl _, Nat.le_refl _⟩ dX6_told_56) hW (fun H locs hV => ?_)
        replace hW := hV
        obtain ⟨v11, h12, hg⟩ := zh_bd hf
        replace hf := hg
        refine ze_aftI0 (ze_runS (As := [.int v9]) (rest := []) X 137 (c_J6_bitCount_0f7a4 l D B n h12) vJ6_bitCount_0f7a4 kml_X6_137 hW ⟨by decide, by decide⟩ rfl hl.1 rfl (Nat.le_of_ble_eq_true rfl) ⟨Nat.le_refl _, Nat.le_refl _⟩ dX6_told_59) hW (fun H locs hV => ?_)
        replace hW := hV
        obtain rfl := zi1 hf
        exact ze_retI X hr hlk hW (Nat.le_refl _) (Nat.le_refl _) dX6_told_62
      replace hf := zif_neg c13 hf
      by_cases c20 : x1 = 5
      · replace hf := zif_pos c20 hf
        refine lv_tableIn (tgt := 63) X.1 X.2.1 dX6_told_26 (by rw [c20]; decide) (by rw [c20]; decide) (by rw [c20]; rfl) (by decide) ?_
        refine lv_aload_n X.1 X.2.1 dX6_told_63 rfl (lv_at hl 0 rfl) ?_
        refine ze_gtR X 6 3 23 (RX6, TX6, 11) rfl hf hW hK0 rfl (by decide) kfl_X6_23 dX6_told_64 (fun o14 hg => ?_)
        replace hf := hg
        obtain ⟨a15, rfl, k17, hg⟩ := zh_dr hf
        replace hf := hg
        obtain ⟨v18, h19, hg⟩ := zh_bd hf
        replace hf := hg
        refine ze_aftI0 (ze_runV (As := []) (rest := []) X 4 189 (c_X4_nodes l D B n k17 h19) vX4_nodes kml_X6_189 hW k17 rfl rfl ⟨by decide, by decide⟩ rfl hl.1 rfl (Nat.le_of_ble_eq_true rfl) ⟨Nat.le_refl _, Nat.le_refl _⟩ dX6_told_67) hW (fun H locs hV => ?_)
        replace hW := hV
        obtain rfl := zi1 hf
        exact ze_retI X hr hlk hW (Nat.le_refl _) (Nat.le_refl _) dX6_told_70
      replace hf := zif_neg c20 hf
      by_cases c21 : x1 = 6
      · replace hf := zif_pos c21 hf
        refine lv_tableIn (tgt := 71) X.1 X.2.1 dX6_told_26 (by rw [c21]; decide) (by rw [c21]; decide) (by rw [c21]; rfl) (by decide) ?_
        refine lv_aload_n X.1 X.2.1 dX6_told_71 rfl (lv_at hl 0 rfl) ?_
        refine ze_getI X 6 1 13 (RX6, TX6, 11) rfl hW hK0 rfl (by decide) kfl_X6_13 dX6_told_72 ?_
        obtain rfl := zi1 hf
        exact ze_retI X hr hlk hW (Nat.le_refl _) (Nat.le_refl _) dX6_told_75
      replace hf := zif_neg c21 hf
      refine lv_tableOut (tgt := 76) X.1 X.2.1 dX6_told_26 ?_ (by decide) ?_
      · have hne : ∀ k : Int32, ¬ x1 = k → x1.toInt ≠ k.toInt := fun k h q => h (Int32.toInt_inj.mp q)
        have qc13 := hne 4 c13
        have qc20 := hne 5 c20
        have qc21 := hne 6 c21
        simp at qc13 qc20 qc21
        omega
      · refine lv_aload_n X.1 X.2.1 dX6_told_76 rfl (lv_at hl 0 rfl) ?_
        refine ze_getI X 6 5 31 (RX6, TX6, 11) rfl hW hK0 rfl (by decide) kfl_X6_31 dX6_told_77 ?_
        obtain rfl := zi1 hf
        exact ze_retI X hr hlk hW (Nat.le_refl _) (Nat.le_refl _) dX6_told_80
    · replace hf := zif_neg c4 hf
      refine lv_aload_n X.1 X.2.1 dX6_told_16 rfl (lv_at hl 0 rfl) ?_
      refine ze_gtR X 6 3 23 (RX6, TX6, 11) rfl hf hW hK0 rfl (by decide) kfl_X6_23 dX6_told_17 (fun o22 hg => ?_)
      replace hf := hg
      refine lv_iload_n X.1 X.2.1 dX6_told_20 rfl (lv_at hl 1 rfl) ?_
      obtain ⟨a23, rfl, k25, hg⟩ := zh_dr hf
      replace hf := hg
      obtain ⟨v26, h27, hg⟩ := zh_bd hf
      replace hf := hg
      refine ze_aftI0 (ze_runV (As := [.int x1]) (rest := []) X 4 83 (c_X4_setting l D B n k25 h27) vX4_setting kml_X6_83 hW k25 rfl rfl ⟨by decide, by decide⟩ rfl hl.1 rfl (Nat.le_of_ble_eq_true rfl) ⟨Nat.le_refl _, Nat.le_refl _⟩ dX6_told_21) hW (fun H locs hV => ?_)
      replace hW := hV
      obtain rfl := zi1 hf
      exact ze_retI X hr hlk hW (Nat.le_refl _) (Nat.le_refl _) dX6_told_24
  · replace hf := zif_neg c3 hf
    refine lv_iconst (v := -1) X.1 X.2.1 dX6_told_9 (by decide) ?_
    obtain rfl := zi1 hf
    exact ze_retI X hr hlk hW (Nat.le_refl _) (Nat.le_refl _) dX6_told_10
end

/-! LeastPatterns.undo()I -/
def f_X6_undo (F : Nat) (K : zK) (I : zI) (R : zR) (a0 : Nat)  : Option (Int32 × zI × zR) :=
  if (I a0 5) ≤ (0 : Int32) then
    some ((-2 : Int32), I, R)
  else
    zbd (some (R a0 4)) fun o2 =>
    zbd (zdr K o2 3) fun a3 =>
    if (I a0 5) ≤ (zln K a3) then
      zbd (some (R a0 4)) fun o7 =>
      zbd (zdr K o7 3) fun a8 =>
      zbd (zrdR K R a8 ((I a0 5) - (1 : Int32))) fun o11 =>
      zcs o11 (
        some ((-2 : Int32), I, R)
      ) fun a12 =>
        zbd (some (R a0 3)) fun o14 =>
        zbd (zdr K o14 14) fun a15 =>
        zbd2 (f_X4_copyFrom F K I R a15 (some a12)) fun I18 R19 =>
        zbd (some (zup I18 a0 5 ((I18 a0 5) - (1 : Int32)))) fun I21 =>
        some (I21 a0 5, I21, R19)
    else
      some ((-2 : Int32), I, R)
section
variable {p : Program} {l : Launch} {e : Env} {s : State} {m : MethodId} {args : Array Value} {below : List Frame} {meth : Method} {c : Code} {D : zD} {B n n0 n' fd ld : Nat} {K K0 K' : zK} {I I' : zI} {R R' : zR} {H : Heap} {locs : List Loc} {ls : Array Slot} {r : Int32}
set_option maxRecDepth 100000 in
set_option maxHeartbeats 4000000 in
theorem c_X6_undo (l : Launch) (D : zD) (B n : Nat) {F : Nat} {K : zK} {I : zI} {R : zR} {a0 : Nat}  {r : Int32} {I' : zI} {R' : zR} (hK0 : (K a0).1 = 16) (hf : f_X6_undo F K I R a0  = some (r, I', R')) : zM l yX6_undo cX6_undo 2 (some .int) ({ frames := 3, cells := 0, slots := 0, locals := 83 } : Room) D B n K I R [.ref (B + a0)] (zQi D (zOwn B K (B + n)) r B n K I' R') := by
  refine ze_entry (lv0 := [(0, .ref (B + a0))]) (by decide) (by simp [lg_sl, zcat, zcat_i, zcat_r, zcat_l]) (by simp [lv_args, zcat, zcat_i, zcat_r, zcat_l]) (fun p e s m below meth c X hr hlk hin hW ls hl => ?_)
  unfold f_X6_undo at hf
  refine lv_aload_n X.1 X.2.1 dX6_undo_0 rfl (lv_at hl 0 rfl) ?_
  refine ze_getI X 6 5 31 (RX6, TX6, 11) rfl hW hK0 rfl (by decide) kfl_X6_31 dX6_undo_1 ?_
  refine lv_if_le (tgt := 19) X.1 X.2.1 dX6_undo_4 (by decide) (fun c1 => ?_) (fun c1 => ?_)
  · replace hf := zif_pos c1 hf
    refine lv_bipush (v := -2) X.1 X.2.1 dX6_undo_19 (by decide) ?_
    obtain ⟨rfl, rfl, rfl⟩ := zi3 hf
    exact ze_retI X hr hlk hW (Nat.le_refl _) (Nat.le_refl _) dX6_undo_21
  · replace hf := zif_neg c1 hf
    refine lv_aload_n X.1 X.2.1 dX6_undo_7 rfl (lv_at hl 0 rfl) ?_
    refine ze_getI X 6 5 31 (RX6, TX6, 11) rfl hW hK0 rfl (by decide) kfl_X6_31 dX6_undo_8 ?_
    refine lv_aload_n X.1 X.2.1 dX6_undo_11 rfl (lv_at hl 0 rfl) ?_
    refine ze_gtR X 6 4 27 (RX6, TX6, 11) rfl hf hW hK0 rfl (by decide) kfl_X6_27 dX6_undo_12 (fun o2 hg => ?_)
    replace hf := hg
    obtain ⟨a3, rfl, k5, hg⟩ := zh_dr hf
    replace hf := hg
    refine ze_alen X 3 (by decide) hW k5 dX6_undo_15 ?_
    refine lv_icmp_le (tgt := 22) X.1 X.2.1 dX6_undo_16 (by decide) (fun c6 => ?_) (fun c6 => ?_)
    · replace hf := zif_pos c6 hf
      refine lv_aload_n X.1 X.2.1 dX6_undo_22 rfl (lv_at hl 0 rfl) ?_
      refine ze_gtR X 6 4 27 (RX6, TX6, 11) rfl hf hW hK0 rfl (by decide) kfl_X6_27 dX6_undo_23 (fun o7 hg => ?_)
      replace hf := hg
      refine lv_aload_n X.1 X.2.1 dX6_undo_26 rfl (lv_at hl 0 rfl) ?_
      refine ze_getI X 6 5 31 (RX6, TX6, 11) rfl hW hK0 rfl (by decide) kfl_X6_31 dX6_undo_27 ?_
      refine lv_iconst (v := 1) X.1 X.2.1 dX6_undo_30 (by decide) ?_
      refine lv_isub X.1 X.2.1 dX6_undo_31 ?_
      obtain ⟨a8, rfl, k10, hg⟩ := zh_dr hf
      replace hf := hg
      refine ze_aald X 3 (by decide) hf hW k10 dX6_undo_32 (fun o11 hg => ?_)
      replace hf := hg
      refine ze_astore_n (i := 1) (lv' := [(1, zrf B o11), (0, .ref (B + a0))]) X.1 X.2.1 dX6_undo_33 rfl hl (by decide) rfl (fun ls hk => ?_)
      replace hl := hk
      refine ze_aload_n X.1 X.2.1 dX6_undo_34 rfl (lv_at hl 0 rfl) ?_
      refine ze_ifnonnull (tgt := 41) X.1 X.2.1 dX6_undo_35 (by decide) (fun a12 c13 => ?_) (fun c13 => ?_)
      · replace hf := zcs_some c13 hf
        subst c13
        refine lv_aload_n X.1 X.2.1 dX6_undo_41 rfl (lv_at hl 1 rfl) ?_
        refine ze_gtR X 6 3 23 (RX6, TX6, 11) rfl hf hW hK0 rfl (by decide) kfl_X6_23 dX6_undo_42 (fun o14 hg => ?_)
        replace hf := hg
        refine lv_aload_n X.1 X.2.1 dX6_undo_45 rfl (lv_at hl 0 rfl) ?_
        obtain ⟨a15, rfl, k17, hg⟩ := zh_dr hf
        replace hf := hg
        obtain ⟨I18, R19, h20, hg⟩ := zh_bd2 hf
        replace hf := hg
        refine ze_aftV0 (ze_runV (As := [.ref (B + a12)]) (rest := []) X 4 192 (c_X4_copyFrom l D B n k17 h20) vX4_copyFrom kml_X6_192 hW k17 rfl rfl ⟨by decide, by decide⟩ rfl hl.1 rfl (Nat.le_of_ble_eq_true rfl) ⟨Nat.le_refl _, Nat.le_refl _⟩ dX6_undo_46) hW (fun H locs hV => ?_)
        replace hW := hV
        refine lv_aload_n X.1 X.2.1 dX6_undo_49 rfl (lv_at hl 1 rfl) ?_
        refine lv_dup X.1 X.2.1 dX6_undo_50 rfl ?_
        refine ze_getI X 6 5 31 (RX6, TX6, 11) rfl hW hK0 rfl (by decide) kfl_X6_31 dX6_undo_51 ?_
        refine lv_iconst (v := 1) X.1 X.2.1 dX6_undo_54 (by decide) ?_
        refine lv_isub X.1 X.2.1 dX6_undo_55 ?_
        refine ze_putI X 6 5 31 (RX6, TX6, 11) rfl hf hW hK0 rfl (by decide) kfl_X6_31 rfl (by decide +kernel) dX6_undo_56 (fun I21 H locs hg hV => ?_)
        replace hf := hg
        replace hW := hV
        refine lv_aload_n X.1 X.2.1 dX6_undo_59 rfl (lv_at hl 1 rfl) ?_
        refine ze_getI X 6 5 31 (RX6, TX6, 11) rfl hW hK0 rfl (by decide) kfl_X6_31 dX6_undo_60 ?_
        obtain ⟨rfl, rfl, rfl⟩ := zi3 hf
        exact ze_retI X hr hlk hW (Nat.le_refl _) (Nat.le_refl _) dX6_undo_63
      · replace hf := zcs_none c13 hf
        subst c13
        refine lv_bipush (v := -2) X.1 X.2.1 dX6_undo_38 (by decide) ?_
        obtain ⟨rfl, rfl, rfl⟩ := zi3 hf
        exact ze_retI X hr hlk hW (Nat.le_refl _) (Nat.le_refl _) dX6_undo_40
    · replace hf := zif_neg c6 hf
      refine lv_bipush (v := -2) X.1 X.2.1 dX6_undo_19 (by decide) ?_
      obtain ⟨rfl, rfl, rfl⟩ := zi3 hf
      exact ze_retI X hr hlk hW (Nat.le_refl _) (Nat.le_refl _) dX6_undo_21
end

/-! LeastPatternsLaw.draws([IIII)V -/
def f_L_draws_170 (F : Nat) (k20 : Nat → zK → zI → zR → Option Nat → Int32 → Int32 → Int32 → Option Nat → Int32 → Int32 → Int32 → Option (Nat × zK × zI × zR)) (n : Nat) (K : zK) (I : zI) (R : zR) (x0 : Option Nat) (x1 : Int32) (x2 : Int32) (x3 : Int32) (x4 : Option Nat) (x5 : Int32) (x6 : Int32) (x7 : Int32) : Option (Nat × zK × zI × zR) :=
  k20 n K I R x0 x1 x2 x3 x4 x5 x6 x7
def g_L_draws_151 (F : Nat) (k20 : Nat → zK → zI → zR → Option Nat → Int32 → Int32 → Int32 → Option Nat → Int32 → Int32 → Int32 → Option (Nat × zK × zI × zR)) (kself : Nat → zK → zI → zR → Option Nat → Int32 → Int32 → Int32 → Option Nat → Int32 → Int32 → Int32 → Option (Nat × zK × zI × zR)) (n : Nat) (K : zK) (I : zI) (R : zR) (x0 : Option Nat) (x1 : Int32) (x2 : Int32) (x3 : Int32) (x4 : Option Nat) (x5 : Int32) (x6 : Int32) (x7 : Int32) : Option (Nat × zK × zI × zR) :=
  if x5 < (0 : Int32) then
    f_L_draws_170 F k20 n K I R x0 x1 x2 x3 x4 x5 x6 x7
  else
    zbd (zdr K x4 1) fun a2 =>
    zbd (zrd K I a2 x5) fun v5 =>
    if v5 = (0 : Int32) then
      kself n K I R x0 x1 x2 x3 (some a2) (x5 + (-1 : Int32)) x6 x7
    else
      f_L_draws_170 F k20 n K I R x0 x1 x2 x3 (some a2) x5 x6 x7
def f_L_draws_151 (F : Nat) (k20 : Nat → zK → zI → zR → Option Nat → Int32 → Int32 → Int32 → Option Nat → Int32 → Int32 → Int32 → Option (Nat × zK × zI × zR)) : Nat → Nat → zK → zI → zR → Option Nat → Int32 → Int32 → Int32 → Option Nat → Int32 → Int32 → Int32 → Option (Nat × zK × zI × zR)
  | 0, _, _, _, _, _, _, _, _, _, _, _, _ => none
  | t + 1, n, K, I, R, x0, x1, x2, x3, x4, x5, x6, x7 => g_L_draws_151 F k20 (f_L_draws_151 F k20 t) n K I R x0 x1 x2 x3 x4 x5 x6 x7
def f_L_draws_83 (F : Nat) (k20 : Nat → zK → zI → zR → Option Nat → Int32 → Int32 → Int32 → Option Nat → Int32 → Int32 → Int32 → Option (Nat × zK × zI × zR)) (n : Nat) (K : zK) (I : zI) (R : zR) (x0 : Option Nat) (x1 : Int32) (x2 : Int32) (x3 : Int32) (x4 : Option Nat) (x5 : Int32) (x6 : Int32) (x7 : Int32) (s0 : Int32) : Option (Nat × zK × zI × zR) :=
  zbd (zdr K x0 1) fun a7 =>
  zbd (zwr K I a7 ((2 : Int32) * x6) (((x2 >>> ((((3 : Int32) * x6) - (((3 : Int32) * x6) / (28 : Int32)) * (28 : Int32)) &&& 31)) &&& (7 : Int32)) - (((x2 >>> ((((3 : Int32) * x6) - (((3 : Int32) * x6) / (28 : Int32)) * (28 : Int32)) &&& 31)) &&& (7 : Int32)) / (3 : Int32)) * (3 : Int32))) fun I10 =>
  zbd (zwr K I10 a7 (((2 : Int32) * x6) + (1 : Int32)) s0) fun I11 =>
  zbd (some (x7 + (s0 - (1 : Int32)))) fun v12 =>
  zbd (zdr K x4 1) fun a13 =>
  zbd (zrd K I11 a13 x5) fun v16 =>
  zbd (zwr K I11 a13 x5 (v16 - (1 : Int32))) fun I17 =>
  if s0 ≤ (0 : Int32) then
    f_L_draws_151 F k20 F n K I17 R (some a7) x1 x2 x3 (some a13) x5 (x6 + (1 : Int32)) v12
  else
    zbd (zwr K I17 a13 (x5 + (1 : Int32)) s0) fun I19 =>
    f_L_draws_151 F k20 F n K I19 R (some a7) x1 x2 x3 (some a13) (x5 + (1 : Int32)) (x6 + (1 : Int32)) v12
def f_L_draws_77 (F : Nat) (k20 : Nat → zK → zI → zR → Option Nat → Int32 → Int32 → Int32 → Option Nat → Int32 → Int32 → Int32 → Option (Nat × zK × zI × zR)) (n : Nat) (K : zK) (I : zI) (R : zR) (x0 : Option Nat) (x1 : Int32) (x2 : Int32) (x3 : Int32) (x4 : Option Nat) (x5 : Int32) (x6 : Int32) (x7 : Int32) : Option (Nat × zK × zI × zR) :=
  f_L_draws_83 F k20 n K I R x0 x1 x2 x3 x4 x5 x6 x7 (0 : Int32)
def f_L_draws_57 (F : Nat) (k20 : Nat → zK → zI → zR → Option Nat → Int32 → Int32 → Int32 → Option Nat → Int32 → Int32 → Int32 → Option (Nat × zK × zI × zR)) (n : Nat) (K : zK) (I : zI) (R : zR) (x0 : Option Nat) (x1 : Int32) (x2 : Int32) (x3 : Int32) (x4 : Option Nat) (x5 : Int32) (x6 : Int32) (x7 : Int32) (s0 : Int32) : Option (Nat × zK × zI × zR) :=
  if (4 : Int32) < x5 then
    f_L_draws_77 F k20 n K I R x0 x1 x2 x3 x4 x5 x6 x7
  else
    if ((x6 + x7) + s0) ≤ x3 then
      f_L_draws_83 F k20 n K I R x0 x1 x2 x3 x4 x5 x6 x7 s0
    else
      f_L_draws_77 F k20 n K I R x0 x1 x2 x3 x4 x5 x6 x7
def f_L_draws_55 (F : Nat) (k20 : Nat → zK → zI → zR → Option Nat → Int32 → Int32 → Int32 → Option Nat → Int32 → Int32 → Int32 → Option (Nat × zK × zI × zR)) (n : Nat) (K : zK) (I : zI) (R : zR) (x0 : Option Nat) (x1 : Int32) (x2 : Int32) (x3 : Int32) (x4 : Option Nat) (x5 : Int32) (x6 : Int32) (x7 : Int32) (x8 : Int32) : Option (Nat × zK × zI × zR) :=
  f_L_draws_57 F k20 n K I R x0 x1 x2 x3 x4 x5 x6 x7 x8
def g_L_draws_20 (F : Nat)  (kself : Nat → zK → zI → zR → Option Nat → Int32 → Int32 → Int32 → Option Nat → Int32 → Int32 → Int32 → Option (Nat × zK × zI × zR)) (n : Nat) (K : zK) (I : zI) (R : zR) (x0 : Option Nat) (x1 : Int32) (x2 : Int32) (x3 : Int32) (x4 : Option Nat) (x5 : Int32) (x6 : Int32) (x7 : Int32) : Option (Nat × zK × zI × zR) :=
  if x5 < (0 : Int32) then
    zbd (zdr K x0 1) fun a23 =>
    zbd (zwr K I a23 (62 : Int32) x6) fun I26 =>
    some (n, K, I26, R)
  else
    zbd (some (((x1 >>> ((((2 : Int32) * x6) - (((2 : Int32) * x6) / (25 : Int32)) * (25 : Int32)) &&& 31)) &&& (7 : Int32)) - (((x1 >>> ((((2 : Int32) * x6) - (((2 : Int32) * x6) / (25 : Int32)) * (25 : Int32)) &&& 31)) &&& (7 : Int32)) / (4 : Int32)) * (4 : Int32))) fun v27 =>
    if x6 = (0 : Int32) then
      if v27 = (0 : Int32) then
        f_L_draws_57 F kself n K I R x0 x1 x2 x3 x4 x5 x6 x7 (2 : Int32)
      else
        f_L_draws_55 F kself n K I R x0 x1 x2 x3 x4 x5 x6 x7 v27
    else
      f_L_draws_55 F kself n K I R x0 x1 x2 x3 x4 x5 x6 x7 v27
def f_L_draws_20 (F : Nat)  : Nat → Nat → zK → zI → zR → Option Nat → Int32 → Int32 → Int32 → Option Nat → Int32 → Int32 → Int32 → Option (Nat × zK × zI × zR)
  | 0, _, _, _, _, _, _, _, _, _, _, _, _ => none
  | t + 1, n, K, I, R, x0, x1, x2, x3, x4, x5, x6, x7 => g_L_draws_20 F  (f_L_draws_20 F  t) n K I R x0 x1 x2 x3 x4 x5 x6 x7
def f_L_draws (F : Nat) (n : Nat) (K : zK) (I : zI) (R : zR) (x0 : Option Nat) (x1 : Int32) (x2 : Int32) (x3 : Int32) : Option (Nat × zK × zI × zR) :=
  zbd3 (some (n + 1, zset K n (1, 8), zclr I n 0)) fun n30 K31 I32 =>
  if (K31 n).1 = 1 then
  zbd (zwr K31 I32 n (0 : Int32) (1 : Int32)) fun I34 =>
  f_L_draws_20 F F n30 K31 I34 R x0 x1 x2 x3 (some n) (0 : Int32) (0 : Int32) (1 : Int32)
  else none
section
variable {p : Program} {l : Launch} {e : Env} {s : State} {m : MethodId} {args : Array Value} {below : List Frame} {meth : Method} {c : Code} {D : zD} {B n n0 n' fd ld : Nat} {K K0 K' : zK} {I I' : zI} {R R' : zR} {H : Heap} {locs : List Loc} {ls : Array Slot} {r : Int32}
set_option maxRecDepth 100000 in
set_option maxHeartbeats 4000000 in
theorem w_L_draws_170 {F : Nat} {k20 : Nat → zK → zI → zR → Option Nat → Int32 → Int32 → Int32 → Option Nat → Int32 → Int32 → Int32 → Option (Nat × zK × zI × zR)} (X : zX p s m c cL_draws 9 RL D) (hr : meth.sig.returnType = none) (hlk : meth.locks = false) (hk20 : ∀ (n : Nat) (K : zK) (I : zI) (R : zR) (x0 : Option Nat) (x1 : Int32) (x2 : Int32) (x3 : Int32) (x4 : Option Nat) (x5 : Int32) (x6 : Int32) (x7 : Int32) (cells slots : Nat) (H : Heap) (locs : List Loc) (ls : Array Slot), k20 n K I R x0 x1 x2 x3 x4 x5 x6 x7 = some (n', K', I', R') → cells + 0 ≤ 1 → slots + 0 ≤ 8 → zS (zOwn B K0 (B + n0)) D B n K I R s.heap H locs → lv_has ls 9 [(0, zrf B x0), (1, .int x1), (2, .int x2), (3, .int x3), (4, zrf B x4), (5, .int x5), (6, .int x6), (7, .int x7)] → W p l e ({ frames := 1, cells := 1, slots := 8, locals := 40 } : Room) s m args below meth c H locs cells slots (MQ below (zQv D (zOwn B K0 (B + n0)) B n' K' I' R') args s 1 8 (zOwn B K0 (B + n0))) (F0 m 20 ls [])) {x0 : Option Nat} {x1 : Int32} {x2 : Int32} {x3 : Int32} {x4 : Option Nat} {x5 : Int32} {x6 : Int32} {x7 : Int32} {cells slots : Nat} (hf : f_L_draws_170 F k20 n K I R x0 x1 x2 x3 x4 x5 x6 x7 = some (n', K', I', R')) (b1 : cells + 0 ≤ 1) (b2 : slots + 0 ≤ 8) (hW : zS (zOwn B K0 (B + n0)) D B n K I R s.heap H locs) (hl : lv_has ls 9 [(0, zrf B x0), (1, .int x1), (2, .int x2), (3, .int x3), (4, zrf B x4), (5, .int x5), (6, .int x6), (7, .int x7)]) : W p l e ({ frames := 1, cells := 1, slots := 8, locals := 40 } : Room) s m args below meth c H locs cells slots (MQ below (zQv D (zOwn B K0 (B + n0)) B n' K' I' R') args s 1 8 (zOwn B K0 (B + n0))) (F0 m 170 ls []) := by
  unfold f_L_draws_170 at hf
  refine lv_goto (tgt := 20) X.1 X.2.1 dL_draws_170 (by decide) ?_
  exact hk20 _ _ _ _ _ _ _ _ _ _ _ _ _ _ _ _ _ hf (by (try dsimp only); omega) (by (try dsimp only); omega) hW hl
set_option maxRecDepth 100000 in
set_option maxHeartbeats 4000000 in
theorem wg_L_draws_151 {F : Nat} {k20 : Nat → zK → zI → zR → Option Nat → Int32 → Int32 → Int32 → Option Nat → Int32 → Int32 → Int32 → Option (Nat × zK × zI × zR)} (X : zX p s m c cL_draws 9 RL D) (hr : meth.sig.returnType = none) (hlk : meth.locks = false) (hk20 : ∀ (n : Nat) (K : zK) (I : zI) (R : zR) (x0 : Option Nat) (x1 : Int32) (x2 : Int32) (x3 : Int32) (x4 : Option Nat) (x5 : Int32) (x6 : Int32) (x7 : Int32) (cells slots : Nat) (H : Heap) (locs : List Loc) (ls : Array Slot), k20 n K I R x0 x1 x2 x3 x4 x5 x6 x7 = some (n', K', I', R') → cells + 0 ≤ 1 → slots + 0 ≤ 8 → zS (zOwn B K0 (B + n0)) D B n K I R s.heap H locs → lv_has ls 9 [(0, zrf B x0), (1, .int x1), (2, .int x2), (3, .int x3), (4, zrf B x4), (5, .int x5), (6, .int x6), (7, .int x7)] → W p l e ({ frames := 1, cells := 1, slots := 8, locals := 40 } : Room) s m args below meth c H locs cells slots (MQ below (zQv D (zOwn B K0 (B + n0)) B n' K' I' R') args s 1 8 (zOwn B K0 (B + n0))) (F0 m 20 ls [])) {kself : Nat → zK → zI → zR → Option Nat → Int32 → Int32 → Int32 → Option Nat → Int32 → Int32 → Int32 → Option (Nat × zK × zI × zR)} (hkself : ∀ (n : Nat) (K : zK) (I : zI) (R : zR) (x0 : Option Nat) (x1 : Int32) (x2 : Int32) (x3 : Int32) (x4 : Option Nat) (x5 : Int32) (x6 : Int32) (x7 : Int32) (cells slots : Nat) (H : Heap) (locs : List Loc) (ls : Array Slot), kself n K I R x0 x1 x2 x3 x4 x5 x6 x7 = some (n', K', I', R') → cells + 0 ≤ 1 → slots + 0 ≤ 8 → zS (zOwn B K0 (B + n0)) D B n K I R s.heap H locs → lv_has ls 9 [(0, zrf B x0), (1, .int x1), (2, .int x2), (3, .int x3), (4, zrf B x4), (5, .int x5), (6, .int x6), (7, .int x7)] → W p l e ({ frames := 1, cells := 1, slots := 8, locals := 40 } : Room) s m args below meth c H locs cells slots (MQ below (zQv D (zOwn B K0 (B + n0)) B n' K' I' R') args s 1 8 (zOwn B K0 (B + n0))) (F0 m 151 ls [])) {x0 : Option Nat} {x1 : Int32} {x2 : Int32} {x3 : Int32} {x4 : Option Nat} {x5 : Int32} {x6 : Int32} {x7 : Int32} {cells slots : Nat} (hf : g_L_draws_151 F k20 kself n K I R x0 x1 x2 x3 x4 x5 x6 x7 = some (n', K', I', R')) (b1 : cells + 0 ≤ 1) (b2 : slots + 0 ≤ 8) (hW : zS (zOwn B K0 (B + n0)) D B n K I R s.heap H locs) (hl : lv_has ls 9 [(0, zrf B x0), (1, .int x1), (2, .int x2), (3, .int x3), (4, zrf B x4), (5, .int x5), (6, .int x6), (7, .int x7)]) : W p l e ({ frames := 1, cells := 1, slots := 8, locals := 40 } : Room) s m args below meth c H locs cells slots (MQ below (zQv D (zOwn B K0 (B + n0)) B n' K' I' R') args s 1 8 (zOwn B K0 (B + n0))) (F0 m 151 ls []) := by
  unfold g_L_draws_151 at hf
  refine lv_iload X.1 X.2.1 dL_draws_151 (lv_at hl 5 rfl) ?_
  refine lv_if_lt (tgt := 170) X.1 X.2.1 dL_draws_153 (by decide) (fun c1 => ?_) (fun c1 => ?_)
  · replace hf := zif_pos c1 hf
    exact w_L_draws_170 X hr hlk hk20 hf (by (try dsimp only); omega) (by (try dsimp only); omega) hW hl
  · replace hf := zif_neg c1 hf
    refine ze_aload X.1 X.2.1 dL_draws_156 (lv_at hl 4 rfl) ?_
    refine lv_iload X.1 X.2.1 dL_draws_158 (lv_at hl 5 rfl) ?_
    obtain ⟨a2, rfl, k4, hg⟩ := zh_dr hf
    replace hf := hg
    refine ze_iald X hf hW k4 dL_draws_160 (fun v5 hg => ?_)
    replace hf := hg
    refine lv_if_ne (tgt := 170) X.1 X.2.1 dL_draws_161 (by decide) (fun c6 => ?_) (fun c6 => ?_)
    · replace hf := zif_neg c6 hf
      exact w_L_draws_170 X hr hlk hk20 hf (by (try dsimp only); omega) (by (try dsimp only); omega) hW hl
    · replace hf := zif_pos c6 hf
      refine ze_iinc (lv' := [(5, .int (x5 + (-1 : Int32))), (0, zrf B x0), (1, .int x1), (2, .int x2), (3, .int x3), (4, .ref (B + a2)), (6, .int x6), (7, .int x7)]) (d := -1) X.1 X.2.1 dL_draws_164 hl (k := 5) rfl (by decide) (by decide) rfl (fun ls hk => ?_)
      replace hl := hk
      refine lv_goto (tgt := 151) X.1 X.2.1 dL_draws_167 (by decide) ?_
      exact hkself _ _ _ _ _ _ _ _ _ _ _ _ _ _ _ _ _ hf (by (try dsimp only); omega) (by (try dsimp only); omega) hW (lv_sub hl [1, 2, 3, 4, 5, 0, 6, 7] rfl)
set_option maxRecDepth 100000 in
set_option maxHeartbeats 4000000 in
theorem w_L_draws_151 {F : Nat} {k20 : Nat → zK → zI → zR → Option Nat → Int32 → Int32 → Int32 → Option Nat → Int32 → Int32 → Int32 → Option (Nat × zK × zI × zR)} (X : zX p s m c cL_draws 9 RL D) (hr : meth.sig.returnType = none) (hlk : meth.locks = false) (hk20 : ∀ (n : Nat) (K : zK) (I : zI) (R : zR) (x0 : Option Nat) (x1 : Int32) (x2 : Int32) (x3 : Int32) (x4 : Option Nat) (x5 : Int32) (x6 : Int32) (x7 : Int32) (cells slots : Nat) (H : Heap) (locs : List Loc) (ls : Array Slot), k20 n K I R x0 x1 x2 x3 x4 x5 x6 x7 = some (n', K', I', R') → cells + 0 ≤ 1 → slots + 0 ≤ 8 → zS (zOwn B K0 (B + n0)) D B n K I R s.heap H locs → lv_has ls 9 [(0, zrf B x0), (1, .int x1), (2, .int x2), (3, .int x3), (4, zrf B x4), (5, .int x5), (6, .int x6), (7, .int x7)] → W p l e ({ frames := 1, cells := 1, slots := 8, locals := 40 } : Room) s m args below meth c H locs cells slots (MQ below (zQv D (zOwn B K0 (B + n0)) B n' K' I' R') args s 1 8 (zOwn B K0 (B + n0))) (F0 m 20 ls [])) {t : Nat} {x0 : Option Nat} {x1 : Int32} {x2 : Int32} {x3 : Int32} {x4 : Option Nat} {x5 : Int32} {x6 : Int32} {x7 : Int32} {cells slots : Nat} (hf : f_L_draws_151 F k20 t n K I R x0 x1 x2 x3 x4 x5 x6 x7 = some (n', K', I', R')) (b1 : cells + 0 ≤ 1) (b2 : slots + 0 ≤ 8) (hW : zS (zOwn B K0 (B + n0)) D B n K I R s.heap H locs) (hl : lv_has ls 9 [(0, zrf B x0), (1, .int x1), (2, .int x2), (3, .int x3), (4, zrf B x4), (5, .int x5), (6, .int x6), (7, .int x7)]) : W p l e ({ frames := 1, cells := 1, slots := 8, locals := 40 } : Room) s m args below meth c H locs cells slots (MQ below (zQv D (zOwn B K0 (B + n0)) B n' K' I' R') args s 1 8 (zOwn B K0 (B + n0))) (F0 m 151 ls []) := by
  have key : ∀ t : Nat, ∀ (n : Nat) (K : zK) (I : zI) (R : zR) (x0 : Option Nat) (x1 : Int32) (x2 : Int32) (x3 : Int32) (x4 : Option Nat) (x5 : Int32) (x6 : Int32) (x7 : Int32) (cells slots : Nat) (H : Heap) (locs : List Loc) (ls : Array Slot), f_L_draws_151 F k20 t n K I R x0 x1 x2 x3 x4 x5 x6 x7 = some (n', K', I', R') → cells + 0 ≤ 1 → slots + 0 ≤ 8 → zS (zOwn B K0 (B + n0)) D B n K I R s.heap H locs → lv_has ls 9 [(0, zrf B x0), (1, .int x1), (2, .int x2), (3, .int x3), (4, zrf B x4), (5, .int x5), (6, .int x6), (7, .int x7)] → W p l e ({ frames := 1, cells := 1, slots := 8, locals := 40 } : Room) s m args below meth c H locs cells slots (MQ below (zQv D (zOwn B K0 (B + n0)) B n' K' I' R') args s 1 8 (zOwn B K0 (B + n0))) (F0 m 151 ls []) := by
    intro t
    induction t with
    | zero =>
      intro n K I R x0 x1 x2 x3 x4 x5 x6 x7 cells slots H locs ls hf b1 b2 hW hl
      cases hf
    | succ t ih =>
      intro n K I R x0 x1 x2 x3 x4 x5 x6 x7 cells slots H locs ls hf b1 b2 hW hl
      exact wg_L_draws_151 X hr hlk hk20 ih hf b1 b2 hW hl
  exact key t _ _ _ _ _ _ _ _ _ _ _ _ _ _ _ _ _ hf b1 b2 hW hl
set_option maxRecDepth 100000 in
set_option maxHeartbeats 4000000 in
theorem w_L_draws_83 {F : Nat} {k20 : Nat → zK → zI → zR → Option Nat → Int32 → Int32 → Int32 → Option Nat → Int32 → Int32 → Int32 → Option (Nat × zK × zI × zR)} (X : zX p s m c cL_draws 9 RL D) (hr : meth.sig.returnType = none) (hlk : meth.locks = false) (hk20 : ∀ (n : Nat) (K : zK) (I : zI) (R : zR) (x0 : Option Nat) (x1 : Int32) (x2 : Int32) (x3 : Int32) (x4 : Option Nat) (x5 : Int32) (x6 : Int32) (x7 : Int32) (cells slots : Nat) (H : Heap) (locs : List Loc) (ls : Array Slot), k20 n K I R x0 x1 x2 x3 x4 x5 x6 x7 = some (n', K', I', R') → cells + 0 ≤ 1 → slots + 0 ≤ 8 → zS (zOwn B K0 (B + n0)) D B n K I R s.heap H locs → lv_has ls 9 [(0, zrf B x0), (1, .int x1), (2, .int x2), (3, .int x3), (4, zrf B x4), (5, .int x5), (6, .int x6), (7, .int x7)] → W p l e ({ frames := 1, cells := 1, slots := 8, locals := 40 } : Room) s m args below meth c H locs cells slots (MQ below (zQv D (zOwn B K0 (B + n0)) B n' K' I' R') args s 1 8 (zOwn B K0 (B + n0))) (F0 m 20 ls [])) {x0 : Option Nat} {x1 : Int32} {x2 : Int32} {x3 : Int32} {x4 : Option Nat} {x5 : Int32} {x6 : Int32} {x7 : Int32} {s0 : Int32} {cells slots : Nat} (hf : f_L_draws_83 F k20 n K I R x0 x1 x2 x3 x4 x5 x6 x7 s0 = some (n', K', I', R')) (b1 : cells + 0 ≤ 1) (b2 : slots + 0 ≤ 8) (hW : zS (zOwn B K0 (B + n0)) D B n K I R s.heap H locs) (hl : lv_has ls 9 [(0, zrf B x0), (1, .int x1), (2, .int x2), (3, .int x3), (4, zrf B x4), (5, .int x5), (6, .int x6), (7, .int x7)]) : W p l e ({ frames := 1, cells := 1, slots := 8, locals := 40 } : Room) s m args below meth c H locs cells slots (MQ below (zQv D (zOwn B K0 (B + n0)) B n' K' I' R') args s 1 8 (zOwn B K0 (B + n0))) (F0 m 83 ls [.int s0]) := by
  unfold f_L_draws_83 at hf
  refine lv_istore (lv' := [(8, .int s0), (0, zrf B x0), (1, .int x1), (2, .int x2), (3, .int x3), (4, zrf B x4), (5, .int x5), (6, .int x6), (7, .int x7)]) X.1 X.2.1 dL_draws_83 hl (by decide) rfl (fun ls hk => ?_)
  replace hl := hk
  refine ze_aload_n X.1 X.2.1 dL_draws_85 rfl (lv_at hl 1 rfl) ?_
  refine lv_iconst (v := 2) X.1 X.2.1 dL_draws_86 (by decide) ?_
  refine lv_iload X.1 X.2.1 dL_draws_87 (lv_at hl 7 rfl) ?_
  refine lv_imul X.1 X.2.1 dL_draws_89 ?_
  refine lv_iload_n X.1 X.2.1 dL_draws_90 rfl (lv_at hl 3 rfl) ?_
  refine lv_iconst (v := 3) X.1 X.2.1 dL_draws_91 (by decide) ?_
  refine lv_iload X.1 X.2.1 dL_draws_92 (lv_at hl 7 rfl) ?_
  refine lv_imul X.1 X.2.1 dL_draws_94 ?_
  refine lv_bipush (v := 28) X.1 X.2.1 dL_draws_95 (by decide) ?_
  refine lv_irem X.1 X.2.1 dL_draws_97 (by decide) ?_
  refine lv_ishr X.1 X.2.1 dL_draws_98 ?_
  refine lv_bipush (v := 7) X.1 X.2.1 dL_draws_99 (by decide) ?_
  refine lv_iand X.1 X.2.1 dL_draws_101 ?_
  refine lv_iconst (v := 3) X.1 X.2.1 dL_draws_102 (by decide) ?_
  refine lv_irem X.1 X.2.1 dL_draws_103 (by decide) ?_
  obtain ⟨a7, rfl, k9, hg⟩ := zh_dr hf
  replace hf := hg
  refine ze_iast X hf hW k9 dL_draws_104 (fun I10 H locs hg hV => ?_)
  replace hf := hg
  replace hW := hV
  refine lv_aload_n X.1 X.2.1 dL_draws_105 rfl (lv_at hl 1 rfl) ?_
  refine lv_iconst (v := 2) X.1 X.2.1 dL_draws_106 (by decide) ?_
  refine lv_iload X.1 X.2.1 dL_draws_107 (lv_at hl 7 rfl) ?_
  refine lv_imul X.1 X.2.1 dL_draws_109 ?_
  refine lv_iconst (v := 1) X.1 X.2.1 dL_draws_110 (by decide) ?_
  refine lv_iadd X.1 X.2.1 dL_draws_111 ?_
  refine lv_iload X.1 X.2.1 dL_draws_112 (lv_at hl 0 rfl) ?_
  refine ze_iast X hf hW k9 dL_draws_114 (fun I11 H locs hg hV => ?_)
  replace hf := hg
  replace hW := hV
  refine ze_iinc (lv' := [(6, .int (x6 + (1 : Int32))), (8, .int s0), (0, .ref (B + a7)), (1, .int x1), (2, .int x2), (3, .int x3), (4, zrf B x4), (5, .int x5), (7, .int x7)]) (d := 1) X.1 X.2.1 dL_draws_115 hl (k := 7) rfl (by decide) (by decide) rfl (fun ls hk => ?_)
  replace hl := hk
  refine lv_iload X.1 X.2.1 dL_draws_118 (lv_at hl 8 rfl) ?_
  refine lv_iload X.1 X.2.1 dL_draws_120 (lv_at hl 1 rfl) ?_
  refine lv_iconst (v := 1) X.1 X.2.1 dL_draws_122 (by decide) ?_
  refine lv_isub X.1 X.2.1 dL_draws_123 ?_
  refine lv_iadd X.1 X.2.1 dL_draws_124 ?_
  refine ze_nm hf (fun v12 hg => ?_)
  replace hf := hg
  refine lv_istore (lv' := [(7, .int v12), (6, .int (x6 + (1 : Int32))), (8, .int s0), (0, .ref (B + a7)), (1, .int x1), (2, .int x2), (3, .int x3), (4, zrf B x4), (5, .int x5)]) X.1 X.2.1 dL_draws_125 hl (by decide) rfl (fun ls hk => ?_)
  replace hl := hk
  refine ze_aload X.1 X.2.1 dL_draws_127 (lv_at hl 7 rfl) ?_
  refine lv_iload X.1 X.2.1 dL_draws_129 (lv_at hl 8 rfl) ?_
  refine lv_dup2_11 X.1 X.2.1 dL_draws_131 rfl (zcat _ _) ?_
  obtain ⟨a13, rfl, k15, hg⟩ := zh_dr hf
  replace hf := hg
  refine ze_iald X hf hW k15 dL_draws_132 (fun v16 hg => ?_)
  replace hf := hg
  refine lv_iconst (v := 1) X.1 X.2.1 dL_draws_133 (by decide) ?_
  refine lv_isub X.1 X.2.1 dL_draws_134 ?_
  refine ze_iast X hf hW k15 dL_draws_135 (fun I17 H locs hg hV => ?_)
  replace hf := hg
  replace hW := hV
  refine lv_iload X.1 X.2.1 dL_draws_136 (lv_at hl 2 rfl) ?_
  refine lv_if_le (tgt := 151) X.1 X.2.1 dL_draws_138 (by decide) (fun c18 => ?_) (fun c18 => ?_)
  · replace hf := zif_pos c18 hf
    exact w_L_draws_151 X hr hlk hk20 hf (by (try dsimp only); omega) (by (try dsimp only); omega) hW (lv_sub hl [3, 4, 5, 6, 7, 8, 1, 0] rfl)
  · replace hf := zif_neg c18 hf
    refine ze_iinc (lv' := [(5, .int (x5 + (1 : Int32))), (7, .int v12), (6, .int (x6 + (1 : Int32))), (8, .int s0), (0, .ref (B + a7)), (1, .int x1), (2, .int x2), (3, .int x3), (4, .ref (B + a13))]) (d := 1) X.1 X.2.1 dL_draws_141 hl (k := 8) rfl (by decide) (by decide) rfl (fun ls hk => ?_)
    replace hl := hk
    refine lv_aload X.1 X.2.1 dL_draws_144 (lv_at hl 8 rfl) ?_
    refine lv_iload X.1 X.2.1 dL_draws_146 (lv_at hl 0 rfl) ?_
    refine lv_iload X.1 X.2.1 dL_draws_148 (lv_at hl 3 rfl) ?_
    refine ze_iast X hf hW k15 dL_draws_150 (fun I19 H locs hg hV => ?_)
    replace hf := hg
    replace hW := hV
    exact w_L_draws_151 X hr hlk hk20 hf (by (try dsimp only); omega) (by (try dsimp only); omega) hW (lv_sub hl [4, 5, 6, 7, 8, 0, 2, 1] rfl)
set_option maxRecDepth 100000 in
set_option maxHeartbeats 4000000 in
theorem w_L_draws_77 {F : Nat} {k20 : Nat → zK → zI → zR → Option Nat → Int32 → Int32 → Int32 → Option Nat → Int32 → Int32 → Int32 → Option (Nat × zK × zI × zR)} (X : zX p s m c cL_draws 9 RL D) (hr : meth.sig.returnType = none) (hlk : meth.locks = false) (hk20 : ∀ (n : Nat) (K : zK) (I : zI) (R : zR) (x0 : Option Nat) (x1 : Int32) (x2 : Int32) (x3 : Int32) (x4 : Option Nat) (x5 : Int32) (x6 : Int32) (x7 : Int32) (cells slots : Nat) (H : Heap) (locs : List Loc) (ls : Array Slot), k20 n K I R x0 x1 x2 x3 x4 x5 x6 x7 = some (n', K', I', R') → cells + 0 ≤ 1 → slots + 0 ≤ 8 → zS (zOwn B K0 (B + n0)) D B n K I R s.heap H locs → lv_has ls 9 [(0, zrf B x0), (1, .int x1), (2, .int x2), (3, .int x3), (4, zrf B x4), (5, .int x5), (6, .int x6), (7, .int x7)] → W p l e ({ frames := 1, cells := 1, slots := 8, locals := 40 } : Room) s m args below meth c H locs cells slots (MQ below (zQv D (zOwn B K0 (B + n0)) B n' K' I' R') args s 1 8 (zOwn B K0 (B + n0))) (F0 m 20 ls [])) {x0 : Option Nat} {x1 : Int32} {x2 : Int32} {x3 : Int32} {x4 : Option Nat} {x5 : Int32} {x6 : Int32} {x7 : Int32} {cells slots : Nat} (hf : f_L_draws_77 F k20 n K I R x0 x1 x2 x3 x4 x5 x6 x7 = some (n', K', I', R')) (b1 : cells + 0 ≤ 1) (b2 : slots + 0 ≤ 8) (hW : zS (zOwn B K0 (B + n0)) D B n K I R s.heap H locs) (hl : lv_has ls 9 [(0, zrf B x0), (1, .int x1), (2, .int x2), (3, .int x3), (4, zrf B x4), (5, .int x5), (6, .int x6), (7, .int x7)]) : W p l e ({ frames := 1, cells := 1, slots := 8, locals := 40 } : Room) s m args below meth c H locs cells slots (MQ below (zQv D (zOwn B K0 (B + n0)) B n' K' I' R') args s 1 8 (zOwn B K0 (B + n0))) (F0 m 77 ls []) := by
  unfold f_L_draws_77 at hf
  refine lv_iconst (v := 0) X.1 X.2.1 dL_draws_77 (by decide) ?_
  refine lv_goto (tgt := 83) X.1 X.2.1 dL_draws_78 (by decide) ?_
  exact w_L_draws_83 X hr hlk hk20 hf (by (try dsimp only); omega) (by (try dsimp only); omega) hW hl
set_option maxRecDepth 100000 in
set_option maxHeartbeats 4000000 in
theorem w_L_draws_57 {F : Nat} {k20 : Nat → zK → zI → zR → Option Nat → Int32 → Int32 → Int32 → Option Nat → Int32 → Int32 → Int32 → Option (Nat × zK × zI × zR)} (X : zX p s m c cL_draws 9 RL D) (hr : meth.sig.returnType = none) (hlk : meth.locks = false) (hk20 : ∀ (n : Nat) (K : zK) (I : zI) (R : zR) (x0 : Option Nat) (x1 : Int32) (x2 : Int32) (x3 : Int32) (x4 : Option Nat) (x5 : Int32) (x6 : Int32) (x7 : Int32) (cells slots : Nat) (H : Heap) (locs : List Loc) (ls : Array Slot), k20 n K I R x0 x1 x2 x3 x4 x5 x6 x7 = some (n', K', I', R') → cells + 0 ≤ 1 → slots + 0 ≤ 8 → zS (zOwn B K0 (B + n0)) D B n K I R s.heap H locs → lv_has ls 9 [(0, zrf B x0), (1, .int x1), (2, .int x2), (3, .int x3), (4, zrf B x4), (5, .int x5), (6, .int x6), (7, .int x7)] → W p l e ({ frames := 1, cells := 1, slots := 8, locals := 40 } : Room) s m args below meth c H locs cells slots (MQ below (zQv D (zOwn B K0 (B + n0)) B n' K' I' R') args s 1 8 (zOwn B K0 (B + n0))) (F0 m 20 ls [])) {x0 : Option Nat} {x1 : Int32} {x2 : Int32} {x3 : Int32} {x4 : Option Nat} {x5 : Int32} {x6 : Int32} {x7 : Int32} {s0 : Int32} {cells slots : Nat} (hf : f_L_draws_57 F k20 n K I R x0 x1 x2 x3 x4 x5 x6 x7 s0 = some (n', K', I', R')) (b1 : cells + 0 ≤ 1) (b2 : slots + 0 ≤ 8) (hW : zS (zOwn B K0 (B + n0)) D B n K I R s.heap H locs) (hl : lv_has ls 9 [(0, zrf B x0), (1, .int x1), (2, .int x2), (3, .int x3), (4, zrf B x4), (5, .int x5), (6, .int x6), (7, .int x7)]) : W p l e ({ frames := 1, cells := 1, slots := 8, locals := 40 } : Room) s m args below meth c H locs cells slots (MQ below (zQv D (zOwn B K0 (B + n0)) B n' K' I' R') args s 1 8 (zOwn B K0 (B + n0))) (F0 m 57 ls [.int s0]) := by
  unfold f_L_draws_57 at hf
  refine lv_istore (lv' := [(8, .int s0), (0, zrf B x0), (1, .int x1), (2, .int x2), (3, .int x3), (4, zrf B x4), (5, .int x5), (6, .int x6), (7, .int x7)]) X.1 X.2.1 dL_draws_57 hl (by decide) rfl (fun ls hk => ?_)
  replace hl := hk
  refine lv_iload X.1 X.2.1 dL_draws_59 (lv_at hl 6 rfl) ?_
  refine lv_iconst (v := 4) X.1 X.2.1 dL_draws_61 (by decide) ?_
  refine lv_icmp_gt (tgt := 77) X.1 X.2.1 dL_draws_62 (by decide) (fun c20 => ?_) (fun c20 => ?_)
  · replace hf := zif_pos c20 hf
    exact w_L_draws_77 X hr hlk hk20 hf (by (try dsimp only); omega) (by (try dsimp only); omega) hW (lv_sub hl [1, 2, 3, 4, 5, 6, 7, 8] rfl)
  · replace hf := zif_neg c20 hf
    refine lv_iload X.1 X.2.1 dL_draws_65 (lv_at hl 7 rfl) ?_
    refine lv_iload X.1 X.2.1 dL_draws_67 (lv_at hl 8 rfl) ?_
    refine lv_iadd X.1 X.2.1 dL_draws_69 ?_
    refine lv_iload X.1 X.2.1 dL_draws_70 (lv_at hl 0 rfl) ?_
    refine lv_iadd X.1 X.2.1 dL_draws_72 ?_
    refine lv_iload_n X.1 X.2.1 dL_draws_73 rfl (lv_at hl 4 rfl) ?_
    refine lv_icmp_le (tgt := 81) X.1 X.2.1 dL_draws_74 (by decide) (fun c21 => ?_) (fun c21 => ?_)
    · replace hf := zif_pos c21 hf
      refine lv_iload X.1 X.2.1 dL_draws_81 (lv_at hl 0 rfl) ?_
      exact w_L_draws_83 X hr hlk hk20 hf (by (try dsimp only); omega) (by (try dsimp only); omega) hW (lv_sub hl [1, 2, 3, 4, 5, 6, 7, 8] rfl)
    · replace hf := zif_neg c21 hf
      exact w_L_draws_77 X hr hlk hk20 hf (by (try dsimp only); omega) (by (try dsimp only); omega) hW (lv_sub hl [1, 2, 3, 4, 5, 6, 7, 8] rfl)
set_option maxRecDepth 100000 in
set_option maxHeartbeats 4000000 in
theorem w_L_draws_55 {F : Nat} {k20 : Nat → zK → zI → zR → Option Nat → Int32 → Int32 → Int32 → Option Nat → Int32 → Int32 → Int32 → Option (Nat × zK × zI × zR)} (X : zX p s m c cL_draws 9 RL D) (hr : meth.sig.returnType = none) (hlk : meth.locks = false) (hk20 : ∀ (n : Nat) (K : zK) (I : zI) (R : zR) (x0 : Option Nat) (x1 : Int32) (x2 : Int32) (x3 : Int32) (x4 : Option Nat) (x5 : Int32) (x6 : Int32) (x7 : Int32) (cells slots : Nat) (H : Heap) (locs : List Loc) (ls : Array Slot), k20 n K I R x0 x1 x2 x3 x4 x5 x6 x7 = some (n', K', I', R') → cells + 0 ≤ 1 → slots + 0 ≤ 8 → zS (zOwn B K0 (B + n0)) D B n K I R s.heap H locs → lv_has ls 9 [(0, zrf B x0), (1, .int x1), (2, .int x2), (3, .int x3), (4, zrf B x4), (5, .int x5), (6, .int x6), (7, .int x7)] → W p l e ({ frames := 1, cells := 1, slots := 8, locals := 40 } : Room) s m args below meth c H locs cells slots (MQ below (zQv D (zOwn B K0 (B + n0)) B n' K' I' R') args s 1 8 (zOwn B K0 (B + n0))) (F0 m 20 ls [])) {x0 : Option Nat} {x1 : Int32} {x2 : Int32} {x3 : Int32} {x4 : Option Nat} {x5 : Int32} {x6 : Int32} {x7 : Int32} {x8 : Int32} {cells slots : Nat} (hf : f_L_draws_55 F k20 n K I R x0 x1 x2 x3 x4 x5 x6 x7 x8 = some (n', K', I', R')) (b1 : cells + 0 ≤ 1) (b2 : slots + 0 ≤ 8) (hW : zS (zOwn B K0 (B + n0)) D B n K I R s.heap H locs) (hl : lv_has ls 9 [(0, zrf B x0), (1, .int x1), (2, .int x2), (3, .int x3), (4, zrf B x4), (5, .int x5), (6, .int x6), (7, .int x7), (8, .int x8)]) : W p l e ({ frames := 1, cells := 1, slots := 8, locals := 40 } : Room) s m args below meth c H locs cells slots (MQ below (zQv D (zOwn B K0 (B + n0)) B n' K' I' R') args s 1 8 (zOwn B K0 (B + n0))) (F0 m 55 ls []) := by
  unfold f_L_draws_55 at hf
  refine lv_iload X.1 X.2.1 dL_draws_55 (lv_at hl 8 rfl) ?_
  exact w_L_draws_57 X hr hlk hk20 hf (by (try dsimp only); omega) (by (try dsimp only); omega) hW (lv_sub hl [0, 1, 2, 3, 4, 5, 6, 7] rfl)
set_option maxRecDepth 100000 in
set_option maxHeartbeats 4000000 in
theorem wg_L_draws_20 {F : Nat}  (X : zX p s m c cL_draws 9 RL D) (hr : meth.sig.returnType = none) (hlk : meth.locks = false)  {kself : Nat → zK → zI → zR → Option Nat → Int32 → Int32 → Int32 → Option Nat → Int32 → Int32 → Int32 → Option (Nat × zK × zI × zR)} (hkself : ∀ (n : Nat) (K : zK) (I : zI) (R : zR) (x0 : Option Nat) (x1 : Int32) (x2 : Int32) (x3 : Int32) (x4 : Option Nat) (x5 : Int32) (x6 : Int32) (x7 : Int32) (cells slots : Nat) (H : Heap) (locs : List Loc) (ls : Array Slot), kself n K I R x0 x1 x2 x3 x4 x5 x6 x7 = some (n', K', I', R') → cells + 0 ≤ 1 → slots + 0 ≤ 8 → zS (zOwn B K0 (B + n0)) D B n K I R s.heap H locs → lv_has ls 9 [(0, zrf B x0), (1, .int x1), (2, .int x2), (3, .int x3), (4, zrf B x4), (5, .int x5), (6, .int x6), (7, .int x7)] → W p l e ({ frames := 1, cells := 1, slots := 8, locals := 40 } : Room) s m args below meth c H locs cells slots (MQ below (zQv D (zOwn B K0 (B + n0)) B n' K' I' R') args s 1 8 (zOwn B K0 (B + n0))) (F0 m 20 ls [])) {x0 : Option Nat} {x1 : Int32} {x2 : Int32} {x3 : Int32} {x4 : Option Nat} {x5 : Int32} {x6 : Int32} {x7 : Int32} {cells slots : Nat} (hf : g_L_draws_20 F  kself n K I R x0 x1 x2 x3 x4 x5 x6 x7 = some (n', K', I', R')) (b1 : cells + 0 ≤ 1) (b2 : slots + 0 ≤ 8) (hW : zS (zOwn B K0 (B + n0)) D B n K I R s.heap H locs) (hl : lv_has ls 9 [(0, zrf B x0), (1, .int x1), (2, .int x2), (3, .int x3), (4, zrf B x4), (5, .int x5), (6, .int x6), (7, .int x7)]) : W p l e ({ frames := 1, cells := 1, slots := 8, locals := 40 } : Room) s m args below meth c H locs cells slots (MQ below (zQv D (zOwn B K0 (B + n0)) B n' K' I' R') args s 1 8 (zOwn B K0 (B + n0))) (F0 m 20 ls []) := by
  unfold g_L_draws_20 at hf
  refine lv_iload X.1 X.2.1 dL_draws_20 (lv_at hl 5 rfl) ?_
  refine lv_if_lt (tgt := 173) X.1 X.2.1 dL_draws_22 (by decide) (fun c22 => ?_) (fun c22 => ?_)
  · replace hf := zif_pos c22 hf
    refine ze_aload_n X.1 X.2.1 dL_draws_173 rfl (lv_at hl 0 rfl) ?_
    refine lv_bipush (v := 62) X.1 X.2.1 dL_draws_174 (by decide) ?_
    refine lv_iload X.1 X.2.1 dL_draws_176 (lv_at hl 6 rfl) ?_
    obtain ⟨a23, rfl, k25, hg⟩ := zh_dr hf
    replace hf := hg
    refine ze_iast X hf hW k25 dL_draws_178 (fun I26 H locs hg hV => ?_)
    replace hf := hg
    replace hW := hV
    obtain ⟨rfl, rfl, rfl, rfl⟩ := zi4 hf
    exact ze_retV X hr hlk hW (by (try dsimp only); omega) (by (try dsimp only); omega) dL_draws_179
  · replace hf := zif_neg c22 hf
    refine lv_iload_n X.1 X.2.1 dL_draws_25 rfl (lv_at hl 1 rfl) ?_
    refine lv_iconst (v := 2) X.1 X.2.1 dL_draws_26 (by decide) ?_
    refine lv_iload X.1 X.2.1 dL_draws_27 (lv_at hl 6 rfl) ?_
    refine lv_imul X.1 X.2.1 dL_draws_29 ?_
    refine lv_bipush (v := 25) X.1 X.2.1 dL_draws_30 (by decide) ?_
    refine lv_irem X.1 X.2.1 dL_draws_32 (by decide) ?_
    refine lv_ishr X.1 X.2.1 dL_draws_33 ?_
    refine lv_bipush (v := 7) X.1 X.2.1 dL_draws_34 (by decide) ?_
    refine lv_iand X.1 X.2.1 dL_draws_36 ?_
    refine lv_iconst (v := 4) X.1 X.2.1 dL_draws_37 (by decide) ?_
    refine lv_irem X.1 X.2.1 dL_draws_38 (by decide) ?_
    refine ze_nm hf (fun v27 hg => ?_)
    replace hf := hg
    refine lv_istore (lv' := [(8, .int v27), (0, zrf B x0), (1, .int x1), (2, .int x2), (3, .int x3), (4, zrf B x4), (5, .int x5), (6, .int x6), (7, .int x7)]) X.1 X.2.1 dL_draws_39 hl (by decide) rfl (fun ls hk => ?_)
    replace hl := hk
    refine lv_iload X.1 X.2.1 dL_draws_41 (lv_at hl 7 rfl) ?_
    refine lv_if_ne (tgt := 55) X.1 X.2.1 dL_draws_43 (by decide) (fun c28 => ?_) (fun c28 => ?_)
    · replace hf := zif_neg c28 hf
      exact w_L_draws_55 X hr hlk hkself hf (by (try dsimp only); omega) (by (try dsimp only); omega) hW (lv_sub hl [1, 2, 3, 4, 5, 6, 7, 8, 0] rfl)
    · replace hf := zif_pos c28 hf
      refine lv_iload X.1 X.2.1 dL_draws_46 (lv_at hl 0 rfl) ?_
      refine lv_if_ne (tgt := 55) X.1 X.2.1 dL_draws_48 (by decide) (fun c29 => ?_) (fun c29 => ?_)
      · replace hf := zif_neg c29 hf
        exact w_L_draws_55 X hr hlk hkself hf (by (try dsimp only); omega) (by (try dsimp only); omega) hW (lv_sub hl [1, 2, 3, 4, 5, 6, 7, 8, 0] rfl)
      · replace hf := zif_pos c29 hf
        refine lv_iconst (v := 2) X.1 X.2.1 dL_draws_51 (by decide) ?_
        refine lv_goto (tgt := 57) X.1 X.2.1 dL_draws_52 (by decide) ?_
        exact w_L_draws_57 X hr hlk hkself hf (by (try dsimp only); omega) (by (try dsimp only); omega) hW (lv_sub hl [1, 2, 3, 4, 5, 6, 7, 8] rfl)
set_option maxRecDepth 100000 in
set_option maxHeartbeats 4000000 in
theorem w_L_draws_20 {F : Nat}  (X : zX p s m c cL_draws 9 RL D) (hr : meth.sig.returnType = none) (hlk : meth.locks = false)  {t : Nat} {x0 : Option Nat} {x1 : Int32} {x2 : Int32} {x3 : Int32} {x4 : Option Nat} {x5 : Int32} {x6 : Int32} {x7 : Int32} {cells slots : Nat} (hf : f_L_draws_20 F  t n K I R x0 x1 x2 x3 x4 x5 x6 x7 = some (n', K', I', R')) (b1 : cells + 0 ≤ 1) (b2 : slots + 0 ≤ 8) (hW : zS (zOwn B K0 (B + n0)) D B n K I R s.heap H locs) (hl : lv_has ls 9 [(0, zrf B x0), (1, .int x1), (2, .int x2), (3, .int x3), (4, zrf B x4), (5, .int x5), (6, .int x6), (7, .int x7)]) : W p l e ({ frames := 1, cells := 1, slots := 8, locals := 40 } : Room) s m args below meth c H locs cells slots (MQ below (zQv D (zOwn B K0 (B + n0)) B n' K' I' R') args s 1 8 (zOwn B K0 (B + n0))) (F0 m 20 ls []) := by
  have key : ∀ t : Nat, ∀ (n : Nat) (K : zK) (I : zI) (R : zR) (x0 : Option Nat) (x1 : Int32) (x2 : Int32) (x3 : Int32) (x4 : Option Nat) (x5 : Int32) (x6 : Int32) (x7 : Int32) (cells slots : Nat) (H : Heap) (locs : List Loc) (ls : Array Slot), f_L_draws_20 F  t n K I R x0 x1 x2 x3 x4 x5 x6 x7 = some (n', K', I', R') → cells + 0 ≤ 1 → slots + 0 ≤ 8 → zS (zOwn B K0 (B + n0)) D B n K I R s.heap H locs → lv_has ls 9 [(0, zrf B x0), (1, .int x1), (2, .int x2), (3, .int x3), (4, zrf B x4), (5, .int x5), (6, .int x6), (7, .int x7)] → W p l e ({ frames := 1, cells := 1, slots := 8, locals := 40 } : Room) s m args below meth c H locs cells slots (MQ below (zQv D (zOwn B K0 (B + n0)) B n' K' I' R') args s 1 8 (zOwn B K0 (B + n0))) (F0 m 20 ls []) := by
    intro t
    induction t with
    | zero =>
      intro n K I R x0 x1 x2 x3 x4 x5 x6 x7 cells slots H locs ls hf b1 b2 hW hl
      cases hf
    | succ t ih =>
      intro n K I R x0 x1 x2 x3 x4 x5 x6 x7 cells slots H locs ls hf b1 b2 hW hl
      exact wg_L_draws_20 X hr hlk  ih hf b1 b2 hW hl
  exact key t _ _ _ _ _ _ _ _ _ _ _ _ _ _ _ _ _ hf b1 b2 hW hl
set_option maxRecDepth 100000 in
set_option maxHeartbeats 4000000 in
theorem c_L_draws (l : Launch) (D : zD) (B n : Nat) {F : Nat} {K : zK} {I : zI} {R : zR} {x0 : Option Nat} {x1 : Int32} {x2 : Int32} {x3 : Int32} {n' : Nat} {K' : zK} {I' : zI} {R' : zR} (hf : f_L_draws F n K I R x0 x1 x2 x3 = some (n', K', I', R')) : zM l yL_draws cL_draws 9 (none) ({ frames := 1, cells := 1, slots := 8, locals := 40 } : Room) D B n K I R [zrf B x0, .int x1, .int x2, .int x3] (zQv D (zOwn B K (B + n)) B n' K' I' R') := by
  refine ze_entry (lv0 := [(0, zrf B x0), (1, .int x1), (2, .int x2), (3, .int x3)]) (by decide) (by simp [lg_sl, zcat, zcat_i, zcat_r, zcat_l]) (by simp [lv_args, zcat, zcat_i, zcat_r, zcat_l]) (fun p e s m below meth c X hr hlk hin hW ls hl => ?_)
  unfold f_L_draws at hf
  have b1 : (0 : Nat) ≤ 0 := Nat.le_refl _
  refine lv_bipush (v := 8) X.1 X.2.1 dL_draws_0 (by decide) ?_
  refine ze_nwI (N := 8) X hf kar_int (by decide) (by decide) (by decide) hW (by show _ ≤ (1 : Nat); (try dsimp only); omega) (by show _ ≤ (8 : Nat); (try dsimp only); omega) dL_draws_2 (fun n30 K31 I32 H hg hV => ?_)
  replace hf := hg
  replace hW := hV
  refine lv_astore (lv' := [(4, .ref (B + n)), (0, zrf B x0), (1, .int x1), (2, .int x2), (3, .int x3)]) X.1 X.2.1 dL_draws_4 hl (by decide) rfl (fun ls hk => ?_)
  replace hl := hk
  refine lv_iconst (v := 0) X.1 X.2.1 dL_draws_6 (by decide) ?_
  refine lv_istore (lv' := [(5, .int (0 : Int32)), (4, .ref (B + n)), (0, zrf B x0), (1, .int x1), (2, .int x2), (3, .int x3)]) X.1 X.2.1 dL_draws_7 hl (by decide) rfl (fun ls hk => ?_)
  replace hl := hk
  refine lv_iconst (v := 0) X.1 X.2.1 dL_draws_9 (by decide) ?_
  refine lv_istore (lv' := [(6, .int (0 : Int32)), (5, .int (0 : Int32)), (4, .ref (B + n)), (0, zrf B x0), (1, .int x1), (2, .int x2), (3, .int x3)]) X.1 X.2.1 dL_draws_10 hl (by decide) rfl (fun ls hk => ?_)
  replace hl := hk
  refine lv_iconst (v := 1) X.1 X.2.1 dL_draws_12 (by decide) ?_
  refine lv_istore (lv' := [(7, .int (1 : Int32)), (6, .int (0 : Int32)), (5, .int (0 : Int32)), (4, .ref (B + n)), (0, zrf B x0), (1, .int x1), (2, .int x2), (3, .int x3)]) X.1 X.2.1 dL_draws_13 hl (by decide) rfl (fun ls hk => ?_)
  replace hl := hk
  refine lv_aload X.1 X.2.1 dL_draws_15 (lv_at hl 3 rfl) ?_
  refine lv_iconst (v := 0) X.1 X.2.1 dL_draws_17 (by decide) ?_
  refine lv_iconst (v := 1) X.1 X.2.1 dL_draws_18 (by decide) ?_
  obtain ⟨k33, hg⟩ := zh_if hf
  replace hf := hg
  refine ze_iast X hf hW k33 dL_draws_19 (fun I34 H locs hg hV => ?_)
  replace hf := hg
  replace hW := hV
  exact w_L_draws_20 X hr hlk hf (by (try dsimp only); omega) (by (try dsimp only); omega) hW (lv_sub hl [4, 5, 6, 7, 3, 2, 1, 0] rfl)
end
