/-! ROWS over the heap by addresses -/
section ZR
variable {p : Program} {l : Launch} {e : Env} {R0 : Room} {s : State} {m : MethodId} {args : Array Value} {below : List Frame} {meth : Method} {c : Code} {H : Heap} {locs : List Loc} {cells slots : Nat} {Q : State → Prop}
variable {cc : ByteArray} {nL : Nat} {own : String} {pc : Nat} {ls : Array Slot} {rest : List Value} {A : Nat → Prop} {D : zD} {B n : Nat} {K : zK} {I : zI} {R : zR} {H0 : Heap}
theorem zcell {a ci : Nat} {r : vw_C} (hW : zS A D B n K I R H0 H locs) (hKa : (K a).1 = ci + 10) (hc : vwCl[ci]? = some r) : t_OB (B + a) (D.1.1 ci) r.2.2 (D.1.2 ci) H (fun k => zv B I R ci a k) := (hW.1.1 a).2.2 ci r hKa hc
theorem ze_getV (X : zX p s m c cc nL own D) {a : Nat} (ci k idx : Nat) (r : vw_C) (hW : zS A D B n K I R H0 H locs) (hKa : (K a).1 = ci + 10) (hc : vwCl[ci]? = some r) (hk : k < r.2.2) (hl : Cond.fieldLink own idx (r.2.1 k).1 (r.2.1 k).2.1 (r.2.1 k).2.2.1 ∈ lw_tbl) (hdg : decode cc pc = .ok (.getfield idx, 3))
    (kk : W p l e R0 s m args below meth c H locs cells slots Q (F0 m (pc + 3) ls (zv B I R ci a k :: rest))) : W p l e R0 s m args below meth c H locs cells slots Q (F0 m pc ls (.ref (B + a) :: rest)) := by
  obtain ⟨hx, hb, -, hown, hKN⟩ := X
  obtain ⟨cell, q1, q2, q3, q4⟩ := zcell hW hKa hc
  obtain ⟨hS, hfc, kC, hkC, hkind⟩ := hKN.2.1 ci _ hc
  obtain ⟨cf, kf, fi, f, hi, hsl⟩ := hS k hk
  have hts : ∀ w ∈ u_ws r.1 r.2.1 r.2.2, w.before args s = true := zlay hKN hc
  refine W.getf hx hb hown (hKN.use hl rfl) hi (u_facts hfc hkC (u_lays hts (fun w h => h) hk) hi).1 q1 (by rw [q3]; exact fun h => by cases h) (v := zv B I R ci a k) ?_ rfl rfl hdg kk
  rw [hsl, q4 k hk]
theorem ze_getVN (X : zX p s m c cc nL own D) {a : Nat} {host : String} (ci k idx : Nat) (r : vw_C) (hW : zS A D B n K I R H0 H locs) (hKa : (K a).1 = ci + 10) (hc : vwCl[ci]? = some r) (hk : k < r.2.2) (hl : Cond.fieldLinkNest own idx (r.2.1 k).1 (r.2.1 k).2.1 (r.2.1 k).2.2.1 host ∈ lw_tbl) (hdg : decode cc pc = .ok (.getfield idx, 3))
    (kk : W p l e R0 s m args below meth c H locs cells slots Q (F0 m (pc + 3) ls (zv B I R ci a k :: rest))) : W p l e R0 s m args below meth c H locs cells slots Q (F0 m pc ls (.ref (B + a) :: rest)) := by
  obtain ⟨hx, hb, -, hown, hKN⟩ := X
  obtain ⟨cell, q1, q2, q3, q4⟩ := zcell hW hKa hc
  obtain ⟨hS, hfc, kC, hkC, hkind⟩ := hKN.2.1 ci _ hc
  obtain ⟨cf, kf, fi, f, hi, hsl⟩ := hS k hk
  have hts : ∀ w ∈ u_ws r.1 r.2.1 r.2.2, w.before args s = true := zlay hKN hc
  refine va_Wgetf hx hb hown (hKN.use hl rfl) hi (u_facts hfc hkC (u_lays hts (fun w h => h) hk) hi).1 q1 (by rw [q3]; exact fun h => by cases h) (v := zv B I R ci a k) ?_ rfl rfl hdg kk
  rw [hsl, q4 k hk]
/-- the world behind a field's store -/
theorem zput_world {a ci k : Nat} {r : vw_C} {H1 : Heap} {I' : zI} {R' : zR} {v : Value} {cell : Cell} (X : zX p s m c cc nL own D) (hW : zS A D B n K I R H0 H locs) (hKa : (K a).1 = ci + 10) (hc : vwCl[ci]? = some r) (hk : k < r.2.2)
    (q2 : cell.cls = D.1.1 ci) (q3 : cell.vm = .none) (q4 : ∀ j, j < r.2.2 → cell.slots[D.1.2 ci j]? = some (zv B I R ci a j))
    (e1 : H1[B + a]? = some (cell.setSlot (D.1.2 ci k) v)) (e2 : H1.size = H.size) (e3 : ∀ q, q ≠ B + a → H1[q]? = H[q]?)
    (hI : ∀ b, b ≠ a → I' b = I b) (hR : ∀ b, b ≠ a → R' b = R b) (hv : ∀ j, zv B I' R' ci a j = if j = k then v else zv B I R ci a j) : zS A D B n K I' R' H0 H1 (locs ++ [⟨B + a, D.1.2 ci k⟩]) := by
  obtain ⟨⟨hz, hn⟩, hS, hA, hA0⟩ := hW
  have hKN := X.2.2.2.2
  obtain ⟨ty0, hty, hnm⟩ := zty hc
  have hts : ∀ w ∈ u_ws r.1 r.2.1 r.2.2, w.before (#[] : Array Value) s = true := zlay hKN hc
  have hap : ∀ x y, x < r.2.2 → y < r.2.2 → x ≠ y → D.1.2 ci x ≠ D.1.2 ci y := va_apart (own := own) hts (fun w h => h) ty0 hty hnm hKN.2 hc
  refine ⟨⟨fun b => ?_, by rw [e2]; exact hn⟩, hS.put e2 e3 (hA a (by omega)), hA, hA0⟩
  by_cases hb : b = a
  · subst hb
    refine ⟨fun t ht ek => by omega, fun t ht ek => by omega, fun ci' r' ek hr' => ?_⟩
    have hci : ci' = ci := by omega
    subst hci
    cases hc.symm.trans hr'
    exact t_OB.to (V := updV (fun j => zv B I R ci' b j) k v) ⟨_, e1, q2, q3, t_set q4 hap hk v⟩ (fun j _ => by rw [hv j]; rfl)
  · exact (hz b).kept (fun _ => e3 _ (by omega)) (hI b hb) (hR b hb) rfl
theorem zput_zv_I {ci a k : Nat} (hrk : zrk ci k = false) (v : Int32) (j : Nat) : zv B (zup I a k v) R ci a j = if j = k then .int v else zv B I R ci a j := by
  by_cases h : j = k
  · subst h; simp [zv, hrk, zup]
  · simp only [zv, zup_self_ne _ _ _ h, if_neg h]
theorem zput_zv_R {ci a k : Nat} (hrk : zrk ci k = true) (v : Option Nat) (j : Nat) : zv B I (zup R a k v) ci a j = if j = k then zrf B v else zv B I R ci a j := by
  by_cases h : j = k
  · subst h; simp [zv, hrk, zup]
  · simp only [zv, zup_self_ne _ _ _ h, if_neg h]
theorem ze_putV (X : zX p s m c cc nL own D) {a : Nat} (ci k idx : Nat) (r : vw_C) {v : Value} {ty : FieldType} {I' : zI} {R' : zR} (hW : zS A D B n K I R H0 H locs) (hKa : (K a).1 = ci + 10) (hc : vwCl[ci]? = some r) (hk : k < r.2.2) (hl : Cond.fieldLink own idx (r.2.1 k).1 (r.2.1 k).2.1 (r.2.1 k).2.2.1 ∈ lw_tbl)
    (hfin : (r.2.1 k).2.2.2 = false) (hd : parseFieldDescriptor (r.2.1 k).2.2.1 = some ty) (hnv : narrow ty v = v) (hfit : fits ty v = true) (hI : ∀ b, b ≠ a → I' b = I b) (hR : ∀ b, b ≠ a → R' b = R b) (hv : ∀ j, zv B I' R' ci a j = if j = k then v else zv B I R ci a j) (hdg : decode cc pc = .ok (.putfield idx, 3))
    (kk : ∀ (H1 : Heap) (locs1 : List Loc), zS A D B n K I' R' H0 H1 locs1 → W p l e R0 s m args below meth c H1 locs1 cells slots Q (F0 m (pc + 3) ls rest)) : W p l e R0 s m args below meth c H locs cells slots Q (F0 m pc ls (v :: .ref (B + a) :: rest)) := by
  have X0 := X
  obtain ⟨hx, hb, -, hown, hKN⟩ := X
  obtain ⟨cell, q1, q2, q3, q4⟩ := zcell hW hKa hc
  obtain ⟨hS, hfc, kC, hkC, hkind⟩ := hKN.2.1 ci _ hc
  obtain ⟨cf, kf, fi, f, hi, hsl⟩ := hS k hk
  have hts : ∀ w ∈ u_ws r.1 r.2.1 r.2.2, w.before args s = true := zlay hKN hc
  have hlay := hts _ (u_in_lay hk)
  unfold u_lay at hlay
  rw [if_neg (by rw [hfin]; decide)] at hlay
  have hst := (u_facts hfc hkC (u_lays hts (fun w h => h) hk) hi).1
  have h6 := u_store hfc hkC hkind hlay hi hd hnv hfit
  refine W.putK hx hb (f := f) ⟨hown, hKN.use hl rfl, ⟨_, _, _, hi⟩, hst⟩ (by rw [q2]; exact h6) q1 q3 (by rw [hsl]; exact k2_hasslot (q4 k hk)) rfl rfl hdg fun H' e1 e2 e3 => ?_
  rw [hsl] at e1 ⊢
  exact kk H' _ (zput_world X0 hW hKa hc hk q2 q3 q4 e1 e2 e3 hI hR hv)
theorem ze_putVN (X : zX p s m c cc nL own D) {a : Nat} {host : String} (ci k idx : Nat) (r : vw_C) {v : Value} {ty : FieldType} {I' : zI} {R' : zR} (hW : zS A D B n K I R H0 H locs) (hKa : (K a).1 = ci + 10) (hc : vwCl[ci]? = some r) (hk : k < r.2.2) (hl : Cond.fieldLinkNest own idx (r.2.1 k).1 (r.2.1 k).2.1 (r.2.1 k).2.2.1 host ∈ lw_tbl)
    (hfin : (r.2.1 k).2.2.2 = false) (hd : parseFieldDescriptor (r.2.1 k).2.2.1 = some ty) (hnv : narrow ty v = v) (hfit : fits ty v = true) (hI : ∀ b, b ≠ a → I' b = I b) (hR : ∀ b, b ≠ a → R' b = R b) (hv : ∀ j, zv B I' R' ci a j = if j = k then v else zv B I R ci a j) (hdg : decode cc pc = .ok (.putfield idx, 3))
    (kk : ∀ (H1 : Heap) (locs1 : List Loc), zS A D B n K I' R' H0 H1 locs1 → W p l e R0 s m args below meth c H1 locs1 cells slots Q (F0 m (pc + 3) ls rest)) : W p l e R0 s m args below meth c H locs cells slots Q (F0 m pc ls (v :: .ref (B + a) :: rest)) := by
  have X0 := X
  obtain ⟨hx, hb, -, hown, hKN⟩ := X
  obtain ⟨cell, q1, q2, q3, q4⟩ := zcell hW hKa hc
  obtain ⟨hS, hfc, kC, hkC, hkind⟩ := hKN.2.1 ci _ hc
  obtain ⟨cf, kf, fi, f, hi, hsl⟩ := hS k hk
  have hts : ∀ w ∈ u_ws r.1 r.2.1 r.2.2, w.before args s = true := zlay hKN hc
  have hlay := hts _ (u_in_lay hk)
  unfold u_lay at hlay
  rw [if_neg (by rw [hfin]; decide)] at hlay
  have hst := (u_facts hfc hkC (u_lays hts (fun w h => h) hk) hi).1
  have h6 := u_store hfc hkC hkind hlay hi hd hnv hfit
  refine va_WputK hx hb (f := f) hown (hKN.use hl rfl) hi hst (by rw [q2]; exact h6) q1 q3 (by rw [hsl]; exact k2_hasslot (q4 k hk)) rfl rfl hdg fun H' e1 e2 e3 => ?_
  rw [hsl] at e1 ⊢
  exact kk H' _ (zput_world X0 hW hKa hc hk q2 q3 q4 e1 e2 e3 hI hR hv)
theorem ze_putVF (X : zX p s m c cc nL own D) {a : Nat} (hin2 : meth.name = "<init>") (ci k idx : Nat) (r : vw_C) {v : Value} {ty : FieldType} {I' : zI} {R' : zR} (hW : zS A D B n K I R H0 H locs) (hKa : (K a).1 = ci + 10) (hc : vwCl[ci]? = some r) (hk : k < r.2.2) (hl : Cond.fieldLink own idx (r.2.1 k).1 (r.2.1 k).2.1 (r.2.1 k).2.2.1 ∈ lw_tbl)
    (hfin : (r.2.1 k).2.2.2 = true) (hdecl : (r.2.1 k).1 = own) (hd : parseFieldDescriptor (r.2.1 k).2.2.1 = some ty) (hnv : narrow ty v = v) (hfit : fits ty v = true) (hI : ∀ b, b ≠ a → I' b = I b) (hR : ∀ b, b ≠ a → R' b = R b) (hv : ∀ j, zv B I' R' ci a j = if j = k then v else zv B I R ci a j) (hdg : decode cc pc = .ok (.putfield idx, 3))
    (kk : ∀ (H1 : Heap) (locs1 : List Loc), zS A D B n K I' R' H0 H1 locs1 → W p l e R0 s m args below meth c H1 locs1 cells slots Q (F0 m (pc + 3) ls rest)) : W p l e R0 s m args below meth c H locs cells slots Q (F0 m pc ls (v :: .ref (B + a) :: rest)) := by
  have X0 := X
  obtain ⟨hx, hb, -, hown, hKN⟩ := X
  obtain ⟨cell, q1, q2, q3, q4⟩ := zcell hW hKa hc
  obtain ⟨hS, hfc, kC, hkC, hkind⟩ := hKN.2.1 ci _ hc
  obtain ⟨cf, kf, fi, f, hi, hsl⟩ := hS k hk
  have hts : ∀ w ∈ u_ws r.1 r.2.1 r.2.2, w.before args s = true := zlay hKN hc
  have hlay := hts _ (u_in_lay hk)
  unfold u_lay at hlay
  rw [if_pos hfin] at hlay
  have hst := (u_facts hfc hkC (u_lays hts (fun w h => h) hk) hi).1
  have hcf : m.cls = cf := by
    obtain ⟨_, _, c', _, _, _, -, -, hf', -, -, -, hown2, -⟩ := Cond.laysFinal_spec hlay
    have e1 : c' = cf := by have := hi.symm.trans hf'; simp at this; exact this.1.symm
    rw [hdecl] at hown2
    rw [← e1]; exact Option.some.inj (hown.symm.trans hown2)
  have h6 := u_fits hfc hkC hkind (Or.inr hlay) hi hd hnv hfit
  refine W.putFinK hx hb hown (hKN.use hl rfl) hi hst hcf hin2 (by rw [q2]; exact h6) q1 q3 (by rw [hsl]; exact k2_hasslot (q4 k hk)) rfl rfl hdg fun H' e1 e2 e3 => ?_
  rw [hsl] at e1 ⊢
  exact kk H' _ (zput_world X0 hW hKa hc hk q2 q3 q4 e1 e2 e3 hI hR hv)
theorem zfit_rf (B : Nat) (x : Option Nat) (C : String) : narrow (.object C) (zrf B x) = zrf B x ∧ fits (.object C) (zrf B x) = true := by
  cases x <;> exact ⟨rfl, rfl⟩
theorem zfit_ra (B : Nat) (x : Option Nat) (t : FieldType) : narrow (.array t) (zrf B x) = zrf B x ∧ fits (.array t) (zrf B x) = true := by
  cases x <;> exact ⟨rfl, rfl⟩
theorem zfit_b {v : Int32} (h : v = 0 ∨ v = 1) : narrow .boolean (.int v) = .int v ∧ fits .boolean (.int v) = true := by
  rcases h with rfl | rfl <;> exact ⟨by decide, by decide⟩
theorem zfit_i (v : Int32) : narrow .int (.int v) = .int v ∧ fits .int (.int v) = true := ⟨rfl, rfl⟩
theorem zh_rd {β : Type} {a : Nat} {i : Int32} {G : Int32 → Option β} {r : β} (h : zbd (zrd K I a i) G = some r) : zin i (K a).2 ∧ G (I a i.toNatClampNeg) = some r := by
  obtain ⟨v, h1, h2⟩ := zh_bd h
  unfold zrd at h1
  split at h1
  · cases h1; exact ⟨‹_›, h2⟩
  · cases h1
theorem zh_rdR {β : Type} {a : Nat} {i : Int32} {G : Option Nat → Option β} {r : β} (h : zbd (zrdR K R a i) G = some r) : zin i (K a).2 ∧ G (R a i.toNatClampNeg) = some r := by
  obtain ⟨v, h1, h2⟩ := zh_bd h
  unfold zrdR at h1
  split at h1
  · cases h1; exact ⟨‹_›, h2⟩
  · cases h1
theorem zin_not {i : Int32} {N : Nat} (h : zin i N) : ¬ (i < 0 ∨ N ≤ i.toNatClampNeg) := by
  rintro (q | q)
  · exact h.1 q
  · exact Nat.not_le.mpr h.2 q
theorem ze_iald (X : zX p s m c cc nL own D) {a : Nat} {i : Int32} {β : Type} {G : Int32 → Option β} {res : β} (hf : zbd (zrd K I a i) G = some res) (hW : zS A D B n K I R H0 H locs) (hKa : (K a).1 = 1) (hdg : decode cc pc = .ok (.iaload, 1))
    (kk : ∀ v : Int32, G v = some res → W p l e R0 s m args below meth c H locs cells slots Q (F0 m (pc + 1) ls (.int v :: rest))) : W p l e R0 s m args below meth c H locs cells slots Q (F0 m pc ls (.int i :: .ref (B + a) :: rest)) := by
  obtain ⟨hx, hb, -, hown, hKN⟩ := X
  obtain ⟨hin, hg⟩ := zh_rd hf
  have hcell := (hW.1.1 a).1 1 (Or.inl rfl) hKa
  exact W.iald (v := .int (I a i.toNatClampNeg)) hx hb hcell ((hKN.2.2 0 _ rfl).1 _ _) (fun q => by cases q) (by rw [arrV_size]; exact zin_not hin) (by rw [arrV_read _ _ hin.2]) rfl rfl hdg (kk _ hg)
theorem ze_zald (X : zX p s m c cc nL own D) {a : Nat} {i : Int32} {β : Type} {G : Int32 → Option β} {res : β} (hf : zbd (zrd K I a i) G = some res) (hW : zS A D B n K I R H0 H locs) (hKa : (K a).1 = 2) (hdg : decode cc pc = .ok (.baload, 1))
    (kk : ∀ v : Int32, G v = some res → W p l e R0 s m args below meth c H locs cells slots Q (F0 m (pc + 1) ls (.int v :: rest))) : W p l e R0 s m args below meth c H locs cells slots Q (F0 m pc ls (.int i :: .ref (B + a) :: rest)) := by
  obtain ⟨hx, hb, -, hown, hKN⟩ := X
  obtain ⟨hin, hg⟩ := zh_rd hf
  have hcell := (hW.1.1 a).1 2 (Or.inr rfl) hKa
  exact W.zald (v := .int (I a i.toNatClampNeg)) hx hb hcell ((hKN.2.2 1 _ rfl).1 _ _) (fun q => by cases q) (by rw [arrV_size]; exact zin_not hin) (by rw [arrV_read _ _ hin.2]) rfl rfl hdg (kk _ hg)
theorem zKN.arr {D : zD} {s : State} (h : zKN D s) {t : Nat} (ht : t = 3 ∨ t = 4) : ∃ C ci, (vwCl[ci]?).map (·.1) = some C ∧ ci + 1 = t + 2 ∧ ArrOfT s (D.2 t) (.object C) ∧ va_RA s (D.2 t) (.object C) := by
  rcases ht with rfl | rfl
  · exact ⟨RX4, 4, rfl, rfl, h.2.2 2 _ rfl⟩
  · exact ⟨RX5, 5, rfl, rfl, h.2.2 3 _ rfl⟩
theorem ze_aald (X : zX p s m c cc nL own D) {a : Nat} (t : Nat) (ht : t = 3 ∨ t = 4) {i : Int32} {β : Type} {G : Option Nat → Option β} {res : β} (hf : zbd (zrdR K R a i) G = some res) (hW : zS A D B n K I R H0 H locs) (hKa : (K a).1 = t) (hdg : decode cc pc = .ok (.aaload, 1))
    (kk : ∀ v : Option Nat, G v = some res → W p l e R0 s m args below meth c H locs cells slots Q (F0 m (pc + 1) ls (zrf B v :: rest))) : W p l e R0 s m args below meth c H locs cells slots Q (F0 m pc ls (.int i :: .ref (B + a) :: rest)) := by
  obtain ⟨hx, hb, -, hown, hKN⟩ := X
  obtain ⟨hin, hg⟩ := zh_rdR hf
  have hcell := (hW.1.1 a).2.1 t ht hKa
  obtain ⟨C, ci, -, -, hA, -⟩ := hKN.arr ht
  exact W.aald (v := zrf B (R a i.toNatClampNeg)) (ty := .object C) hx hb hcell (hA _ _) rfl (fun q => by cases q) (by rw [arrV_size]; exact zin_not hin) (by rw [arrV_read _ _ hin.2]) rfl rfl hdg (kk _ hg)
/-- the world behind an array's store -/
theorem zast_worldI {a t : Nat} {k : Nat} {v : Int32} {H1 : Heap} {j : Nat} (ht : t = 1 ∨ t = 2) (hW : zS A D B n K I R H0 H locs) (hKa : (K a).1 = t)
    (e1 : H1[B + a]? = some ((arrV (D.2 t) (K a).2 (fun j => .int (I a j))).setSlot k (.int v))) (e2 : H1.size = H.size) (e3 : ∀ q, q ≠ B + a → H1[q]? = H[q]?) : zS A D B n K (zup I a k v) R H0 H1 (locs ++ [⟨B + a, j⟩]) := by
  obtain ⟨⟨hz, hn⟩, hS, hA, hA0⟩ := hW
  refine ⟨⟨fun b => ?_, by rw [e2]; exact hn⟩, hS.put e2 e3 (hA a (by omega)), hA, hA0⟩
  by_cases hb : b = a
  · subst hb
    refine ⟨fun t' ht' ek => ?_, fun t' ht' ek => by omega, fun ci' r' ek hr' => by omega⟩
    have : t' = t := by omega
    subst this
    rw [e1, arrV_store]
    congr 2
    funext j'
    by_cases hj : j' = k
    · subst hj; simp [updV, zup]
    · simp [updV, zup, hj]
  · exact (hz b).kept (fun _ => e3 _ (by omega)) (zup_ne _ _ _ hb) rfl rfl
theorem zast_worldR {a t : Nat} {k : Nat} {v : Option Nat} {H1 : Heap} {j : Nat} (ht : t = 3 ∨ t = 4) (hW : zS A D B n K I R H0 H locs) (hKa : (K a).1 = t)
    (e1 : H1[B + a]? = some ((arrV (D.2 t) (K a).2 (fun j => zrf B (R a j))).setSlot k (zrf B v))) (e2 : H1.size = H.size) (e3 : ∀ q, q ≠ B + a → H1[q]? = H[q]?) : zS A D B n K I (zup R a k v) H0 H1 (locs ++ [⟨B + a, j⟩]) := by
  obtain ⟨⟨hz, hn⟩, hS, hA, hA0⟩ := hW
  refine ⟨⟨fun b => ?_, by rw [e2]; exact hn⟩, hS.put e2 e3 (hA a (by omega)), hA, hA0⟩
  by_cases hb : b = a
  · subst hb
    refine ⟨fun t' ht' ek => by omega, fun t' ht' ek => ?_, fun ci' r' ek hr' => by omega⟩
    have : t' = t := by omega
    subst this
    rw [e1, arrV_store]
    congr 2
    funext j'
    by_cases hj : j' = k
    · subst hj; simp [updV, zup]
    · simp [updV, zup, hj]
  · exact (hz b).kept (fun _ => e3 _ (by omega)) rfl (zup_ne _ _ _ hb) rfl
theorem zh_wr {β : Type} {a : Nat} {i v : Int32} {G : zI → Option β} {r : β} (h : zbd (zwr K I a i v) G = some r) : zin i (K a).2 ∧ G (zup I a i.toNatClampNeg v) = some r := by
  obtain ⟨w, h1, h2⟩ := zh_bd h
  unfold zwr at h1
  split at h1
  · cases h1; exact ⟨‹_›, h2⟩
  · cases h1
theorem zh_wrZ {β : Type} {a : Nat} {i v : Int32} {G : zI → Option β} {r : β} (h : zbd (zwrZ K I a i v) G = some r) : (zin i (K a).2 ∧ (v = 0 ∨ v = 1)) ∧ G (zup I a i.toNatClampNeg v) = some r := by
  obtain ⟨w, h1, h2⟩ := zh_bd h
  unfold zwrZ at h1
  split at h1
  · cases h1; exact ⟨‹_›, h2⟩
  · cases h1
theorem ze_iast (X : zX p s m c cc nL own D) {a : Nat} {i v : Int32} {β : Type} {G : zI → Option β} {res : β} (hf : zbd (zwr K I a i v) G = some res) (hW : zS A D B n K I R H0 H locs) (hKa : (K a).1 = 1) (hdg : decode cc pc = .ok (.iastore, 1))
    (kk : ∀ (I1 : zI) (H1 : Heap) (locs1 : List Loc), G I1 = some res → zS A D B n K I1 R H0 H1 locs1 → W p l e R0 s m args below meth c H1 locs1 cells slots Q (F0 m (pc + 1) ls rest)) : W p l e R0 s m args below meth c H locs cells slots Q (F0 m pc ls (.int v :: .int i :: .ref (B + a) :: rest)) := by
  obtain ⟨hx, hb, -, hown, hKN⟩ := X
  obtain ⟨hin, hg⟩ := zh_wr hf
  have hcell := (hW.1.1 a).1 1 (Or.inl rfl) hKa
  exact W.iast hx hb hcell ((hKN.2.2 0 _ rfl).1 _ _) (fun q => by cases q) (by rw [arrV_size]; exact zin_not hin) rfl rfl hdg fun H1 e z oq => kk _ H1 _ hg (zast_worldI (Or.inl rfl) hW hKa e z oq)
theorem ze_zast (X : zX p s m c cc nL own D) {a : Nat} {i v : Int32} {β : Type} {G : zI → Option β} {res : β} (hf : zbd (zwrZ K I a i v) G = some res) (hW : zS A D B n K I R H0 H locs) (hKa : (K a).1 = 2) (hdg : decode cc pc = .ok (.bastore, 1))
    (kk : ∀ (I1 : zI) (H1 : Heap) (locs1 : List Loc), G I1 = some res → zS A D B n K I1 R H0 H1 locs1 → W p l e R0 s m args below meth c H1 locs1 cells slots Q (F0 m (pc + 1) ls rest)) : W p l e R0 s m args below meth c H locs cells slots Q (F0 m pc ls (.int v :: .int i :: .ref (B + a) :: rest)) := by
  obtain ⟨hx, hb, -, hown, hKN⟩ := X
  obtain ⟨⟨hin, hv⟩, hg⟩ := zh_wrZ hf
  have hcell := (hW.1.1 a).1 2 (Or.inr rfl) hKa
  exact W.zast hx hb hcell ((hKN.2.2 1 _ rfl).1 _ _) (fun q => by cases q) (by rw [arrV_size]; exact zin_not hin) rfl rfl hdg fun H1 e z oq => kk _ H1 _ hg (zast_worldI (Or.inr rfl) hW hKa (by rw [(zfit_b hv).1] at e; exact e) z oq)
theorem ze_aast (X : zX p s m c cc nL own D) {a : Nat} (t : Nat) (ht : t = 3 ∨ t = 4) {i : Int32} {x : Option Nat} {β : Type} {G : zR → Option β} {res : β} (hf : zbd (zwrR K R a i x (t + 11)) G = some res) (hW : zS A D B n K I R H0 H locs) (hKa : (K a).1 = t) (hdg : decode cc pc = .ok (.aastore, 1))
    (kk : ∀ (R1 : zR) (H1 : Heap) (locs1 : List Loc), G R1 = some res → zS A D B n K I R1 H0 H1 locs1 → W p l e R0 s m args below meth c H1 locs1 cells slots Q (F0 m (pc + 1) ls rest)) : W p l e R0 s m args below meth c H locs cells slots Q (F0 m pc ls (zrf B x :: .int i :: .ref (B + a) :: rest)) := by
  obtain ⟨hx, hb, -, hown, hKN⟩ := X
  obtain ⟨w, h1, hg⟩ := zh_bd hf
  unfold zwrR at h1
  split at h1
  case isFalse => cases h1
  case isTrue hh =>
  cases h1
  obtain ⟨hin, hkd⟩ := hh
  have hcell := (hW.1.1 a).2.1 t ht hKa
  obtain ⟨C, ci, hcc, hci, hAr, hRA⟩ := hKN.arr ht
  cases x with
  | none => exact va_WaastN (C := C) hx hb hcell (hAr _ _) (fun h => by cases h) (by rw [arrV_size]; exact zin_not hin) rfl rfl hdg fun H1 e z oq => kk _ H1 _ hg (zast_worldR (v := none) ht hW hKa e z oq)
  | some v =>
    have hKv : (K v).1 = ci + 10 := by rw [hkd v rfl]; omega
    obtain ⟨r, hr, hrC⟩ := Option.map_eq_some_iff.mp hcc
    subst hrC
    obtain ⟨cellV, g1, g2, g3, -⟩ := zcell hW hKv hr
    have hcls := (hKN.2.1 ci r hr).2
    obtain ⟨kA, comp, k1, k2, k3, -⟩ := hRA
    have hcomp : comp = D.1.1 ci := Option.some.inj (k3.symm.trans hcls.1)
    subst hcomp
    have hcls2 := hcls
    obtain ⟨-, kC, hkC, -⟩ := hcls2
    exact W.aast hx hb hcell (fun q h => by cases h) (fun h => by cases h) k1 k2 rfl hkC ⟨hin.1, by rw [arrV_size]; exact hin.2⟩ g1 (fun q h => by rw [g3] at h; cases h) (by rw [g2]; exact hkC) (by rw [g2]; exact va_assign hcls) rfl rfl hdg fun H1 e z oq => kk _ H1 _ hg (zast_worldR (v := some v) ht hW hKa e z oq)
theorem ze_alen (X : zX p s m c cc nL own D) {a : Nat} (t : Nat) (ht : t = 1 ∨ t = 2 ∨ t = 3 ∨ t = 4) (hW : zS A D B n K I R H0 H locs) (hKa : (K a).1 = t) (hdg : decode cc pc = .ok (.arraylength, 1))
    (kk : W p l e R0 s m args below meth c H locs cells slots Q (F0 m (pc + 1) ls (.int (zln K a) :: rest))) : W p l e R0 s m args below meth c H locs cells slots Q (F0 m pc ls (.ref (B + a) :: rest)) := by
  obtain ⟨hx, hb, -, hown, hKN⟩ := X
  rcases ht with rfl | rfl | ht
  · exact W.alen (n := zln K a) hx hb ((hW.1.1 a).1 1 (Or.inl rfl) hKa) ((hKN.2.2 0 _ rfl).1 _ _) (by rw [arrV_size]; rfl) rfl rfl hdg kk
  · exact W.alen (n := zln K a) hx hb ((hW.1.1 a).1 2 (Or.inr rfl) hKa) ((hKN.2.2 1 _ rfl).1 _ _) (by rw [arrV_size]; rfl) rfl rfl hdg kk
  · obtain ⟨C, ci, -, -, hA, -⟩ := hKN.arr ht
    exact W.alen (n := zln K a) hx hb ((hW.1.1 a).2.1 t ht hKa) (hA _ _) (by rw [arrV_size]; rfl) rfl rfl hdg kk
end ZR
