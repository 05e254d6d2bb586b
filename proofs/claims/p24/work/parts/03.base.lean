/-! BASE. Both sides' objects and arrays by address: K a = (kind, length), I a k the ints, R a k the references; kinds: 1 int[], 2 boolean[], 3 State[], 4 Term[], 10 + c an object of class c. One bundle of what the tables say (zKN), one row an instruction; addresses are counted from B on. -/
abbrev zK : Type := Nat → Nat × Nat
abbrev zI : Type := Nat → Nat → Int32
abbrev zR : Type := Nat → Nat → Option Nat
abbrev zD : Type := va_G × (Nat → ClassId)
def zrf (B : Nat) (x : Option Nat) : Value := va_rf (x.map (fun a => B + a))
def zup {α : Type} (f : Nat → Nat → α) (a k : Nat) (v : α) : Nat → Nat → α := fun b j => if b = a ∧ j = k then v else f b j
def zclr {α : Type} (f : Nat → Nat → α) (a : Nat) (v : α) : Nat → Nat → α := fun b j => if b = a then v else f b j
def zset {α : Type} (f : Nat → α) (a : Nat) (v : α) : Nat → α := fun b => if b = a then v else f b
abbrev zin (i : Int32) (n : Nat) : Prop := ¬ i < 0 ∧ i.toNatClampNeg < n
def zbd {α β : Type} (o : Option α) (g : α → Option β) : Option β := match o with
  | none => none
  | some a => g a
def zbd2 {α β γ : Type} (o : Option (α × β)) (g : α → β → Option γ) : Option γ := match o with
  | none => none
  | some (a, b) => g a b
def zbd3 {α β γ δ : Type} (o : Option (α × β × γ)) (g : α → β → γ → Option δ) : Option δ := match o with
  | none => none
  | some (a, b, c) => g a b c
def zbd4 {α β γ δ ε : Type} (o : Option (α × β × γ × δ)) (g : α → β → γ → δ → Option ε) : Option ε := match o with
  | none => none
  | some (a, b, c, d) => g a b c d
def zbd5 {α β γ δ ε ζ : Type} (o : Option (α × β × γ × δ × ε)) (g : α → β → γ → δ → ε → Option ζ) : Option ζ := match o with
  | none => none
  | some (a, b, c, d, e) => g a b c d e
def zdr (K : zK) (x : Option Nat) (t : Nat) : Option Nat := match x with
  | none => none
  | some a => if (K a).1 = t then some a else none
def zrd (K : zK) (I : zI) (a : Nat) (i : Int32) : Option Int32 := if zin i (K a).2 then some (I a i.toNatClampNeg) else none
def zrdR (K : zK) (R : zR) (a : Nat) (i : Int32) : Option (Option Nat) := if zin i (K a).2 then some (R a i.toNatClampNeg) else none
def zwr (K : zK) (I : zI) (a : Nat) (i v : Int32) : Option zI := if zin i (K a).2 then some (zup I a i.toNatClampNeg v) else none
def zwrZ (K : zK) (I : zI) (a : Nat) (i v : Int32) : Option zI := if zin i (K a).2 ∧ (v = 0 ∨ v = 1) then some (zup I a i.toNatClampNeg v) else none
def zwrR (K : zK) (R : zR) (a : Nat) (i : Int32) (v : Option Nat) (t : Nat) : Option zR := if zin i (K a).2 ∧ (∀ b, v = some b → (K b).1 = t) then some (zup R a i.toNatClampNeg v) else none
def zbl (v : Int32) : Option Int32 := if v = 0 ∨ v = 1 then some v else none
def zln (K : zK) (a : Nat) : Int32 := Int32.ofNat (K a).2
theorem zh_bd {α β : Type} {o : Option α} {g : α → Option β} {r : β} (h : zbd o g = some r) : ∃ a, o = some a ∧ g a = some r := by
  cases o with
  | none => cases h
  | some a => exact ⟨a, rfl, h⟩
theorem zh_bd2 {α β γ : Type} {o : Option (α × β)} {g : α → β → Option γ} {r : γ} (h : zbd2 o g = some r) : ∃ a b, o = some (a, b) ∧ g a b = some r := by
  cases o with
  | none => cases h
  | some a => exact ⟨a.1, a.2, rfl, h⟩
theorem zh_bd3 {α β γ δ : Type} {o : Option (α × β × γ)} {g : α → β → γ → Option δ} {r : δ} (h : zbd3 o g = some r) : ∃ a b c, o = some (a, b, c) ∧ g a b c = some r := by
  cases o with
  | none => cases h
  | some a => exact ⟨a.1, a.2.1, a.2.2, rfl, h⟩
theorem zh_bd4 {α β γ δ ε : Type} {o : Option (α × β × γ × δ)} {g : α → β → γ → δ → Option ε} {r : ε} (h : zbd4 o g = some r) : ∃ a b c d, o = some (a, b, c, d) ∧ g a b c d = some r := by
  cases o with
  | none => cases h
  | some a => exact ⟨a.1, a.2.1, a.2.2.1, a.2.2.2, rfl, h⟩
theorem zh_bd5 {α β γ δ ε ζ : Type} {o : Option (α × β × γ × δ × ε)} {g : α → β → γ → δ → ε → Option ζ} {r : ζ} (h : zbd5 o g = some r) : ∃ a b c d e, o = some (a, b, c, d, e) ∧ g a b c d e = some r := by
  cases o with
  | none => cases h
  | some a => exact ⟨a.1, a.2.1, a.2.2.1, a.2.2.2.1, a.2.2.2.2, rfl, h⟩
theorem zh_dr {β : Type} {K : zK} {x : Option Nat} {t : Nat} {G : Nat → Option β} {r : β} (h : zbd (zdr K x t) G = some r) : ∃ a, x = some a ∧ (K a).1 = t ∧ G a = some r := by
  obtain ⟨a, h1, h2⟩ := zh_bd h
  cases x with
  | none => cases h1
  | some b =>
    simp only [zdr] at h1
    split at h1
    · cases h1
      exact ⟨_, rfl, ‹_›, h2⟩
    · cases h1
theorem zif_pos {α : Type} {c : Prop} [Decidable c] {a b r : α} (hc : c) (h : (if c then a else b) = r) : a = r := by rwa [if_pos hc] at h
theorem zif_neg {α : Type} {c : Prop} [Decidable c] {a b r : α} (hc : ¬ c) (h : (if c then a else b) = r) : b = r := by rwa [if_neg hc] at h
/-! what the tables say -/
def zw_ok : Cond → Bool
  | .arrayOver (.object _) => true
  | w => goodWord w || (w.onTables && w.keepsH)
theorem zw_warm {w : Cond} {s U : State} (hW : s.WarmedH U.vm) (hk : zw_ok w = true) {a a' : Array Value} (hb : w.before a s = true) : w.before a' U = true := by
  have key : (goodWord w || (w.onTables && w.keepsH)) = true → w.before a' U = true := by
    intro h
    rcases Bool.or_eq_true _ _ ▸ h with h | h
    · exact word_at hW (good_of_word h) hb
    · simp only [Bool.and_eq_true] at h
      have h1 := Cond.onTables_warmH (T := U) (args' := a') hW h.1 h.2 hb
      rwa [State.setVm_self] at h1
  cases w with
  | arrayOver ty =>
    cases ty with
    | object C => exact va_AO.use (va_AO.moved hW.alike (va_AO.of hb))
    | _ => exact key hk
  | _ => exact key hk
def zKN (D : zD) (U : State) : Prop := (∀ w ∈ lw_tbl, zw_ok w = true → w.before #[] U = true) ∧ va_K D.1 vwCl [(D.2 1, .int), (D.2 2, .boolean), (D.2 3, .object RX4), (D.2 4, .object RX5)] U
theorem zKN.warm {D : zD} {s U : State} (h : zKN D s) (hW : s.WarmedH U.vm) : zKN D U := ⟨fun w hw hk => zw_warm hW hk (h.1 w hw hk), va_K.moved hW.alike h.2⟩
theorem zKN.blind {D : zD} {s : State} (h : zKN D s) (g : JFrame) (mk : MethodId) (a : Array Value) : zKN D (s.calling g mk a) := h.warm (U := s.calling g mk a) (State.WarmedH.refl s)
theorem zKN.use {D : zD} {s : State} {args : Array Value} (h : zKN D s) {w : Cond} (hm : w ∈ lw_tbl) (hk : zw_ok w = true) : w.before args s = true := zw_warm (State.WarmedH.refl s) hk (h.1 w hm hk)
theorem zKN.word {D : zD} {s : State} (h : zKN D s) {w : Cond} (hm : w ∈ lw_tbl) (hk : zw_ok w = true) : ∀ (a' : Array Value) (U : State), s.WarmedH U.vm → w.before a' U = true := fun _ _ hW => zw_warm hW hk (h.1 w hm hk)
/-- which fields hold references -/
def zrk (c k : Nat) : Bool := match c, k with
  | 0, 2 => true
  | 0, 3 => true
  | 0, 4 => true
  | 0, 6 => true
  | 0, 7 => true
  | 0, 8 => true
  | 0, 9 => true
  | 0, 10 => true
  | 0, 11 => true
  | 0, 12 => true
  | 1, 0 => true
  | 1, 1 => true
  | 1, 2 => true
  | 1, 3 => true
  | 1, 4 => true
  | 1, 5 => true
  | 1, 6 => true
  | 1, 7 => true
  | 2, 0 => true
  | 2, 4 => true
  | 2, 6 => true
  | 2, 7 => true
  | 2, 8 => true
  | 3, 0 => true
  | 3, 1 => true
  | 3, 2 => true
  | 3, 3 => true
  | 3, 4 => true
  | 3, 5 => true
  | 4, 0 => true
  | 4, 1 => true
  | 5, 0 => true
  | 5, 1 => true
  | 5, 2 => true
  | 6, 0 => true
  | 6, 3 => true
  | 6, 4 => true
  | 6, 6 => true
  | 6, 7 => true
  | 6, 8 => true
  | 6, 9 => true
  | 6, 10 => true
  | 7, 0 => true
  | 7, 2 => true
  | 7, 5 => true
  | 7, 6 => true
  | 7, 7 => true
  | 7, 8 => true
  | 7, 9 => true
  | 7, 10 => true
  | 7, 11 => true
  | 7, 15 => true
  | 7, 17 => true
  | 7, 18 => true
  | 7, 19 => true
  | 7, 20 => true
  | 7, 21 => true
  | 7, 22 => true
  | 7, 23 => true
  | 7, 24 => true
  | 7, 25 => true
  | 7, 26 => true
  | 7, 27 => true
  | 7, 28 => true
  | 7, 30 => true
  | 7, 31 => true
  | 7, 32 => true
  | 7, 33 => true
  | 7, 34 => true
  | 7, 35 => true
  | 7, 36 => true
  | 7, 37 => true
  | 7, 38 => true
  | _, _ => false
theorem zinl0 : ∀ w ∈ u_ws RX0 TX0 13, w ∈ lw_tbl := by decide +kernel
theorem zinl1 : ∀ w ∈ u_ws RX1 TX1 8, w ∈ lw_tbl := by decide +kernel
theorem zinl2 : ∀ w ∈ u_ws RX2 TX2 9, w ∈ lw_tbl := by decide +kernel
theorem zinl3 : ∀ w ∈ u_ws RX3 TX3 5, w ∈ lw_tbl := by decide +kernel
theorem zinl4 : ∀ w ∈ u_ws RX4 TX4 2, w ∈ lw_tbl := by decide +kernel
theorem zinl5 : ∀ w ∈ u_ws RX5 TX5 4, w ∈ lw_tbl := by decide +kernel
theorem zinl6 : ∀ w ∈ u_ws RX6 TX6 11, w ∈ lw_tbl := by decide +kernel
theorem zlay_ok (C : String) (T : u_T) (k : Nat) : zw_ok (u_lay C T k) = true := by
  unfold u_lay
  split <;> rfl
theorem zlay {D : zD} {s : State} {args : Array Value} (h : zKN D s) {ci : Nat} {r : vw_C} (hc : vwCl[ci]? = some r) : ∀ w ∈ u_ws r.1 r.2.1 r.2.2, w.before args s = true := by
  have go : ∀ (C : String) (T : u_T) (N : Nat), (∀ w ∈ u_ws C T N, w ∈ lw_tbl) → ∀ w ∈ u_ws C T N, w.before args s = true := by
    intro C T N hin w hw
    have hm := hin w hw
    obtain ⟨k, -, rfl⟩ := List.mem_map.mp hw
    exact h.use hm (zlay_ok C T k)
  match ci, hc with
  | 0, hc => cases hc; exact go _ _ _ zinl0
  | 1, hc => cases hc; exact go _ _ _ zinl1
  | 2, hc => cases hc; exact go _ _ _ zinl2
  | 3, hc => cases hc; exact go _ _ _ zinl3
  | 4, hc => cases hc; exact go _ _ _ zinl4
  | 5, hc => cases hc; exact go _ _ _ zinl5
  | 6, hc => cases hc; exact go _ _ _ zinl6
  | k + 7, hc => simp [vwCl] at hc
theorem zty {ci : Nat} {r : vw_C} (hc : vwCl[ci]? = some r) : ∃ ty0 : Nat → FieldType, (∀ k, k < r.2.2 → parseFieldDescriptor (r.2.1 k).2.2.1 = some (ty0 k)) ∧ (∀ a, a < r.2.2 → ∀ b, b < r.2.2 → a ≠ b → (r.2.1 a).2.1 ≠ (r.2.1 b).2.1) := by
  match ci, hc with
  | 0, hc => cases hc; exact ⟨_, tyX0_ok, nmX0⟩
  | 1, hc => cases hc; exact ⟨_, tyX1_ok, nmX1⟩
  | 2, hc => cases hc; exact ⟨_, tyX2_ok, nmX2⟩
  | 3, hc => cases hc; exact ⟨_, tyX3_ok, nmX3⟩
  | 4, hc => cases hc; exact ⟨_, tyX4_ok, nmX4⟩
  | 5, hc => cases hc; exact ⟨_, tyX5_ok, nmX5⟩
  | 6, hc => cases hc; exact ⟨_, tyX6_ok, nmX6⟩
  | k + 7, hc => simp [vwCl] at hc
/-! the heap by addresses -/
def zv (B : Nat) (I : zI) (R : zR) (ci a k : Nat) : Value := match zrk ci k with
  | true => zrf B (R a k)
  | false => .int (I a k)
def zc (D : zD) (B : Nat) (K : zK) (I : zI) (R : zR) (H : Heap) (a : Nat) : Prop :=
  (∀ t, (t = 1 ∨ t = 2) → (K a).1 = t → H[B + a]? = some (arrV (D.2 t) (K a).2 (fun j => .int (I a j)))) ∧
  (∀ t, (t = 3 ∨ t = 4) → (K a).1 = t → H[B + a]? = some (arrV (D.2 t) (K a).2 (fun j => zrf B (R a j)))) ∧
  (∀ (ci : Nat) (r : vw_C), (K a).1 = ci + 10 → vwCl[ci]? = some r → t_OB (B + a) (D.1.1 ci) r.2.2 (D.1.2 ci) H (fun k => zv B I R ci a k))
def zOwn (B : Nat) (K : zK) (sz : Nat) : Nat → Prop := fun q => (∃ a, q = B + a ∧ (K a).1 ≠ 0) ∨ sz ≤ q
def zU (D : zD) (B n : Nat) (K : zK) (I : zI) (R : zR) (H : Heap) : Prop := (∀ a, zc D B K I R H a) ∧ H.size = B + n
def zS (A : Nat → Prop) (D : zD) (B n : Nat) (K : zK) (I : zI) (R : zR) (H0 H : Heap) (locs : List Loc) : Prop :=
  zU D B n K I R H ∧ va_S A H0 H locs ∧ (∀ a, (K a).1 ≠ 0 → A (B + a)) ∧ ∀ q, H0.size ≤ q → A q
def zX (p : Program) (s : State) (m : MethodId) (c : Code) (cc : ByteArray) (nL : Nat) (own : String) (D : zD) : Prop :=
  p.tables.exec = Jvm.exec ∧ c.code = cc ∧ c.maxLocals = nL ∧ s.vm.findClass own = some m.cls ∧ zKN D s
theorem zc.kept {D : zD} {B : Nat} {K K' : zK} {I I' : zI} {R R' : zR} {H H1 : Heap} {a : Nat} (h : zc D B K I R H a) (hq : (K a).1 ≠ 0 → H1[B + a]? = H[B + a]?) (hI : I' a = I a) (hR : R' a = R a) (hK : K' a = K a) : zc D B K' I' R' H1 a := by
  obtain ⟨h1, h2, h3⟩ := h
  refine ⟨fun t ht e => ?_, fun t ht e => ?_, fun ci r e hr => ?_⟩
  · rw [hK] at e ⊢
    rw [hI, hq (by omega)]
    exact h1 t ht e
  · rw [hK] at e ⊢
    rw [hR, hq (by omega)]
    exact h2 t ht e
  · rw [hK] at e
    have hv : (fun k => zv B I' R' ci a k) = (fun k => zv B I R ci a k) := by
      funext k
      simp only [zv, hI, hR]
    rw [hv]
    exact (h3 ci r e hr).kept (hq (by omega))
theorem zup_ne {α : Type} (f : Nat → Nat → α) {a b : Nat} (k : Nat) (v : α) (h : b ≠ a) : zup f a k v b = f b := by
  funext j
  simp [zup, h]
theorem zup_self {α : Type} (f : Nat → Nat → α) (a k : Nat) (v : α) : zup f a k v a k = v := by simp [zup]
theorem zup_self_ne {α : Type} (f : Nat → Nat → α) (a : Nat) {k j : Nat} (v : α) (h : j ≠ k) : zup f a k v a j = f a j := by simp [zup, h]
theorem zclr_ne {α : Type} (f : Nat → Nat → α) {a b : Nat} (v : α) (h : b ≠ a) : zclr f a v b = f b := by
  funext j
  simp [zclr, h]
theorem zset_ne {α : Type} (f : Nat → α) {a b : Nat} (v : α) (h : b ≠ a) : zset f a v b = f b := by simp [zset, h]
theorem zclr_self {α : Type} (f : Nat → Nat → α) (a : Nat) (v : α) (j : Nat) : zclr f a v a j = v := by simp [zclr]
theorem zset_self {α : Type} (f : Nat → α) (a : Nat) (v : α) : zset f a v a = v := by simp [zset]
