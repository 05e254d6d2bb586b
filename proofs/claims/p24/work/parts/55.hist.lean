/-! THE CLASS's history -/
/-- what never changes in the class: kinds of the fixed cells, references of the fixed objects -/
def zCf (K : zK) (R : zR) : Prop := (∀ a, a < 89 → K a = zKt a) ∧ ∀ a k, zFin a k → R a k = zRt a k
theorem zHs_lt {a : Nat} (h : zHs a) : a + 2 < 89 := by unfold zHs zHa at h; omega
theorem zSt_cell {K : zK} {R : zR} (h : zCf K R) {a : Nat} (ha : zHs a) : K a = (14, 0) ∧ K (a + 1) = (4, 8) ∧ K (a + 2) = (1, 4) ∧ R a 0 = some (a + 1) ∧ R a 1 = some (a + 2) := by
  have h1 := h.1 a (by have := zHs_lt ha; omega)
  have h2 := h.1 (a + 1) (by have := zHs_lt ha; omega)
  have h3 := h.1 (a + 2) (by have := zHs_lt ha; omega)
  have h4 := h.2 a 0 (by unfold zHs zHa at ha; unfold zFin; omega)
  have h5 := h.2 a 1 (by unfold zHs zHa at ha; unfold zFin; omega)
  rw [h1, h2, h3, h4, h5]
  unfold zHs zHa at ha
  rcases ha with rfl | rfl | rfl | rfl | rfl | rfl | rfl <;> exact ⟨rfl, rfl, rfl, rfl, rfl⟩
/-- row a, from x on to m, as g has it -/
def zrw {α : Type} (f : Nat → Nat → α) (a x m : Nat) (g : Nat → α) : Nat → Nat → α := fun b j => if b = a ∧ x ≤ j ∧ j < m then g j else f b j
theorem zrw_ne {α : Type} (f : Nat → Nat → α) {a b : Nat} (x m : Nat) (g : Nat → α) (h : b ≠ a) : zrw f a x m g b = f b := by funext j; simp [zrw, h]
theorem zrw_in {α : Type} (f : Nat → Nat → α) (a : Nat) {x m j : Nat} (g : Nat → α) (h1 : x ≤ j) (h2 : j < m) : zrw f a x m g a j = g j := by simp [zrw, h1, h2]
theorem zrw_end {α : Type} (f : Nat → Nat → α) (a : Nat) {x m : Nat} (g : Nat → α) (h : m ≤ x) : zrw f a x m g = f := by
  funext b j
  simp only [zrw]
  rw [if_neg (by omega)]
theorem zrw_step {α : Type} (f : Nat → Nat → α) (a : Nat) {x m : Nat} (g : Nat → α) (h : x < m) : zrw (zup f a x (g x)) a (x + 1) m g = zrw f a x m g := by
  funext b j
  simp only [zrw, zup]
  by_cases hb : b = a
  · by_cases hj : j = x
    · subst hj
      rw [if_neg (by omega), if_pos ⟨hb, rfl⟩, if_pos (by omega)]
    · by_cases h2 : x ≤ j ∧ j < m
      · rw [if_pos ⟨hb, by omega⟩, if_pos ⟨hb, h2⟩]
      · rw [if_neg (by omega), if_neg (by omega), if_neg (by omega)]
  · rw [if_neg (by omega), if_neg (by omega), if_neg (by omega)]
theorem X4_term {F : Nat} {K : zK} {I : zI} {R : zR} (h : zCf K R) {a r : Nat} (ha : zHs a) (hr : r < 8) : f_X4_term F K I R a (nI r) = some (R (a + 1) r) := by
  obtain ⟨k0, k1, k2, r0, r1⟩ := zSt_cell h ha
  unfold f_X4_term
  rw [if_neg (nI_pos (by omega)), r0, zbd_s, zdr_s (t := 4) (by rw [k1]), zbd_s, if_neg (by simp only [zln, k1]; exact nI_ge hr (by omega)), zbd_s, zdr_s (t := 4) (by rw [k1]), zbd_s, zrdR_s (by rw [k1]; exact hr) (by rw [k1]; decide), zbd_s]
theorem X4_setting {F : Nat} {K : zK} {I : zI} {R : zR} (h : zCf K R) {a r : Nat} (ha : zHs a) (hr : r < 4) : f_X4_setting F K I R a (nI r) = some (I (a + 2) r) := by
  obtain ⟨k0, k1, k2, r0, r1⟩ := zSt_cell h ha
  unfold f_X4_setting
  rw [if_neg (nI_pos (by omega)), r1, zbd_s, zdr_s (t := 1) (by rw [k2]), zbd_s, if_neg (by simp only [zln, k2]; exact nI_ge hr (by omega)), zbd_s, zdr_s (t := 1) (by rw [k2]), zbd_s, zrd_s (by rw [k2]; exact hr) (by rw [k2]; decide), zbd_s]
theorem X4_hold {F : Nat} {K : zK} {I : zI} {R : zR} (h : zCf K R) {a r : Nat} {x : Option Nat} (ha : zHs a) (hr : r < 8) (hx : ∀ b, x = some b → (K b).1 = 15) : f_X4_hold F K I R a (nI r) x = some (zup R (a + 1) r x) := by
  obtain ⟨k0, k1, k2, r0, r1⟩ := zSt_cell h ha
  unfold f_X4_hold
  rw [if_neg (nI_pos (by omega)), r0, zbd_s, zdr_s (t := 4) (by rw [k1]), zbd_s, if_neg (by simp only [zln, k1]; exact nI_ge hr (by omega)), zbd_s, zdr_s (t := 4) (by rw [k1]), zbd_s, zwrR_s (by rw [k1]; exact hr) (by rw [k1]; decide) hx, zbd_s]
theorem X4_choose {F : Nat} {K : zK} {I : zI} {R : zR} (h : zCf K R) {a r : Nat} {v : Int32} (ha : zHs a) (hr : r < 4) : f_X4_choose F K I R a (nI r) v = some (zup I (a + 2) r v) := by
  obtain ⟨k0, k1, k2, r0, r1⟩ := zSt_cell h ha
  unfold f_X4_choose
  rw [if_neg (nI_pos (by omega)), r1, zbd_s, zdr_s (t := 1) (by rw [k2]), zbd_s, if_neg (by simp only [zln, k2]; exact nI_ge hr (by omega)), zbd_s, zdr_s (t := 1) (by rw [k2]), zbd_s, zwr_s (by rw [k2]; exact hr) (by rw [k2]; decide), zbd_s]
theorem zCf_row {K : zK} {R R' : zR} (h : zCf K R) (hr : ∀ a k, zFin a k → R' a k = R a k) : zCf K R' := ⟨h.1, fun a k hf => by rw [hr a k hf]; exact h.2 a k hf⟩
theorem zFin_reg {a b k : Nat} (ha : zHs a) (hf : zFin b k) : b ≠ a + 1 := by
  unfold zHs zHa at ha; unfold zFin at hf; omega
theorem copy30 {F : Nat} {K : zK} {R : zR} (h : zCf K R) {a b : Nat} (ha : zHs a) (hb : zHs b) : ∀ (d x t : Nat) (I : zI), x + d = 4 → d < t →
    f_X4_copyFrom_30 F K a t I R (some b) (nI x) = some (zrw I (a + 2) x 4 (I (b + 2)), R) := by
  obtain ⟨k0, k1, k2, r0, r1⟩ := zSt_cell h ha
  obtain ⟨j0, j1, j2, s0, s1⟩ := zSt_cell h hb
  intro d
  induction d with
  | zero =>
    intro x t I hx ht
    obtain ⟨t, rfl⟩ : ∃ u, t = u + 1 := ⟨t - 1, by omega⟩
    show g_X4_copyFrom_30 F K a _ I R (some b) (nI x) = _
    unfold g_X4_copyFrom_30
    rw [r1, zbd_s, zdr_s (t := 1) (by rw [k2]), zbd_s, if_pos (by simp only [zln, k2]; exact nI_le (a := 4) (by omega) (by omega)), zrw_end _ _ _ (by omega)]
  | succ d ih =>
    intro x t I hx ht
    obtain ⟨t, rfl⟩ : ∃ u, t = u + 1 := ⟨t - 1, by omega⟩
    show g_X4_copyFrom_30 F K a _ I R (some b) (nI x) = _
    unfold g_X4_copyFrom_30
    rw [r1, zbd_s, zdr_s (t := 1) (by rw [k2]), zbd_s, if_neg (by simp only [zln, k2]; exact nI_ge (b := 4) (by omega) (by omega)), zbd_s, zdr_s (t := 14) (by rw [j0]), zbd_s, X4_setting h hb (by omega), zbd_s, zdr_s (t := 1) (by rw [k2]), zbd_s, zwr_s (by rw [k2]; show x < 4; omega) (by rw [k2]; decide), zbd_s, show (1 : Int32) = nI 1 from rfl, nI_add, ih (x + 1) t _ (by omega) (by omega)]
    refine congrArg some (Prod.ext ?_ rfl)
    show zrw (zup I (a + 2) x (I (b + 2) x)) (a + 2) (x + 1) 4 (zup I (a + 2) x (I (b + 2) x) (b + 2)) = _
    by_cases hab : b = a
    · subst hab
      rw [show zup I (b + 2) x (I (b + 2) x) = I from by funext c j; simp only [zup]; split <;> simp_all]
      funext c j
      simp only [zrw]
      by_cases h1 : c = b + 2
      · subst h1; split <;> split <;> rfl
      · rw [if_neg (by omega), if_neg (by omega)]
    · rw [zup_ne _ _ _ (show b + 2 ≠ a + 2 by omega)]
      exact zrw_step I (a + 2) (I (b + 2)) (by omega)
theorem copy2 {F : Nat} (hF : 100 ≤ F) {K : zK} {a b : Nat} (ha : zHs a) (hb : zHs b) : ∀ (d x t : Nat) (I : zI) (R : zR), zCf K R → (∀ r, r < 8 → ∀ u, R (b + 1) r = some u → (K u).1 = 15) → x + d = 8 → d < t →
    f_X4_copyFrom_2 F K a t I R (some b) (nI x) = some (zrw I (a + 2) 0 4 (I (b + 2)), zrw R (a + 1) x 8 (R (b + 1))) := by
  intro d
  induction d with
  | zero =>
    intro x t I R h hk hx ht
    obtain ⟨k0, k1, k2, r0, r1⟩ := zSt_cell h ha
    obtain ⟨t, rfl⟩ : ∃ u, t = u + 1 := ⟨t - 1, by omega⟩
    show g_X4_copyFrom_2 F K a _ I R (some b) (nI x) = _
    unfold g_X4_copyFrom_2
    rw [r0, zbd_s, zdr_s (t := 4) (by rw [k1]), zbd_s, if_pos (by simp only [zln, k1]; exact nI_le (a := 8) (by omega) (by omega)), zrw_end R _ _ (by omega), show (0 : Int32) = nI 0 from rfl, copy30 h ha hb 4 0 F I (by omega) (by omega)]
  | succ d ih =>
    intro x t I R h hk hx ht
    obtain ⟨k0, k1, k2, r0, r1⟩ := zSt_cell h ha
    obtain ⟨j0, j1, j2, s0, s1⟩ := zSt_cell h hb
    obtain ⟨t, rfl⟩ : ∃ u, t = u + 1 := ⟨t - 1, by omega⟩
    show g_X4_copyFrom_2 F K a _ I R (some b) (nI x) = _
    unfold g_X4_copyFrom_2
    rw [r0, zbd_s, zdr_s (t := 4) (by rw [k1]), zbd_s, if_neg (by simp only [zln, k1]; exact nI_ge (b := 8) (by omega) (by omega)), zbd_s, zdr_s (t := 14) (by rw [j0]), zbd_s, X4_term h hb (by omega), zbd_s, zdr_s (t := 4) (by rw [k1]), zbd_s, zwrR_s (by rw [k1]; show x < 8; omega) (by rw [k1]; decide) (hk x (by omega)), zbd_s, show (1 : Int32) = nI 1 from rfl, nI_add]
    have hsame : ∀ r, r < 8 → zup R (a + 1) x (R (b + 1) x) (b + 1) r = R (b + 1) r := by
      intro r hr
      by_cases hab : b = a
      · subst hab
        rw [zup_row]; split <;> simp_all
      · rw [zup_ne _ _ _ (by omega)]
    rw [ih (x + 1) t I _ (zCf_row h (fun c k hf => by rw [zup_ne _ _ _ (zFin_reg ha hf)])) (fun r hr u hu => hk r hr u (by rw [hsame r hr] at hu; exact hu)) (by omega) (by omega)]
    refine congrArg some (Prod.ext rfl ?_)
    show zrw (zup R (a + 1) x (R (b + 1) x)) (a + 1) (x + 1) 8 (zup R (a + 1) x (R (b + 1) x) (b + 1)) = _
    by_cases hab : b = a
    · subst hab
      rw [show zup R (b + 1) x (R (b + 1) x) = R from by funext c j; simp only [zup]; split <;> simp_all]
      funext c j
      simp only [zrw]
      by_cases h1 : c = b + 1
      · subst h1; split <;> split <;> rfl
      · rw [if_neg (by omega), if_neg (by omega)]
    · rw [zup_ne _ _ _ (show b + 1 ≠ a + 1 by omega)]
      exact zrw_step R (a + 1) (R (b + 1)) (by omega)
theorem X4_copy {F : Nat} (hF : 100 ≤ F) {K : zK} {I : zI} {R : zR} (h : zCf K R) {a b : Nat} (ha : zHs a) (hb : zHs b) (hk : ∀ r, r < 8 → ∀ u, R (b + 1) r = some u → (K u).1 = 15) : f_X4_copyFrom F K I R a (some b) = some (zrw I (a + 2) 0 4 (I (b + 2)), zrw R (a + 1) 0 8 (R (b + 1))) := by
  unfold f_X4_copyFrom
  rw [show (0 : Int32) = nI 0 from rfl, copy2 hF ha hb 8 0 F I R h hk (by omega) (by omega)]
