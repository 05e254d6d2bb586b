/-! put(): a symbol's bit in a setting -/
/-- the bit of a symbol in a mask -/
abbrev aBt (w : Int32) (v : Nat) : Prop := ((w >>> (nI v &&& 31)) &&& (1 : Int32)) = (1 : Int32)
section ZPJ
variable {F : Nat} {J : zI} {RM : zR}
theorem X7_isSet (hRM : zRM RM) {k v : Nat} (hk : k < 4) : (aBt (J 90 (776 + k)) v → f_X7_isSet F zKm J RM 89 (nI k) (nI v) = some 1) ∧ (¬ aBt (J 90 (776 + k)) v → f_X7_isSet F zKm J RM 89 (nI k) (nI v) = some 0) := by
  have r0 : RM 89 0 = some 90 := hRM 89 0 (by decide) (by decide) (by decide)
  have e : f_X7_isSet F zKm J RM 89 (nI k) (nI v) = if aBt (J 90 (776 + k)) v then some 1 else some 0 := by
    unfold f_X7_isSet
    rw [r0, zbd_s, zd91, zbd_s, show (776 : Int32) = nI 776 from rfl, nI_add, zrd_s (by rw [zKm91]; show _ < 5751; omega) (by decide), zbd_s]
  exact ⟨fun h => by rw [e, if_pos h], fun h => by rw [e, if_neg h]⟩
end ZPJ
