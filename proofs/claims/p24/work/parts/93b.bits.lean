/-! Bits of sets of registers -/
theorem sin0 : ∀ s, s < 64 → ∀ m, m < 256 → ((nI s &&& (nI m ^^^ (-1 : Int32))) = 0 ↔ s &&& m = s) := by decide +kernel
theorem sin1 : ∀ s, s < 64 → ∀ m, m < 256 → ((nI (s + 64) &&& (nI m ^^^ (-1 : Int32))) = 0 ↔ (s + 64) &&& m = s + 64) := by decide +kernel
theorem sin2 : ∀ s, s < 64 → ∀ m, m < 256 → ((nI (s + 128) &&& (nI m ^^^ (-1 : Int32))) = 0 ↔ (s + 128) &&& m = s + 128) := by decide +kernel
theorem sin3 : ∀ s, s < 64 → ∀ m, m < 256 → ((nI (s + 192) &&& (nI m ^^^ (-1 : Int32))) = 0 ↔ (s + 192) &&& m = s + 192) := by decide +kernel
theorem sin_all {s m : Nat} (hs : s < 256) (hm : m < 256) : (nI s &&& (nI m ^^^ (-1 : Int32))) = 0 ↔ s &&& m = s := by
  rcases Nat.lt_or_ge s 64 with h | h
  · exact sin0 s h m hm
  rcases Nat.lt_or_ge s 128 with h1 | h1
  · obtain ⟨x, rfl⟩ : ∃ x, s = x + 64 := ⟨s - 64, by omega⟩
    exact sin1 x (by omega) m hm
  rcases Nat.lt_or_ge s 192 with h2 | h2
  · obtain ⟨x, rfl⟩ : ∃ x, s = x + 128 := ⟨s - 128, by omega⟩
    exact sin2 x (by omega) m hm
  · obtain ⟨x, rfl⟩ : ∃ x, s = x + 192 := ⟨s - 192, by omega⟩
    exact sin3 x (by omega) m hm
