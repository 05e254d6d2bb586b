/-! BIRTH for zSim -/
theorem zKt_122 (j : Nat) : zKt (j + 121) = (0, 0) := rfl
theorem birth_sim (f T : Nat) : zBirth (f + 10) 89 T zSim := by
  obtain ⟨K, I, R, e6, hK, hK0, hR, hI⟩ := birth6 f
  obtain ⟨KM, J, RM, e7, hKM, hKM0, hRM, hJ, hJ0⟩ := birth7 (f + 10)
  have hkm : KM = zKm := by
    funext a
    unfold zKm
    by_cases h1 : a < 89
    · rw [if_pos h1, hKM0 a (Or.inl h1)]
    · rw [if_neg h1]
      by_cases h2 : a < 121
      · exact hKM a h2 (by omega)
      · obtain ⟨j, rfl⟩ : ∃ j, a = j + 121 := ⟨a - 121, by omega⟩
        rw [hKM0 _ (Or.inr (by omega)), zKt_122]
  have r3 : ∀ r, r < 8 → zRt 3 r = none := by decide +kernel
  have r5 : ∀ j, j < 6 → ∃ a, a < 89 ∧ zRt 5 j = some a ∧ (a = 71 ∨ a = 74 ∨ a = 77 ∨ a = 80 ∨ a = 83 ∨ a = 86) := by decide +kernel
  have r55 : ∀ i, i < 6 → ∀ j, j < 6 → zRt 5 i = zRt 5 j → i = j := by decide +kernel
  refine ⟨K, I, R, 121, KM, J, RM, e6, fun b hb => ?_, e7, ⟨Nat.le_refl _, hK, fun a h1 _ => hK0 a h1, fun a h1 => hK0 a (by omega), fun a k hf => ?_, hkm, fun a k h1 h2 h3 => hRM a h2 h1 k h3⟩, ⟨0, by decide, ?_, ?_, fun i hi => by omega⟩, ?_, ⟨fun r hr => ?_, fun k hk => ?_, fun k hk => ?_, fun k hk => ?_⟩, 0, by decide, ?_, ?_, fun j hj => ?_, fun i j hi hj hij => ?_⟩
  · rcases Nat.lt_or_ge b 89 with h | h
    · exact h
    · exact absurd (by rw [hK0 b h]) hb
  · have h1 := hf
    unfold zFin at h1
    exact hR a h1.1 k (by omega)
  · rw [hI 0 (by decide) 1 (by decide)]; rfl
  · rw [hJ0 89 3 (by decide)]; rfl
  · rw [hI 0 (by decide) 2 (by decide), hJ]; rfl
  · show zRg K I R 121 (R 3 r) (J 90) (0 + 97 * r)
    rw [hR 3 (by decide) r (by omega), r3 r hr]
    exact hJ0 90 _ (by omega)
  · have h1 : ∀ k, k < 4 → zIt 4 k = 0 := by decide +kernel
    rw [hI (2 + 2) (by decide) k (by omega), h1 k hk]
    exact (hJ0 90 _ (by omega)).symm
  · exact Or.inl (hJ0 90 _ (by omega))
  · rw [hJ0 90 _ (by omega)]
    exact ⟨by decide, by decide⟩
  · rw [hI 0 (by decide) 5 (by decide)]; rfl
  · rw [hJ0 89 1 (by decide)]; rfl
  · obtain ⟨a, h1, h2, h3⟩ := r5 j hj
    exact ⟨a, by rw [hR 5 (by decide) j (by omega)]; exact h2, h3, fun h => by omega⟩
  · rw [hR 5 (by decide) i (by omega), hR 5 (by decide) j (by omega)] at hij
    exact r55 i hi j hj hij
theorem zSim_less (k : Nat) (K : zK) (I : zI) (R : zR) (n : Nat) (KM : zK) (J : zI) (RM : zR) (h : zSim (k + 1) K I R n KM J RM) : zSim k K I R n KM J RM := zSim_scr h (fun _ _ => rfl)
theorem zSim_apart (k : Nat) (K : zK) (I : zI) (R : zR) (n : Nat) (KM : zK) (J : zI) (RM : zR) (h : zSim k K I R n KM J RM) : (K 0).1 = 16 ∧ (KM 89).1 = 17 ∧ (∀ b, (K b).1 = 0 ∨ (KM b).1 = 0) ∧ (∀ b, (K b).1 ≠ 0 → b < n) ∧ ∀ b, (KM b).1 ≠ 0 → b < n := by
  obtain ⟨⟨hn, hK, hK2, hK3, hR, hKM, hRM⟩, -⟩ := h
  have hz : ∀ b, 121 ≤ b → (zKm b).1 = 0 := fun b hb => by
    obtain ⟨j, rfl⟩ : ∃ j, b = j + 121 := ⟨b - 121, by omega⟩
    unfold zKm
    rw [if_neg (by omega), zKt_122]
  refine ⟨by rw [hK 0 (by decide)]; rfl, by rw [hKM]; rfl, fun b => ?_, fun b hb => ?_, fun b hb => ?_⟩
  · by_cases h1 : b < 89
    · refine Or.inr ?_
      rw [hKM]
      unfold zKm
      rw [if_pos h1]
    · by_cases h2 : b < 121
      · exact Or.inl (by rw [hK2 b (by omega) h2])
      · exact Or.inr (by rw [hKM]; exact hz b (by omega))
  · rcases Nat.lt_or_ge b n with h1 | h1
    · exact h1
    · exact absurd (by rw [hK3 b h1]) hb
  · rcases Nat.lt_or_ge b n with h1 | h1
    · exact h1
    · exact absurd (by rw [hKM]; exact hz b (by omega)) hb
