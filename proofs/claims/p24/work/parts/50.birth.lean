/-! THE FIXED OBJECTS: kinds and references as the constructors lay them (class, then reference) -/
def zKt : Nat → Nat × Nat := fun a => match a with
  | 0 => (16, 0)
  | 1 => (1, 80)
  | 2 => (14, 0)
  | 3 => (4, 8)
  | 4 => (1, 4)
  | 5 => (3, 6)
  | 6 => (12, 0)
  | 7 => (1, 0)
  | 8 => (15, 0)
  | 9 => (1, 32)
  | 10 => (1, 32)
  | 11 => (1, 32)
  | 12 => (1, 8)
  | 13 => (2, 8)
  | 14 => (1, 10)
  | 15 => (13, 0)
  | 16 => (2, 32)
  | 17 => (1, 32)
  | 18 => (1, 32)
  | 19 => (1, 8)
  | 20 => (1, 32)
  | 21 => (10, 0)
  | 22 => (15, 0)
  | 23 => (1, 32)
  | 24 => (1, 32)
  | 25 => (1, 32)
  | 26 => (15, 0)
  | 27 => (1, 32)
  | 28 => (1, 32)
  | 29 => (1, 32)
  | 30 => (15, 0)
  | 31 => (1, 32)
  | 32 => (1, 32)
  | 33 => (1, 32)
  | 34 => (1, 10)
  | 35 => (4, 10)
  | 36 => (1, 10)
  | 37 => (1, 10)
  | 38 => (4, 10)
  | 39 => (1, 10)
  | 40 => (1, 10)
  | 41 => (11, 0)
  | 42 => (15, 0)
  | 43 => (1, 32)
  | 44 => (1, 32)
  | 45 => (1, 32)
  | 46 => (15, 0)
  | 47 => (1, 32)
  | 48 => (1, 32)
  | 49 => (1, 32)
  | 50 => (1, 32)
  | 51 => (1, 32)
  | 52 => (1, 10)
  | 53 => (1, 10)
  | 54 => (1, 10)
  | 55 => (1, 10)
  | 56 => (11, 0)
  | 57 => (15, 0)
  | 58 => (1, 32)
  | 59 => (1, 32)
  | 60 => (1, 32)
  | 61 => (15, 0)
  | 62 => (1, 32)
  | 63 => (1, 32)
  | 64 => (1, 32)
  | 65 => (1, 32)
  | 66 => (1, 32)
  | 67 => (1, 10)
  | 68 => (1, 10)
  | 69 => (1, 10)
  | 70 => (1, 10)
  | 71 => (14, 0)
  | 72 => (4, 8)
  | 73 => (1, 4)
  | 74 => (14, 0)
  | 75 => (4, 8)
  | 76 => (1, 4)
  | 77 => (14, 0)
  | 78 => (4, 8)
  | 79 => (1, 4)
  | 80 => (14, 0)
  | 81 => (4, 8)
  | 82 => (1, 4)
  | 83 => (14, 0)
  | 84 => (4, 8)
  | 85 => (1, 4)
  | 86 => (14, 0)
  | 87 => (4, 8)
  | 88 => (1, 4)
  | 89 => (17, 0)
  | 90 => (1, 5751)
  | 91 => (1, 80)
  | 92 => (1, 32)
  | 93 => (1, 32)
  | 94 => (1, 32)
  | 95 => (1, 32)
  | 96 => (1, 10)
  | 97 => (1, 9)
  | 98 => (2, 9)
  | 99 => (1, 8)
  | 100 => (1, 10)
  | 101 => (1, 10)
  | 102 => (1, 10)
  | 103 => (1, 10)
  | 104 => (1, 10)
  | 105 => (1, 10)
  | 106 => (1, 10)
  | 107 => (2, 160)
  | 108 => (1, 160)
  | 109 => (1, 160)
  | 110 => (1, 160)
  | 111 => (1, 160)
  | 112 => (1, 10)
  | 113 => (1, 10)
  | 114 => (1, 10)
  | 115 => (2, 100)
  | 116 => (1, 10)
  | 117 => (1, 10)
  | 118 => (2, 10)
  | 119 => (2, 10)
  | 120 => (2, 10)
  | _ => (0, 0)
/-- the references that never change, and how they begin where they do -/
def zRt : Nat → Nat → Option Nat := fun a k => match a, k with
  | 0, 0 => some 1
  | 0, 3 => some 2
  | 0, 4 => some 5
  | 0, 6 => some 6
  | 0, 7 => some 15
  | 0, 8 => some 21
  | 0, 9 => some 41
  | 0, 10 => some 56
  | 2, 0 => some 3
  | 2, 1 => some 4
  | 6, 0 => some 7
  | 6, 4 => some 8
  | 6, 6 => some 12
  | 6, 7 => some 13
  | 6, 8 => some 14
  | 8, 0 => some 9
  | 8, 1 => some 10
  | 8, 2 => some 11
  | 15, 0 => some 16
  | 15, 1 => some 17
  | 15, 2 => some 18
  | 15, 3 => some 19
  | 15, 4 => some 20
  | 21, 2 => some 22
  | 21, 3 => some 26
  | 21, 4 => some 30
  | 21, 6 => some 34
  | 21, 7 => some 35
  | 21, 8 => some 36
  | 21, 9 => some 37
  | 21, 10 => some 38
  | 21, 11 => some 39
  | 21, 12 => some 40
  | 22, 0 => some 23
  | 22, 1 => some 24
  | 22, 2 => some 25
  | 26, 0 => some 27
  | 26, 1 => some 28
  | 26, 2 => some 29
  | 30, 0 => some 31
  | 30, 1 => some 32
  | 30, 2 => some 33
  | 41, 0 => some 42
  | 41, 1 => some 46
  | 41, 2 => some 50
  | 41, 3 => some 51
  | 41, 4 => some 52
  | 41, 5 => some 53
  | 41, 6 => some 54
  | 41, 7 => some 55
  | 42, 0 => some 43
  | 42, 1 => some 44
  | 42, 2 => some 45
  | 46, 0 => some 47
  | 46, 1 => some 48
  | 46, 2 => some 49
  | 56, 0 => some 57
  | 56, 1 => some 61
  | 56, 2 => some 65
  | 56, 3 => some 66
  | 56, 4 => some 67
  | 56, 5 => some 68
  | 56, 6 => some 69
  | 56, 7 => some 70
  | 57, 0 => some 58
  | 57, 1 => some 59
  | 57, 2 => some 60
  | 61, 0 => some 62
  | 61, 1 => some 63
  | 61, 2 => some 64
  | 71, 0 => some 72
  | 71, 1 => some 73
  | 74, 0 => some 75
  | 74, 1 => some 76
  | 77, 0 => some 78
  | 77, 1 => some 79
  | 80, 0 => some 81
  | 80, 1 => some 82
  | 83, 0 => some 84
  | 83, 1 => some 85
  | 86, 0 => some 87
  | 86, 1 => some 88
  | 89, 0 => some 90
  | 89, 2 => some 91
  | 89, 5 => some 92
  | 89, 6 => some 93
  | 89, 7 => some 94
  | 89, 8 => some 95
  | 89, 9 => some 96
  | 89, 10 => some 97
  | 89, 11 => some 98
  | 89, 15 => some 99
  | 89, 17 => some 100
  | 89, 18 => some 101
  | 89, 19 => some 102
  | 89, 20 => some 103
  | 89, 21 => some 104
  | 89, 22 => some 105
  | 89, 23 => some 106
  | 89, 24 => some 107
  | 89, 25 => some 108
  | 89, 26 => some 109
  | 89, 27 => some 110
  | 89, 28 => some 111
  | 89, 30 => some 112
  | 89, 31 => some 113
  | 89, 32 => some 114
  | 89, 33 => some 115
  | 89, 34 => some 116
  | 89, 35 => some 117
  | 89, 36 => some 118
  | 89, 37 => some 119
  | 89, 38 => some 120
  | 5, 0 => some 71
  | 5, 1 => some 74
  | 5, 2 => some 77
  | 5, 3 => some 80
  | 5, 4 => some 83
  | 5, 5 => some 86
  | _, _ => none
/-- the ints at the start -/
def zIt : Nat → Nat → Int32 := fun a k => match a, k with
  | 0, 2 => -9
  | 6, 3 => -9
  | 89, 4 => -9
  | _, _ => 0
set_option maxRecDepth 100000 in
set_option maxHeartbeats 4000000 in
theorem birth6 (f : Nat) : ∃ (K : zK) (I : zI) (R : zR), zbd4 (some (0 + 1, zset (fun _ => (0, 0)) 0 (6 + 10, 0), zclr (fun _ _ => 0) 0 0, zclr (fun _ _ => none) 0 none)) (fun n1 K1 I1 R1 => f_X6_init (f + 10) n1 K1 I1 R1 0) = some (89, K, I, R) ∧ (∀ a, a < 89 → K a = zKt a) ∧ (∀ a, 89 ≤ a → K a = (0, 0)) ∧ (∀ a, a < 89 → ∀ k, k < 13 → R a k = zRt a k) ∧ (∀ a, a < 89 → ∀ k, k < 90 → I a k = zIt a k) := by
  refine ⟨_, _, _, rfl, ?_, ?_, ?_, ?_⟩
  · decide +kernel
  · intro a h
    simp only [zset]
    repeat (rw [if_neg (by omega)])
  · decide +kernel
  · decide +kernel

set_option maxRecDepth 100000 in
set_option maxHeartbeats 4000000 in
theorem birth7 (F : Nat) : ∃ (K : zK) (I : zI) (R : zR), f_X7_init F (89 + 1) (zset (fun _ => (0, 0)) 89 (7 + 10, 0)) (zclr (fun _ _ => 0) 89 0) (zclr (fun _ _ => none) 89 none) 89 = some (121, K, I, R) ∧ (∀ a, a < 121 → 89 ≤ a → K a = zKt a) ∧ (∀ a, a < 89 ∨ 121 ≤ a → K a = (0, 0)) ∧ (∀ a, a < 121 → 89 ≤ a → ∀ k, k < 39 → R a k = zRt a k) ∧ I 89 4 = -9 ∧ (∀ a k, ¬ (a = 89 ∧ k = 4) → I a k = 0) := by
  refine ⟨_, _, _, rfl, ?_, ?_, ?_, by decide +kernel, ?_⟩
  · decide +kernel
  · intro a h
    simp only [zset]
    repeat (rw [if_neg (by omega)])
  · decide +kernel
  · intro a k hne
    simp only [zup, zclr]
    rw [if_neg hne]
    simp only [ite_self]
