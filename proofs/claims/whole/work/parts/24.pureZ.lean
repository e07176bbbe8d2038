theorem allF_z (j : Nat) : z0 j = allF z0 0 0 0 0 j := by
  unfold allF z0
  by_cases q0 : j = 0
  · rw [if_pos q0]
  · rw [if_neg q0]
    by_cases q1 : j = 1
    · rw [if_pos q1]
    · rw [if_neg q1]
      by_cases q2 : j = 2
      · rw [if_pos q2]
      · rw [if_neg q2]
        by_cases q3 : j = 3
        · rw [if_pos q3]
        · rw [if_neg q3]
