/-! a row of bits as a text, with one of them turned -/
def tf (B : List Nat) (a : Nat) : Nat → List Nat
  | 0 => []
  | k + 1 => tf B a k ++ [48 + if k = a then 1 - B.getD k 0 else B.getD k 0]
theorem tf_len (B : List Nat) (a : Nat) : ∀ k : Nat, (tf B a k).length = k
  | 0 => rfl
  | k + 1 => by rw [tf, List.length_append, List.length_singleton, tf_len B a k]
theorem t01_tf {B : List Nat} (h : bits01 B) (a : Nat) : ∀ k : Nat, t01 (tf B a k)
  | 0 => t01_nil
  | k + 1 => by
    have hb := h.getD k
    refine t01_push (t01_tf h a k) ?_
    by_cases q : k = a
    · rw [if_pos q]; omega
    · rw [if_neg q]; omega
theorem frn_cs (p b : Nat) (T : List Nat) : frn p b T = 0 ∨ frn p b T = 2 ∨ frn p b T = 3 := by
  have h1 := frn_le p b T
  have h2 := frn_ne1 p b T
  omega
