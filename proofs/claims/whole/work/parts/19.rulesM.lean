/-! the reference: its rows in one array, compares of longs -/
section VV3
variable {p : Program} {l : Launch} {e : Env} {R : Room} {s : State} {m : MethodId} {args : Array Value} {below : List Frame} {meth : Method} {c : Code} {D : va_G} {A : Nat → Prop} {H0 : Heap} {nL : Nat} {Q : State → Prop} {ws : va_W} {lv : List (Nat × Value)} {cells slots pc : Nat} {rest st : List Value} {cc : ByteArray} {own : String} {tys : List (ClassId × FieldType)}
theorem V_if_ltC (C : Cx p s m args c cc nL own D tys A H0) {a b : Nat} (ha : a < 2147483648) (hb : b < 2147483648) {off : Int} {tgt : Nat} (d : decode cc pc = .ok (.ifCond .lt off, 3)) (ht : (pc : Int) + off = (tgt : Int)) (kt : a < b → V p l e R s m args below meth c D A H0 nL Q ws lv cells slots tgt rest) (kf : b ≤ a → V p l e R s m args below meth c D A H0 nL Q ws lv cells slots (pc + 3) rest) : V p l e R s m args below meth c D A H0 nL Q ws lv cells slots pc (.int (lg_cmp (lN a) (lN b)) :: rest) := fun H locs ls hP hD hS hl =>
  lv_if_lt C.1.1 C.1.2.1 d ht (fun h => kt (Nat.not_le.mp fun z => absurd ((lg_cmp_ge _ _).mpr ((lN_le hb ha).mpr z)) (Int32.not_le.mpr h)) H locs ls hP hD hS hl) (fun h => kf ((lN_le hb ha).mp ((lg_cmp_ge _ _).mp (Int32.not_lt.mp h))) H locs ls hP hD hS hl)
theorem V_if_gtC (C : Cx p s m args c cc nL own D tys A H0) {a b : Nat} (ha : a < 2147483648) (hb : b < 2147483648) {off : Int} {tgt : Nat} (d : decode cc pc = .ok (.ifCond .gt off, 3)) (ht : (pc : Int) + off = (tgt : Int)) (kt : b < a → V p l e R s m args below meth c D A H0 nL Q ws lv cells slots tgt rest) (kf : a ≤ b → V p l e R s m args below meth c D A H0 nL Q ws lv cells slots (pc + 3) rest) : V p l e R s m args below meth c D A H0 nL Q ws lv cells slots pc (.int (lg_cmp (lN a) (lN b)) :: rest) := fun H locs ls hP hD hS hl =>
  lv_if_gt C.1.1 C.1.2.1 d ht (fun h => kt (Nat.not_le.mp fun z => absurd ((lg_cmp_le _ _).mpr ((lN_le ha hb).mpr z)) (Int32.not_le.mpr h)) H locs ls hP hD hS hl) (fun h => kf ((lN_le ha hb).mp ((lg_cmp_le _ _).mp (Int32.not_lt.mp h))) H locs ls hP hD hS hl)
end VV3
theorem cmp_neg {x : Int32} {b : Nat} (h : x.toInt < 0) (hb : b < 2147483648) : lg_cmp x.toInt64 (lN b) < 0 := Int32.not_le.mp (fun z => by
  have h1 := (lg_cmp_ge _ _).mp z
  rw [Int64.le_iff_toInt_le, lN_toInt hb, Int32.toInt_toInt64] at h1
  omega)
/-- the reference's row of a message: pace, bound, how many, ended, letters -/
def allF (g : Nat → Nat) (n e p b : Nat) : Nat → Nat := fun j => if j = 0 then p else if j = 1 then b else if j = 2 then n else if j = 3 then e else g (j - 4)
theorem allF_4 (g : Nat → Nat) (n e p b i : Nat) : allF g n e p b (4 + i) = g i := by
  unfold allF
  rw [if_neg (by omega), if_neg (by omega), if_neg (by omega), if_neg (by omega), show 4 + i - 4 = i by omega]
theorem allF_up0 (g : Nat → Nat) (n e p b x : Nat) : va_up (allF g n e p b) 0 x = allF g n e x b := by
  funext j
  unfold allF va_up
  by_cases q : j = 0 <;> simp [q]
theorem allF_up1 (g : Nat → Nat) (n e p b x : Nat) : va_up (allF g n e p b) 1 x = allF g n e p x := by
  funext j
  unfold allF va_up
  by_cases q : j = 1 <;> simp [q]
theorem allF_up2 (g : Nat → Nat) (n e p b x : Nat) : va_up (allF g n e p b) 2 x = allF g x e p b := by
  funext j
  unfold allF va_up
  by_cases q : j = 2 <;> simp [q]
theorem allF_up3 (g : Nat → Nat) (n e p b x : Nat) : va_up (allF g n e p b) 3 x = allF g n x p b := by
  funext j
  unfold allF va_up
  by_cases q : j = 3 <;> simp [q]
theorem allF_up4 (g : Nat → Nat) (n e p b i x : Nat) : va_up (allF g n e p b) (4 + i) x = allF (va_up g i x) n e p b := by
  funext j
  by_cases q : j = 4 + i
  · subst q; rw [va_up_self, allF_4, va_up_self]
  · rw [va_up_ne _ _ q]
    unfold allF
    by_cases q0 : j = 0
    · rw [if_pos q0, if_pos q0]
    · rw [if_neg q0, if_neg q0]
      by_cases q1 : j = 1
      · rw [if_pos q1, if_pos q1]
      · rw [if_neg q1, if_neg q1]
        by_cases q2 : j = 2
        · rw [if_pos q2, if_pos q2]
        · rw [if_neg q2, if_neg q2]
          by_cases q3 : j = 3
          · rw [if_pos q3, if_pos q3]
          · rw [if_neg q3, if_neg q3, va_up_ne g x (show j - 4 ≠ i by omega)]
/-- the reference's history, row by row -/
def HB (f : Nat → Nat) : Nat → Nat → Nat := fun k j => f (44 * k + j)
/-- while something can be doubled, fewer than sixteen doublings have been -/
theorem wO_lt {i lo hi : Nat} (h : lo ≤ hi ∧ hi ≤ 65535) (h2 : 2 ^ i ≤ hi - lo + 1) (h3 : wO lo hi ≠ 1) : i < 16 := by
  have hc := wO_cases lo hi
  rcases Nat.lt_or_ge i 16 with q | q
  · exact q
  · have h4 : 2 ^ 16 ≤ 2 ^ i := Nat.pow_le_pow_right (by decide) q
    have h5 : (2 : Nat) ^ 16 = 65536 := by decide
    omega
theorem dbl2 {i lo hi o : Nat} (h : lo ≤ hi) (ho : o ≤ lo) (h2 : 2 ^ i ≤ hi - lo + 1) : 2 ^ (i + 1) ≤ (hi - o) * 2 + 1 - (lo - o) * 2 + 1 := by
  have e : 2 ^ (i + 1) = 2 * 2 ^ i := by rw [Nat.pow_succ, Nat.mul_comm]
  omega
theorem wO_le {lo hi : Nat} (h : wO lo hi ≠ 1) : wO lo hi ≤ lo := by
  have := wO_cases lo hi
  omega
theorem rec_step {f f2 a : Nat → Nat} {k i : Nat} (h : ∀ j, f2 j = if 44 * k ≤ j ∧ j < 44 * k + i then a (j - 44 * k) else f j) : ∀ j, va_up f2 (44 * k + i) (a i) j = if 44 * k ≤ j ∧ j < 44 * k + (i + 1) then a (j - 44 * k) else f j := fun j => by
  by_cases q : j = 44 * k + i
  · subst q; rw [va_up_self, if_pos (by omega), show 44 * k + i - 44 * k = i by omega]
  · rw [va_up_ne _ _ q, h j]
    by_cases r : 44 * k ≤ j ∧ j < 44 * k + i
    · rw [if_pos r, if_pos (by omega)]
    · rw [if_neg r, if_neg (by omega)]
theorem rec_shift {f f2 : Nat → Nat} {i : Nat} (h : ∀ j, f2 j = if j < i then f (j + 44) else f j) : ∀ j, va_up f2 i (f2 (i + 44)) j = if j < i + 1 then f (j + 44) else f j := fun j => by
  by_cases q : j = i
  · subst q; rw [va_up_self, if_pos (by omega), h (j + 44), if_neg (by omega)]
  · rw [va_up_ne _ _ q, h j]
    by_cases r : j < i
    · rw [if_pos r, if_pos (by omega)]
    · rw [if_neg r, if_neg (by omega)]
theorem rec_lt {f f2 a : Nat → Nat} {hL i : Nat} (hz : hL < 4) (hi : i = 44) (h : ∀ j, f2 j = if 44 * hL ≤ j ∧ j < 44 * hL + i then a (j - 44 * hL) else f j) : ∀ k, k < hsz hL → ∀ j, j < 44 → HB f2 k j = hup (HB f) hL a k j := by
  intro k hk j hj
  unfold hsz at hk
  unfold hup
  rw [if_pos hz] at hk ⊢
  show f2 (44 * k + j) = _
  rw [h]
  by_cases q : k = hL
  · subst q; rw [va_up_self, if_pos (by omega), show 44 * k + j - 44 * k = j by omega]
  · rw [va_up_ne _ _ q, if_neg (by omega)]; rfl
theorem rec_eq {f f2 f3 a : Nat → Nat} {i : Nat} (hi : i = 44) (h2 : ∀ j, f2 j = if j < 132 then f (j + 44) else f j) (h3 : ∀ j, f3 j = if 44 * 3 ≤ j ∧ j < 44 * 3 + i then a (j - 44 * 3) else f2 j) : ∀ k, k < hsz 4 → ∀ j, j < 44 → HB f3 k j = hup (HB f) 4 a k j := by
  intro k hk j hj
  have hk4 : k < 4 := hk
  unfold hup
  rw [if_neg (by decide)]
  show f3 (44 * k + j) = _
  rw [h3]
  by_cases q : k = 3
  · subst q; rw [va_up_self, if_pos (by omega), show 44 * 3 + j - 44 * 3 = j by omega]
  · rw [va_up_ne _ _ q, if_neg (by omega), h2, if_pos (by omega)]
    show f (44 * k + j + 44) = f (44 * (k + 1) + j)
    rw [show 44 * k + j + 44 = 44 * (k + 1) + j by omega]
theorem bT_at {T : List Nat} {i : Nat} (hi : i < T.length) (h : T.getD i 0 = 48 ∨ T.getD i 0 = 49) : T.getD i 0 - 48 = bT T i := by
  unfold bT
  rw [if_pos hi]
  rcases h with h | h
  · rw [h, if_neg (by decide)]
  · rw [h, if_pos rfl]
theorem frn_3 {p b : Nat} {T : List Nat} (h : (rdF p b (bT T)).1 = 1) (h2 : fO (bT T) T.length (qK (rdF p b (bT T)).2) < T.length) : frn p b T = 3 := by unfold frn; rw [if_pos h, if_pos h2]
theorem frn_0 {p b : Nat} {T : List Nat} (h : (rdF p b (bT T)).1 = 1) (h2 : ¬ fO (bT T) T.length (qK (rdF p b (bT T)).2) < T.length) : frn p b T = 0 := by unfold frn; rw [if_pos h, if_neg h2]
theorem up8s {g : Nat → Nat} {n x : Nat} (hg : ∀ j, j < n → g j < 8) (hx : x < 8) : ∀ j, j < n + 1 → va_up g n x j < 8 := fun j hj => by
  by_cases q : j = n
  · subst q; rw [va_up_self]; exact hx
  · rw [va_up_ne g x q]; exact hg j (by omega)
