/-! the mathematical values behind both sides -/
abbrev TY (cI cQ : ClassId) : List (ClassId × FieldType) := [(cI, .int), (cQ, .object "LearningSpans$Message")]
def z0 : Nat → Nat := fun _ => 0
def one : Nat → Nat := fun _ => 1
theorem nar_bool {e : Nat} (h : e < 2) : narrow .boolean (.int (nI e)) = .int (nI e) := by
  have : e = 0 ∨ e = 1 := by omega
  rcases this with rfl | rfl <;> rfl
theorem fit_bool {e : Nat} (h : e < 2) : fits .boolean (.int (nI e)) = true := by
  have : e = 0 ∨ e = 1 := by omega
  rcases this with rfl | rfl <;> rfl
/-- what lies below a place -/
def cB (f : Nat → Nat) : Nat → Nat
  | 0 => 0
  | n + 1 => cB f n + f n
theorem cB_cong {f g : Nat → Nat} : ∀ {n : Nat}, (∀ j, j < n → f j = g j) → cB f n = cB g n
  | 0, _ => rfl
  | n + 1, h => by rw [cB, cB, cB_cong (fun j hj => h j (Nat.lt_succ_of_lt hj)), h n (Nat.lt_succ_self n)]
theorem cB_mono {f : Nat → Nat} {m n : Nat} (h : m ≤ n) : cB f m ≤ cB f n := by
  induction n with
  | zero => rw [show m = 0 by omega]; exact Nat.le_refl _
  | succ n ih =>
    rcases Nat.lt_or_ge n m with q | q
    · rw [show m = n + 1 by omega]; exact Nat.le_refl _
    · exact Nat.le_trans (ih q) (by rw [cB]; omega)
theorem cB_le {f : Nat → Nat} {k n : Nat} (h : k < n) : cB f k + f k ≤ cB f n := cB_mono (f := f) (m := k + 1) h
theorem cB_up_out {f : Nat → Nat} {k x : Nat} : ∀ {n : Nat}, n ≤ k → cB (va_up f k x) n = cB f n
  | 0, _ => rfl
  | n + 1, h => by rw [cB, cB, cB_up_out (show n ≤ k by omega), va_up_ne f x (show n ≠ k by omega)]
theorem cB_up {f : Nat → Nat} {k x : Nat} : ∀ {n : Nat}, k < n → cB (va_up f k x) n + f k = cB f n + x
  | 0, h => absurd h (by omega)
  | n + 1, h => by
    rw [cB, cB]
    rcases Nat.lt_or_ge k n with q | q
    · have := cB_up (f := f) (x := x) q
      rw [va_up_ne f x (show n ≠ k by omega)]
      omega
    · have e : k = n := by omega
      subst e
      rw [cB_up_out (Nat.le_refl _), va_up_self]
      omega
theorem cB_pos {f : Nat → Nat} : ∀ {n : Nat}, (∀ j, j < n → 1 ≤ f j) → n ≤ cB f n
  | 0, _ => Nat.le_refl _
  | n + 1, h => by
    have h1 := cB_pos (f := f) (n := n) (fun j hj => h j (by omega))
    have h2 := h n (by omega)
    rw [cB]; omega
theorem cB_half {f : Nat → Nat} : ∀ {n : Nat}, 2 * cB (fun j => (f j + 1) / 2) n ≤ cB f n + n
  | 0 => Nat.le_refl _
  | n + 1 => by
    have h1 := cB_half (f := f) (n := n)
    rw [cB, cB]
    have h2 : 2 * ((f n + 1) / 2) ≤ f n + 1 := by omega
    omega
/-- the counts once a letter has come -/
def lrF (p b : Nat) (f : Nat → Nat) (t k : Nat) : Nat → Nat := if b < t + p then fun j => (va_up f k (f k + p) j + 1) / 2 else va_up f k (f k + p)
def lrT (p b : Nat) (f : Nat → Nat) (t k : Nat) : Nat := if b < t + p then cB (fun j => (va_up f k (f k + p) j + 1) / 2) 9 else t + p
def lrH (p b t h : Nat) : Nat := if b < t + p then h + 1 else h
/-- counts that a run may hold: each 1 or more, their sum the total, not above 2000 -/
def okC (f : Nat → Nat) (t : Nat) : Prop := (∀ j, j < 9 → 1 ≤ f j) ∧ t = cB f 9 ∧ t ≤ 2000
theorem okC_one : okC one 9 := ⟨fun _ _ => Nat.le_refl _, rfl, by decide⟩
theorem okC.t9 {f : Nat → Nat} {t : Nat} (h : okC f t) : 9 ≤ t := by rw [h.2.1]; exact cB_pos h.1
theorem okC.lr {p b k t : Nat} {f : Nat → Nat} (h : okC f t) (hp : p ≤ 64) (hb : b ≤ 2000) (hk : k < 9) : okC (lrF p b f t k) (lrT p b f t k) := by
  obtain ⟨h1, h2, h3⟩ := h
  have hu := cB_up (f := f) (x := f k + p) hk
  unfold lrF lrT
  by_cases q : b < t + p
  · rw [if_pos q, if_pos q]
    have hv : ∀ j, j < 9 → 1 ≤ va_up f k (f k + p) j := fun j hj => by
      have := h1 j hj
      by_cases e : j = k
      · subst e; rw [va_up_self]; omega
      · rw [va_up_ne f _ e]; exact this
    have h4 := cB_half (f := va_up f k (f k + p)) (n := 9)
    refine ⟨fun j hj => ?_, rfl, by omega⟩
    have h5 := hv j hj
    show 1 ≤ (va_up f k (f k + p) j + 1) / 2
    omega
  · rw [if_neg q, if_neg q]
    refine ⟨fun j hj => ?_, by omega, by omega⟩
    have := h1 j hj
    by_cases e : j = k
    · subst e; rw [va_up_self]; omega
    · rw [va_up_ne f _ e]; exact this
theorem okC.le {f : Nat → Nat} {t j : Nat} (h : okC f t) (hj : j < 9) : f j ≤ 2000 := by
  have := cB_le (f := f) hj
  have := h.2.1
  have := h.2.2
  omega
theorem okC.cle {f : Nat → Nat} {t j : Nat} (h : okC f t) (hj : j ≤ 9) : cB f j ≤ t := by rw [h.2.1]; exact cB_mono hj
theorem okC.up {f : Nat → Nat} {t j : Nat} (h : okC f t) (hj : j < 9) : cB f j + f j ≤ t := by rw [h.2.1]; exact cB_le hj
/-- the span, narrowed to a letter -/
def shL (f : Nat → Nat) (t k lo hi : Nat) : Nat := lo + (hi - lo + 1) * cB f k / t
def shU (f : Nat → Nat) (t k lo hi : Nat) : Nat := lo + (hi - lo + 1) * (cB f k + f k) / t - 1
/-- what a doubling takes off: 0, 32768, 16384, or none (1) -/
def wO (lo hi : Nat) : Nat := if hi < 32768 then 0 else if 32768 ≤ lo then 32768 else if 16384 ≤ lo ∧ hi < 49152 then 16384 else 1
theorem wO_cases (lo hi : Nat) : (wO lo hi = 0 ∧ hi < 32768) ∨ (wO lo hi = 32768 ∧ 32768 ≤ hi ∧ 32768 ≤ lo) ∨ (wO lo hi = 16384 ∧ 32768 ≤ hi ∧ lo < 32768 ∧ 16384 ≤ lo ∧ hi < 49152) ∨ (wO lo hi = 1 ∧ 32768 ≤ hi ∧ lo < 32768 ∧ (lo < 16384 ∨ 49152 ≤ hi)) := by
  unfold wO
  by_cases h1 : hi < 32768
  · rw [if_pos h1]; omega
  · rw [if_neg h1]
    by_cases h2 : 32768 ≤ lo
    · rw [if_pos h2]; omega
    · rw [if_neg h2]
      by_cases h3 : 16384 ≤ lo ∧ hi < 49152
      · rw [if_pos h3]; omega
      · rw [if_neg h3]; omega
/-- a bit written, and those that wait behind it -/
def wB (bs : List Nat) (w b : Nat) : List Nat := bs ++ b :: List.replicate w (1 - b)
theorem wB_len (bs : List Nat) (w b : Nat) : (wB bs w b).length = bs.length + 1 + w := by unfold wB; simp; omega
/-- doubling, at most n times: the span, the bits that wait, the bits -/
def nr : Nat → Nat → Nat → Nat → List Nat → Nat × Nat × Nat × List Nat
  | 0, lo, hi, w, bs => (lo, hi, w, bs)
  | n + 1, lo, hi, w, bs => if wO lo hi = 1 then (lo, hi, w, bs) else if wO lo hi = 16384 then nr n ((lo - 16384) * 2) ((hi - 16384) * 2 + 1) (w + 1) bs else nr n ((lo - wO lo hi) * 2) ((hi - wO lo hi) * 2 + 1) 0 (wB bs w (if wO lo hi = 32768 then 1 else 0))
/-- a row of a heap holds a list at its head -/
def rep (f : Nat → Nat) (l : List Nat) : Prop := ∀ j, j < l.length → f j = l.getD j 0
theorem rep_nil (f : Nat → Nat) : rep f [] := fun j h => absurd h (Nat.not_lt_zero j)
theorem rep_push {f : Nat → Nat} {l : List Nat} {n x : Nat} (h : rep f l) (hn : n = l.length) : rep (va_up f n x) (l ++ [x]) := by
  subst hn
  intro j hj
  rw [List.length_append, List.length_singleton] at hj
  rcases Nat.lt_or_ge j l.length with q | q
  · rw [va_up_ne f x (show j ≠ l.length by omega), h j q, List.getD_eq_getElem?_getD, List.getD_eq_getElem?_getD, List.getElem?_append_left q]
  · have e : j = l.length := by omega
    subst e
    rw [va_up_self, List.getD_eq_getElem?_getD]
    simp
/-- the letter in whose part a number falls -/
def lwA (f : Nat → Nat) (x : Nat) : Nat → Nat → Nat
  | 0, _ => 8
  | m + 1, j => if x < cB f (j + 1) then j else lwA f x m (j + 1)
def lw (f : Nat → Nat) (x : Nat) : Nat := lwA f x 9 0
/-- the first 1 of a row of bits, from a place on, among m -/
def fOA (g : Nat → Nat) : Nat → Nat → Nat
  | 0, j => j
  | m + 1, j => if g j = 1 then j else fOA g m (j + 1)
def fO (g : Nat → Nat) (n j : Nat) : Nat := if n ≤ j then n else fOA g (n - j) j
theorem df_X0 : ∀ j, j < 2 → defaultValue (tyX0 j) = vp_V [.null, .int (nI 0)] j := by
  intro j hj
  match j, hj with
  | 0, _ => rfl
  | 1, _ => rfl
  | k + 2, h => exact absurd h (by omega)
theorem df_X1 : ∀ j, j < 6 → defaultValue (tyX1 j) = vp_V [.null, .null, .null, .null, .int (nI 0), .int (nI 0)] j := by
  intro j hj
  match j, hj with
  | 0, _ => rfl
  | 1, _ => rfl
  | 2, _ => rfl
  | 3, _ => rfl
  | 4, _ => rfl
  | 5, _ => rfl
  | k + 6, h => exact absurd h (by omega)
theorem df_X2 : ∀ j, j < 5 → defaultValue (tyX2 j) = vp_V [.null, .int (nI 0), .int (nI 0), .int (nI 0), .int (nI 0)] j := by
  intro j hj
  match j, hj with
  | 0, _ => rfl
  | 1, _ => rfl
  | 2, _ => rfl
  | 3, _ => rfl
  | 4, _ => rfl
  | k + 5, h => exact absurd h (by omega)
theorem df_X3 : ∀ j, j < 2 → defaultValue (tyX3 j) = vp_V [.null, .int (nI 0)] j := by
  intro j hj
  match j, hj with
  | 0, _ => rfl
  | 1, _ => rfl
  | k + 2, h => exact absurd h (by omega)
theorem df_X4 : ∀ j, j < 5 → defaultValue (tyX4 j) = vp_V [.null, .int (nI 0), .int (nI 0), .int (nI 0), .int (nI 0)] j := by
  intro j hj
  match j, hj with
  | 0, _ => rfl
  | 1, _ => rfl
  | 2, _ => rfl
  | 3, _ => rfl
  | 4, _ => rfl
  | k + 5, h => exact absurd h (by omega)
theorem df_X5 : ∀ j, j < 7 → defaultValue (tyX5 j) = vp_V [.null, .null, .null, .int (nI 0), .int (nI 0), .int (nI 0), .int (nI 0)] j := by
  intro j hj
  match j, hj with
  | 0, _ => rfl
  | 1, _ => rfl
  | 2, _ => rfl
  | 3, _ => rfl
  | 4, _ => rfl
  | 5, _ => rfl
  | 6, _ => rfl
  | k + 7, h => exact absurd h (by omega)
theorem df_X6 : ∀ j, j < 2 → defaultValue (tyX6 j) = vp_V [.int (nI 0), .int (nI 0)] j := by
  intro j hj
  match j, hj with
  | 0, _ => rfl
  | 1, _ => rfl
  | k + 2, h => exact absurd h (by omega)
theorem df_X7 : ∀ j, j < 2 → defaultValue (tyX7 j) = vp_V [.null, .int (nI 0)] j := by
  intro j hj
  match j, hj with
  | 0, _ => rfl
  | 1, _ => rfl
  | k + 2, h => exact absurd h (by omega)
theorem df_X8 : ∀ j, j < 7 → defaultValue (tyX8 j) = vp_V [.null, .null, .null, .null, .null, .null, .null] j := by
  intro j hj
  match j, hj with
  | 0, _ => rfl
  | 1, _ => rfl
  | 2, _ => rfl
  | 3, _ => rfl
  | 4, _ => rfl
  | 5, _ => rfl
  | 6, _ => rfl
  | k + 7, h => exact absurd h (by omega)
theorem fO_end {g : Nat → Nat} {n i : Nat} (h : n ≤ i) : fO g n i = n := if_pos h
theorem fO_hit {g : Nat → Nat} {n i : Nat} (h : i < n) (h1 : g i = 1) : fO g n i = i := by
  unfold fO
  rw [if_neg (by omega), show n - i = (n - i - 1) + 1 by omega, fOA, if_pos h1]
theorem fO_step {g : Nat → Nat} {n i : Nat} (h : i < n) (h1 : g i ≠ 1) : fO g n i = fO g n (i + 1) := by
  unfold fO
  rw [if_neg (show ¬ n ≤ i by omega), show n - i = (n - (i + 1)) + 1 by omega, fOA, if_neg h1]
  by_cases q : n ≤ i + 1
  · rw [if_pos q, show n - (i + 1) = 0 by omega, fOA]; omega
  · rw [if_neg q]
theorem shU_ge {f : Nat → Nat} {t k lo hi : Nat} (hc : okC f t) (hk : k < 9) (hs : lo ≤ hi ∧ hi ≤ 65535) (hw : t ≤ hi - lo + 1) : 1 ≤ (hi - lo + 1) * (cB f k + f k) / t ∧ lo + (hi - lo + 1) * cB f k / t < lo + (hi - lo + 1) * (cB f k + f k) / t ∧ lo + (hi - lo + 1) * (cB f k + f k) / t ≤ hi + 1 := by
  have h1 := hc.1 k hk
  have h2 := hc.up hk
  have h9 := hc.t9
  have ht : 0 < t := by omega
  have e1 : (hi - lo + 1) * (cB f k + f k) = (hi - lo + 1) * cB f k + (hi - lo + 1) * f k := Nat.mul_add _ _ _
  have e2 : t ≤ (hi - lo + 1) * f k := Nat.le_trans hw (Nat.le_mul_of_pos_right _ h1)
  have a1 : (hi - lo + 1) * cB f k / t + 1 ≤ (hi - lo + 1) * (cB f k + f k) / t := by
    rw [← Nat.add_div_right _ ht]
    exact Nat.div_le_div_right (by omega)
  have a2 : (hi - lo + 1) * (cB f k + f k) / t ≤ hi - lo + 1 := by
    apply Nat.div_le_of_le_mul
    rw [Nat.mul_comm t]
    exact Nat.mul_le_mul_left _ h2
  generalize (hi - lo + 1) * (cB f k + f k) / t = X1 at *
  generalize (hi - lo + 1) * cB f k / t = X2 at *
  omega
theorem sh_ok {f : Nat → Nat} {t k lo hi : Nat} (hc : okC f t) (hk : k < 9) (hs : lo ≤ hi ∧ hi ≤ 65535) (hw : t ≤ hi - lo + 1) : lo ≤ shL f t k lo hi ∧ shL f t k lo hi ≤ shU f t k lo hi ∧ shU f t k lo hi ≤ hi := by
  have h := shU_ge hc hk hs hw
  unfold shL shU
  generalize (hi - lo + 1) * (cB f k + f k) / t = X1 at *
  generalize (hi - lo + 1) * cB f k / t = X2 at *
  omega
