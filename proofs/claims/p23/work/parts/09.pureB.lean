/-! narrowing, messages as runs of letters -/
theorem nr_stop {m lo hi w : Nat} {bs : List Nat} (h : wO lo hi = 1) : nr m lo hi w bs = (lo, hi, w, bs) := by
  cases m with
  | zero => rfl
  | succ m => rw [nr, if_pos h]
theorem nr_wait {m lo hi w : Nat} {bs : List Nat} (h : wO lo hi = 16384) : nr (m + 1) lo hi w bs = nr m ((lo - wO lo hi) * 2) ((hi - wO lo hi) * 2 + 1) (w + 1) bs := by
  rw [nr, if_neg (by omega), if_pos h, h]
theorem nr_bit {m lo hi w : Nat} {bs : List Nat} (h : wO lo hi ≠ 1) (h2 : wO lo hi ≠ 16384) : nr (m + 1) lo hi w bs = nr m ((lo - wO lo hi) * 2) ((hi - wO lo hi) * 2 + 1) 0 (wB bs w (if wO lo hi = 32768 then 1 else 0)) := by
  rw [nr, if_neg h, if_neg h2]
/-- behind sixteen doublings nothing is left to double -/
theorem nr_ok : ∀ (m lo hi w : Nat) (bs : List Nat), lo ≤ hi ∧ hi ≤ 65535 → 65536 ≤ (hi - lo + 1) * 2 ^ m → (nr m lo hi w bs).1 ≤ (nr m lo hi w bs).2.1 ∧ (nr m lo hi w bs).2.1 ≤ 65535 ∧ wO (nr m lo hi w bs).1 (nr m lo hi w bs).2.1 = 1
  | 0, lo, hi, w, bs, h, hm => by
    show lo ≤ hi ∧ hi ≤ 65535 ∧ wO lo hi = 1
    have := wO_cases lo hi
    omega
  | m + 1, lo, hi, w, bs, h, hm => by
    have hc := wO_cases lo hi
    have e : 2 ^ (m + 1) = 2 * 2 ^ m := by rw [Nat.pow_succ, Nat.mul_comm]
    by_cases h1 : wO lo hi = 1
    · rw [nr_stop h1]; exact ⟨h.1, h.2, h1⟩
    · have hs : (lo - wO lo hi) * 2 ≤ (hi - wO lo hi) * 2 + 1 ∧ (hi - wO lo hi) * 2 + 1 ≤ 65535 := by omega
      have hr : 65536 ≤ ((hi - wO lo hi) * 2 + 1 - (lo - wO lo hi) * 2 + 1) * 2 ^ m := by
        have e2 : (hi - wO lo hi) * 2 + 1 - (lo - wO lo hi) * 2 + 1 = (hi - lo + 1) * 2 := by omega
        rw [e2, Nat.mul_assoc, ← e]; exact hm
      by_cases h2 : wO lo hi = 16384
      · rw [nr_wait h2]; exact nr_ok m _ _ _ _ hs hr
      · rw [nr_bit h1 h2]; exact nr_ok m _ _ _ _ hs hr
theorem nr_len : ∀ (m lo hi w : Nat) (bs : List Nat), bs.length ≤ (nr m lo hi w bs).2.2.2.length ∧ (nr m lo hi w bs).2.2.2.length + (nr m lo hi w bs).2.2.1 ≤ bs.length + w + m
  | 0, lo, hi, w, bs => ⟨Nat.le_refl _, Nat.le_refl _⟩
  | m + 1, lo, hi, w, bs => by
    by_cases h1 : wO lo hi = 1
    · rw [nr_stop h1]; exact ⟨Nat.le_refl _, Nat.le_add_right _ _⟩
    · by_cases h2 : wO lo hi = 16384
      · rw [nr_wait h2]
        have := nr_len m ((lo - wO lo hi) * 2) ((hi - wO lo hi) * 2 + 1) (w + 1) bs
        omega
      · rw [nr_bit h1 h2]
        have := nr_len m ((lo - wO lo hi) * 2) ((hi - wO lo hi) * 2 + 1) 0 (wB bs w (if wO lo hi = 32768 then 1 else 0))
        rw [wB_len] at this
        omega
def bits01 (bs : List Nat) : Prop := ∀ x, x ∈ bs → x < 2
theorem bits01_nil : bits01 [] := fun x h => absurd h List.not_mem_nil
theorem bits01_wB {bs : List Nat} {w b : Nat} (h : bits01 bs) (hb : b < 2) : bits01 (wB bs w b) := by
  intro x hx
  unfold wB at hx
  rcases List.mem_append.mp hx with h1 | h1
  · exact h x h1
  · rcases List.mem_cons.mp h1 with h2 | h2
    · omega
    · have := (List.mem_replicate.mp h2).2
      omega
theorem nr_bits : ∀ (m lo hi w : Nat) (bs : List Nat), bits01 bs → bits01 (nr m lo hi w bs).2.2.2
  | 0, lo, hi, w, bs, h => h
  | m + 1, lo, hi, w, bs, h => by
    by_cases h1 : wO lo hi = 1
    · rw [nr_stop h1]; exact h
    · by_cases h2 : wO lo hi = 16384
      · rw [nr_wait h2]; exact nr_bits m _ _ _ _ h
      · rw [nr_bit h1 h2]
        exact nr_bits m _ _ _ _ (bits01_wB h (by by_cases q : wO lo hi = 32768 <;> simp [q]))
theorem bits01.getD {bs : List Nat} (h : bits01 bs) (j : Nat) : bs.getD j 0 < 2 := by
  rw [List.getD_eq_getElem?_getD]
  cases hj : bs[j]? with
  | none => exact (by decide : 0 < 2)
  | some x => exact h x (List.mem_of_getElem? hj)
theorem rep_wait {g : Nat → Nat} {bs : List Nat} {n x i : Nat} (hn : n = bs.length) (h : rep g (bs ++ x :: List.replicate i (1 - x))) : rep (va_up g (n + 1 + i) (1 - x)) (bs ++ x :: List.replicate (i + 1) (1 - x)) := by
  have e : bs ++ x :: List.replicate (i + 1) (1 - x) = (bs ++ x :: List.replicate i (1 - x)) ++ [1 - x] := by
    rw [List.append_assoc, List.cons_append, ← List.replicate_succ']
  rw [e]
  exact rep_push h (by simp; omega)
theorem rep_cong {f : Nat → Nat} {l l' : List Nat} (h : rep f l) (e : l = l') : rep f l' := e ▸ h
/-- a coder's state: counts, total, halvings, low, high, bits that wait, bits -/
abbrev CS : Type := (Nat → Nat) × Nat × Nat × Nat × Nat × Nat × List Nat
def sF (s : CS) : Nat → Nat := s.1
def sT (s : CS) : Nat := s.2.1
def sH (s : CS) : Nat := s.2.2.1
def sL (s : CS) : Nat := s.2.2.2.1
def sU (s : CS) : Nat := s.2.2.2.2.1
def sW (s : CS) : Nat := s.2.2.2.2.2.1
def sB (s : CS) : List Nat := s.2.2.2.2.2.2
def cs0 : CS := (one, 9, 0, 0, 65535, 0, [])
def nrS (s : CS) (k : Nat) : Nat × Nat × Nat × List Nat := nr 16 (shL (sF s) (sT s) k (sL s) (sU s)) (shU (sF s) (sT s) k (sL s) (sU s)) (sW s) (sB s)
def cAdd (p b : Nat) (s : CS) (k : Nat) : CS := (lrF p b (sF s) (sT s) k, lrT p b (sF s) (sT s) k, lrH p b (sT s) (sH s), (nrS s k).1, (nrS s k).2.1, (nrS s k).2.2.1, (nrS s k).2.2.2)
def cEnd (s : CS) : CS := (sF s, sT s, sH s, (nrS s 8).1, (nrS s 8).2.1, 0, wB (nrS s 8).2.2.2 ((nrS s 8).2.2.1 + 1) (if (nrS s 8).1 < 16384 then 0 else 1))
def cR (p b : Nat) (g : Nat → Nat) : Nat → CS
  | 0 => cs0
  | n + 1 => cAdd p b (cR p b g n) (g n)
def okS (s : CS) : Prop := okC (sF s) (sT s) ∧ sL s ≤ sU s ∧ sU s ≤ 65535 ∧ wO (sL s) (sU s) = 1
theorem okS.wide {s : CS} (h : okS s) : sT s ≤ sU s - sL s + 1 := by
  have := wO_cases (sL s) (sU s)
  have := h.1.2.2
  have := h.2
  omega
theorem nrS_ok {s : CS} {k : Nat} (h : okS s) (hk : k < 9) : (nrS s k).1 ≤ (nrS s k).2.1 ∧ (nrS s k).2.1 ≤ 65535 ∧ wO (nrS s k).1 (nrS s k).2.1 = 1 := by
  have h1 := sh_ok h.1 hk ⟨h.2.1, h.2.2.1⟩ h.wide
  have h2 := h.2.2.1
  exact nr_ok 16 _ _ _ _ (by omega) (by
    have : 1 * 2 ^ 16 ≤ (shU (sF s) (sT s) k (sL s) (sU s) - shL (sF s) (sT s) k (sL s) (sU s) + 1) * 2 ^ 16 := Nat.mul_le_mul_right _ (by omega)
    exact this)
theorem nrS_len (s : CS) (k : Nat) : (sB s).length ≤ (nrS s k).2.2.2.length ∧ (nrS s k).2.2.2.length + (nrS s k).2.2.1 ≤ (sB s).length + sW s + 16 := nr_len 16 _ _ _ _
theorem okS_0 : okS cs0 := ⟨okC_one, by decide, by decide, by decide⟩
theorem okS.add {p b k : Nat} {s : CS} (h : okS s) (hp : p ≤ 64) (hb : b ≤ 2000) (hk : k < 9) : okS (cAdd p b s k) := ⟨h.1.lr hp hb hk, nrS_ok h hk⟩
theorem cR_ok {p b : Nat} {g : Nat → Nat} (hp : p ≤ 64) (hb : b ≤ 2000) : ∀ {n : Nat}, (∀ j, j < n → g j < 8) → okS (cR p b g n)
  | 0, _ => okS_0
  | n + 1, h => (cR_ok hp hb (fun j hj => h j (by omega))).add hp hb (by have := h n (by omega); omega)
theorem cR_len (p b : Nat) (g : Nat → Nat) : ∀ n : Nat, (sB (cR p b g n)).length + sW (cR p b g n) ≤ 16 * n
  | 0 => Nat.le_refl _
  | n + 1 => by
    have h1 := cR_len p b g n
    have h2 := nrS_len (cR p b g n) (g n)
    show (nrS (cR p b g n) (g n)).2.2.2.length + (nrS (cR p b g n) (g n)).2.2.1 ≤ 16 * (n + 1)
    omega
theorem cR_bits (p b : Nat) (g : Nat → Nat) : ∀ n : Nat, bits01 (sB (cR p b g n))
  | 0 => bits01_nil
  | n + 1 => nr_bits 16 _ _ _ _ (cR_bits p b g n)
theorem cR_cong {p b : Nat} {g g' : Nat → Nat} : ∀ {n : Nat}, (∀ j, j < n → g j = g' j) → cR p b g n = cR p b g' n
  | 0, _ => rfl
  | n + 1, h => by rw [cR, cR, cR_cong (fun j hj => h j (by omega)), h n (by omega)]
theorem cEnd_len (s : CS) : (sB (cEnd s)).length ≤ (sB s).length + sW s + 18 ∧ (sB s).length ≤ (sB (cEnd s)).length := by
  have h := nrS_len s 8
  show (wB _ _ _).length ≤ _ ∧ _ ≤ (wB _ _ _).length
  rw [wB_len]
  omega
theorem cEnd_bits {s : CS} (h : bits01 (sB s)) : bits01 (sB (cEnd s)) := bits01_wB (nr_bits 16 _ _ _ _ h) (by by_cases q : (nrS s 8).1 < 16384 <;> simp [q])
/-- how many bits a letter of a message wrote -/
def cost (p b : Nat) (g : Nat → Nat) (j : Nat) : Nat := (sB (cR p b g (j + 1))).length - (sB (cR p b g j)).length
/-- a message's coder: ended or not -/
def cM (p b : Nat) (g : Nat → Nat) (n e : Nat) : CS := if e = 1 then cEnd (cR p b g n) else cR p b g n
/-- the most of a row's first n -/
def mxF (f : Nat → Nat) : Nat → Nat
  | 0 => 0
  | n + 1 => max (mxF f n) (f n)
