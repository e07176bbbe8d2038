/-! reading -/
theorem lwA_spec {f : Nat → Nat} {x : Nat} : ∀ (m j : Nat), m + j = 9 → x < cB f 9 → cB f j ≤ x → lwA f x m j < 9 ∧ cB f (lwA f x m j) ≤ x ∧ x < cB f (lwA f x m j + 1)
  | 0, j, h, h1, h2 => by rw [show j = 9 by omega] at h2; omega
  | m + 1, j, h, h1, h2 => by
    rw [lwA]
    by_cases q : x < cB f (j + 1)
    · rw [if_pos q]; exact ⟨by omega, h2, q⟩
    · rw [if_neg q]; exact lwA_spec m (j + 1) (by omega) h1 (by omega)
theorem lw_spec {f : Nat → Nat} {x : Nat} (h : x < cB f 9) : lw f x < 9 ∧ cB f (lw f x) ≤ x ∧ x < cB f (lw f x + 1) := lwA_spec 9 0 rfl h (Nat.zero_le _)
def lwX (f : Nat → Nat) (t lo hi v : Nat) : Nat := lw f (((v - lo + 1) * t - 1) / (hi - lo + 1))
theorem lwX_lt {f : Nat → Nat} {t lo hi v : Nat} (hc : okC f t) (hv : lo ≤ v ∧ v ≤ hi) : ((v - lo + 1) * t - 1) / (hi - lo + 1) < cB f 9 := by
  rw [← hc.2.1]
  apply (Nat.div_lt_iff_lt_mul (by omega)).mpr
  have h9 := hc.t9
  have h1 : (v - lo + 1) * t ≤ (hi - lo + 1) * t := Nat.mul_le_mul_right _ (by omega)
  have h2 : 1 ≤ (v - lo + 1) * t := Nat.mul_pos (by omega) (by omega)
  rw [Nat.mul_comm t]
  omega
/-- the number stays within the span of the letter that it tells -/
theorem lwX_in {f : Nat → Nat} {t lo hi v : Nat} (hc : okC f t) (hv : lo ≤ v ∧ v ≤ hi) : lwX f t lo hi v < 9 ∧ shL f t (lwX f t lo hi v) lo hi ≤ v ∧ v ≤ shU f t (lwX f t lo hi v) lo hi := by
  have h := lw_spec (lwX_lt hc hv)
  have h9 := hc.t9
  refine ⟨h.1, ?_⟩
  show shL f t (lw f (((v - lo + 1) * t - 1) / (hi - lo + 1))) lo hi ≤ v ∧ v ≤ shU f t (lw f (((v - lo + 1) * t - 1) / (hi - lo + 1))) lo hi
  generalize lw f (((v - lo + 1) * t - 1) / (hi - lo + 1)) = k at *
  obtain ⟨hk, h1, h2⟩ := h
  have h3 : cB f k * (hi - lo + 1) ≤ (v - lo + 1) * t - 1 := (Nat.le_div_iff_mul_le (by omega)).mp h1
  have h4 : (v - lo + 1) * t - 1 < cB f (k + 1) * (hi - lo + 1) := (Nat.div_lt_iff_lt_mul (by omega)).mp h2
  have h5 : 1 ≤ (v - lo + 1) * t := Nat.mul_pos (by omega) (by omega)
  have a1 : (hi - lo + 1) * cB f k / t < v - lo + 1 := (Nat.div_lt_iff_lt_mul (by omega)).mpr (by rw [Nat.mul_comm (hi - lo + 1)]; omega)
  have a2 : v - lo + 1 ≤ (hi - lo + 1) * (cB f k + f k) / t := (Nat.le_div_iff_mul_le (by omega)).mpr (by rw [Nat.mul_comm (hi - lo + 1)]; rw [cB] at h4; omega)
  unfold shL shU
  generalize (hi - lo + 1) * (cB f k + f k) / t = X1 at *
  generalize (hi - lo + 1) * cB f k / t = X2 at *
  omega
/-- the number of the first n bits -/
def v16 (β : Nat → Nat) : Nat → Nat
  | 0 => 0
  | n + 1 => v16 β n * 2 + β n
theorem v16_lt {β : Nat → Nat} (h : ∀ j, β j < 2) : ∀ n : Nat, v16 β n < 2 ^ n
  | 0 => (by decide : 0 < 2 ^ 0)
  | n + 1 => by
    have h1 := v16_lt h n
    have h2 := h n
    have e : 2 ^ (n + 1) = 2 * 2 ^ n := by rw [Nat.pow_succ, Nat.mul_comm]
    rw [v16, e]
    omega
/-- doubling while reading: the span, the number, how many bits are taken -/
def nv (β : Nat → Nat) : Nat → Nat → Nat → Nat → Nat → Nat × Nat × Nat × Nat
  | 0, lo, hi, v, tk => (lo, hi, v, tk)
  | n + 1, lo, hi, v, tk => if wO lo hi = 1 then (lo, hi, v, tk) else nv β n ((lo - wO lo hi) * 2) ((hi - wO lo hi) * 2 + 1) ((v - wO lo hi) * 2 + β tk) (tk + 1)
theorem nv_stop {β : Nat → Nat} {m lo hi v tk : Nat} (h : wO lo hi = 1) : nv β m lo hi v tk = (lo, hi, v, tk) := by
  cases m with
  | zero => rfl
  | succ m => rw [nv, if_pos h]
theorem nv_go {β : Nat → Nat} {m lo hi v tk : Nat} (h : wO lo hi ≠ 1) : nv β (m + 1) lo hi v tk = nv β m ((lo - wO lo hi) * 2) ((hi - wO lo hi) * 2 + 1) ((v - wO lo hi) * 2 + β tk) (tk + 1) := by rw [nv, if_neg h]
theorem nv_ok {β : Nat → Nat} (hβ : ∀ j, β j < 2) : ∀ (m lo hi v tk : Nat), lo ≤ v ∧ v ≤ hi ∧ hi ≤ 65535 → 65536 ≤ (hi - lo + 1) * 2 ^ m → (nv β m lo hi v tk).1 ≤ (nv β m lo hi v tk).2.2.1 ∧ (nv β m lo hi v tk).2.2.1 ≤ (nv β m lo hi v tk).2.1 ∧ (nv β m lo hi v tk).2.1 ≤ 65535 ∧ wO (nv β m lo hi v tk).1 (nv β m lo hi v tk).2.1 = 1 ∧ (nv β m lo hi v tk).2.2.2 ≤ tk + m
  | 0, lo, hi, v, tk, h, hm => by
    show lo ≤ v ∧ v ≤ hi ∧ hi ≤ 65535 ∧ wO lo hi = 1 ∧ tk ≤ tk + 0
    have := wO_cases lo hi
    omega
  | m + 1, lo, hi, v, tk, h, hm => by
    have hc := wO_cases lo hi
    have e : 2 ^ (m + 1) = 2 * 2 ^ m := by rw [Nat.pow_succ, Nat.mul_comm]
    by_cases h1 : wO lo hi = 1
    · rw [nv_stop h1]; exact ⟨h.1, h.2.1, h.2.2, h1, Nat.le_add_right _ _⟩
    · have hb := hβ tk
      have hr : 65536 ≤ ((hi - wO lo hi) * 2 + 1 - (lo - wO lo hi) * 2 + 1) * 2 ^ m := by
        have e2 : (hi - wO lo hi) * 2 + 1 - (lo - wO lo hi) * 2 + 1 = (hi - lo + 1) * 2 := by omega
        rw [e2, Nat.mul_assoc, ← e]; exact hm
      rw [nv_go h1]
      have := nv_ok hβ m ((lo - wO lo hi) * 2) ((hi - wO lo hi) * 2 + 1) ((v - wO lo hi) * 2 + β tk) (tk + 1) (by omega) hr
      omega
/-- a reader's state: counts, total, halvings, low, high, number, taken, letters -/
abbrev RS : Type := (Nat → Nat) × Nat × Nat × Nat × Nat × Nat × Nat × List Nat
def qF (s : RS) : Nat → Nat := s.1
def qT (s : RS) : Nat := s.2.1
def qH (s : RS) : Nat := s.2.2.1
def qL (s : RS) : Nat := s.2.2.2.1
def qU (s : RS) : Nat := s.2.2.2.2.1
def qV (s : RS) : Nat := s.2.2.2.2.2.1
def qK (s : RS) : Nat := s.2.2.2.2.2.2.1
def qR (s : RS) : List Nat := s.2.2.2.2.2.2.2
def rd0 (β : Nat → Nat) : RS := (one, 9, 0, 0, 65535, v16 β 16, 16, [])
def lwS (s : RS) : Nat := lwX (qF s) (qT s) (qL s) (qU s) (qV s)
def nvS (β : Nat → Nat) (s : RS) (k : Nat) : Nat × Nat × Nat × Nat := nv β 16 (shL (qF s) (qT s) k (qL s) (qU s)) (shU (qF s) (qT s) k (qL s) (qU s)) (qV s) (qK s)
def rStep (p b : Nat) (β : Nat → Nat) (s : RS) : RS := (lrF p b (qF s) (qT s) (lwS s), lrT p b (qF s) (qT s) (lwS s), lrH p b (qT s) (qH s), (nvS β s (lwS s)).1, (nvS β s (lwS s)).2.1, (nvS β s (lwS s)).2.2.1, (nvS β s (lwS s)).2.2.2, qR s ++ [lwS s])
def rdd (p b : Nat) (β : Nat → Nat) : Nat → RS → Nat × RS
  | 0, s => (0, s)
  | m + 1, s => if lwS s = 8 then (1, s) else if (qR s).length < 40 then rdd p b β m (rStep p b β s) else (0, s)
def okR (s : RS) : Prop := okC (qF s) (qT s) ∧ qL s ≤ qV s ∧ qV s ≤ qU s ∧ qU s ≤ 65535 ∧ wO (qL s) (qU s) = 1 ∧ qK s ≤ 16 + 16 * (qR s).length ∧ (qR s).length ≤ 40
theorem okR.wide {s : RS} (h : okR s) : qT s ≤ qU s - qL s + 1 := by
  have := wO_cases (qL s) (qU s)
  have := h.1.2.2
  have := h.2
  omega
theorem okR_0 {β : Nat → Nat} (h : ∀ j, β j < 2) : okR (rd0 β) := by
  have h1 := v16_lt h 16
  refine ⟨okC_one, Nat.zero_le _, ?_, (by decide : 65535 ≤ 65535), (by decide : wO 0 65535 = 1), Nat.le_refl _, (by decide : 0 ≤ 40)⟩
  show v16 β 16 ≤ 65535
  omega
theorem okR.lw {s : RS} (h : okR s) : lwS s < 9 ∧ shL (qF s) (qT s) (lwS s) (qL s) (qU s) ≤ qV s ∧ qV s ≤ shU (qF s) (qT s) (lwS s) (qL s) (qU s) := lwX_in h.1 ⟨h.2.1, h.2.2.1⟩
theorem okR.step {p b : Nat} {β : Nat → Nat} {s : RS} (hβ : ∀ j, β j < 2) (h : okR s) (hp : p ≤ 64) (hb : b ≤ 2000) (hn : (qR s).length < 40) : okR (rStep p b β s) := by
  have hl := h.lw
  have h1 := sh_ok h.1 hl.1 ⟨Nat.le_trans h.2.1 h.2.2.1, h.2.2.2.1⟩ h.wide
  have h2 := h.2.2.2.1
  have h3 := nv_ok hβ 16 (shL (qF s) (qT s) (lwS s) (qL s) (qU s)) (shU (qF s) (qT s) (lwS s) (qL s) (qU s)) (qV s) (qK s) (by omega) (by
    have : 1 * 2 ^ 16 ≤ (shU (qF s) (qT s) (lwS s) (qL s) (qU s) - shL (qF s) (qT s) (lwS s) (qL s) (qU s) + 1) * 2 ^ 16 := Nat.mul_le_mul_right _ (by omega)
    exact this)
  refine ⟨h.1.lr hp hb hl.1, h3.1, h3.2.1, h3.2.2.1, h3.2.2.2.1, ?_, ?_⟩
  · have e1 : (qR (rStep p b β s)).length = (qR s).length + 1 := by show (qR s ++ [lwS s]).length = _; rw [List.length_append, List.length_singleton]
    have h4 := h.2.2.2.2.2.1
    have h5 := h3.2.2.2.2
    rw [e1]
    show (nvS β s (lwS s)).2.2.2 ≤ _
    unfold nvS
    omega
  · show (qR s ++ [lwS s]).length ≤ 40
    rw [List.length_append, List.length_singleton]
    omega
theorem rdd_end {p b m : Nat} {β : Nat → Nat} {s : RS} (h : lwS s = 8) : rdd p b β (m + 1) s = (1, s) := by rw [rdd, if_pos h]
theorem rdd_go {p b m : Nat} {β : Nat → Nat} {s : RS} (h : lwS s ≠ 8) (h2 : (qR s).length < 40) : rdd p b β (m + 1) s = rdd p b β m (rStep p b β s) := by rw [rdd, if_neg h, if_pos h2]
theorem rdd_full {p b m : Nat} {β : Nat → Nat} {s : RS} (h : lwS s ≠ 8) (h2 : ¬ (qR s).length < 40) : rdd p b β m s = (0, s) := by
  cases m with
  | zero => rfl
  | succ m => rw [rdd, if_neg h, if_neg h2]
theorem rdd_ok {p b : Nat} {β : Nat → Nat} (hβ : ∀ j, β j < 2) (hp : p ≤ 64) (hb : b ≤ 2000) : ∀ (m : Nat) (s : RS), okR s → okR (rdd p b β m s).2 ∧ (rdd p b β m s).1 < 2
  | 0, s, h => ⟨h, (by decide : 0 < 2)⟩
  | m + 1, s, h => by
    by_cases h1 : lwS s = 8
    · rw [rdd_end h1]; exact ⟨h, (by decide : 1 < 2)⟩
    · by_cases h2 : (qR s).length < 40
      · rw [rdd_go h1 h2]; exact rdd_ok hβ hp hb m _ (h.step hβ hp hb h2)
      · rw [rdd_full h1 h2]; exact ⟨h, (by decide : 0 < 2)⟩
theorem rdd_lt {p b : Nat} {β : Nat → Nat} (hβ : ∀ j, β j < 2) (hp : p ≤ 64) (hb : b ≤ 2000) : ∀ (m : Nat) (s : RS), okR s → (∀ x, x ∈ qR s → x < 9) → ∀ x, x ∈ qR (rdd p b β m s).2 → x < 9
  | 0, s, h, hx => hx
  | m + 1, s, h, hx => by
    by_cases h1 : lwS s = 8
    · rw [rdd_end h1]; exact hx
    · by_cases h2 : (qR s).length < 40
      · rw [rdd_go h1 h2]
        refine rdd_lt hβ hp hb m _ (h.step hβ hp hb h2) (fun x hm => ?_)
        rcases List.mem_append.mp (show x ∈ qR s ++ [lwS s] from hm) with q | q
        · exact hx x q
        · rw [List.mem_singleton.mp q]; exact h.lw.1
      · rw [rdd_full h1 h2]; exact hx
/-- what reading tells: over or not, and the reader behind it -/
def rdF (p b : Nat) (β : Nat → Nat) : Nat × RS := rdd p b β 41 (rd0 β)
/-- how often a letter stands among the first n -/
def hO (g : Nat → Nat) (k : Nat) : Nat → Nat
  | 0 => 0
  | n + 1 => hO g k n + if g n = k then 1 else 0
theorem hO_le (g : Nat → Nat) (k : Nat) : ∀ n : Nat, hO g k n ≤ n
  | 0 => Nat.le_refl _
  | n + 1 => by
    have := hO_le g k n
    rw [hO]
    by_cases q : g n = k <;> simp [q] <;> omega
/-- the first character that tells no bit, or the length -/
def stA (f : Nat → Nat) : Nat → Nat → Nat
  | 0, j => j
  | m + 1, j => if f j = 48 ∨ f j = 49 then stA f m (j + 1) else j
def st (f : Nat → Nat) (n : Nat) : Nat := stA f n 0
/-- the history's rows, one state more -/
def hup {α : Type} (F : Nat → α) (sz : Nat) (x : α) : Nat → α := if sz < 4 then va_up F sz x else va_up (fun j => F (j + 1)) 3 x
def hsz (sz : Nat) : Nat := if sz < 4 then sz + 1 else 4
def hq (m0 m1 m2 m3 : Nat) : Nat → Option Nat := va_up (va_up (va_up (va_up (fun _ => none) 0 (some m0)) 1 (some m1)) 2 (some m2)) 3 (some m3)
