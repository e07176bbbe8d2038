/-! what the law asks of a message: bits stay, costs add up -/
theorem nr_pre : ∀ (m lo hi w : Nat) (bs : List Nat), ∃ r, (nr m lo hi w bs).2.2.2 = bs ++ r
  | 0, lo, hi, w, bs => ⟨[], (List.append_nil bs).symm⟩
  | m + 1, lo, hi, w, bs => by
    by_cases h1 : wO lo hi = 1
    · rw [nr_stop h1]; exact ⟨[], (List.append_nil bs).symm⟩
    · by_cases h2 : wO lo hi = 16384
      · rw [nr_wait h2]; exact nr_pre m _ _ _ _
      · rw [nr_bit h1 h2]
        obtain ⟨r, hr⟩ := nr_pre m ((lo - wO lo hi) * 2) ((hi - wO lo hi) * 2 + 1) 0 (wB bs w (if wO lo hi = 32768 then 1 else 0))
        exact ⟨_, hr.trans (List.append_assoc _ _ _)⟩
theorem nrS_pre (s : CS) (k : Nat) : ∃ r, (nrS s k).2.2.2 = sB s ++ r := nr_pre 16 _ _ _ _
theorem getD_app {l r : List Nat} {j : Nat} (h : j < l.length) : (l ++ r).getD j 0 = l.getD j 0 := by
  rw [List.getD_eq_getElem?_getD, List.getD_eq_getElem?_getD, List.getElem?_append_left h]
theorem bit_stay (p b : Nat) (g : Nat → Nat) (n x : Nat) {j : Nat} (h : j < (sB (cR p b g n)).length) : (sB (cR p b (va_up g n x) (n + 1))).getD j 0 = (sB (cR p b g n)).getD j 0 := by
  obtain ⟨r, hr⟩ := nrS_pre (cR p b g n) x
  rw [cR_put1]
  show ((nrS (cR p b g n) x).2.2.2).getD j 0 = _
  rw [hr, getD_app h]
theorem cR_up (p b : Nat) (g : Nat → Nat) (n : Nat) : (sB (cR p b g n)).length ≤ (sB (cR p b g (n + 1))).length := (nrS_len (cR p b g n) (g n)).1
theorem len_put (p b : Nat) (g : Nat → Nat) (n x : Nat) : (sB (cR p b (va_up g n x) (n + 1))).length = (sB (cR p b g n)).length + cost p b (va_up g n x) n := by
  have h := cR_up p b (va_up g n x) n
  rw [cR_put] at h
  unfold cost
  rw [cR_put]
  omega
theorem cost_sum (p b : Nat) (g : Nat → Nat) : ∀ n : Nat, cB (cost p b g) n = (sB (cR p b g n)).length
  | 0 => rfl
  | n + 1 => by
    have h := cR_up p b g n
    rw [cB, cost_sum p b g n]
    unfold cost
    omega
/-- what a letter's count becomes -/
theorem cnt_put {p b k t : Nat} {f : Nat → Nat} : lrF p b f t k k = if b < t + p then (f k + p + 1) / 2 else f k + p := by
  unfold lrF
  by_cases q : b < t + p
  · rw [if_pos q, if_pos q]; show (va_up f k (f k + p) k + 1) / 2 = _; rw [va_up_self]
  · rw [if_neg q, if_neg q]; exact va_up_self f k _
theorem hal_put {p b t h : Nat} : (b < t + p ∧ lrH p b t h = h + 1) ∨ (¬ b < t + p ∧ lrH p b t h = h) := by
  unfold lrH
  by_cases q : b < t + p
  · rw [if_pos q]; exact Or.inl ⟨q, rfl⟩
  · rw [if_neg q]; exact Or.inr ⟨q, rfl⟩
/-- the end's count stays 1 -/
theorem lrF_8 {p b k t : Nat} {f : Nat → Nat} (h : f 8 = 1) (hk : k < 8) : lrF p b f t k 8 = 1 := by
  have e : va_up f k (f k + p) 8 = 1 := by rw [va_up_ne f _ (show 8 ≠ k by omega)]; exact h
  unfold lrF
  by_cases q : b < t + p
  · rw [if_pos q]; show (va_up f k (f k + p) 8 + 1) / 2 = 1; rw [e]
  · rw [if_neg q]; exact e
theorem cR_8 {p b : Nat} {g : Nat → Nat} : ∀ {n : Nat}, (∀ j, j < n → g j < 8) → sF (cR p b g n) 8 = 1
  | 0, _ => rfl
  | n + 1, h => lrF_8 (cR_8 (fun j hj => h j (by omega))) (h n (by omega))
theorem cM_F (p b : Nat) (g : Nat → Nat) (n e : Nat) : sF (cM p b g n e) = sF (cR p b g n) ∧ sT (cM p b g n e) = sT (cR p b g n) ∧ sH (cM p b g n e) = sH (cR p b g n) := by
  unfold cM
  by_cases q : e = 1
  · rw [if_pos q]; exact ⟨rfl, rfl, rfl⟩
  · rw [if_neg q]; exact ⟨rfl, rfl, rfl⟩
theorem okS_MM {p b : Nat} {g : Nat → Nat} {n e : Nat} (hp : p ≤ 64) (hb : b ≤ 2000) (hg : ∀ j, j < n → g j < 8) : okS (cM p b g n e) := by
  have h := cR_ok hp hb hg
  unfold cM
  by_cases q : e = 1
  · rw [if_pos q]; exact ⟨h.1, nrS_ok h (by decide)⟩
  · rw [if_neg q]; exact h
/-- the span of a message: at least 16385 wide -/
theorem span_M {p b : Nat} {g : Nat → Nat} {n e : Nat} (hp : p ≤ 64) (hb : b ≤ 2000) (hg : ∀ j, j < n → g j < 8) : sL (cM p b g n e) < sU (cM p b g n e) ∧ sU (cM p b g n e) ≤ 65535 ∧ sL (cM p b g n e) + 16384 ≤ sU (cM p b g n e) := by
  have h := okS_MM (e := e) hp hb hg
  have h1 := wO_cases (sL (cM p b g n e)) (sU (cM p b g n e))
  have h2 := h.2
  omega
/-- how often letters stand, over all letters -/
theorem cB_add {f f2 : Nat → Nat} : ∀ n : Nat, cB (fun l => f l + f2 l) n = cB f n + cB f2 n
  | 0 => rfl
  | n + 1 => by
    rw [cB, cB, cB, cB_add n]
    omega
theorem cB_ind (k : Nat) : ∀ n : Nat, cB (fun l => if k = l then 1 else 0) n = if k < n then 1 else 0
  | 0 => (if_neg (Nat.not_lt_zero k)).symm
  | n + 1 => by
    rw [cB, cB_ind k n]
    show (if k < n then 1 else 0) + (if k = n then 1 else 0) = _
    rcases Nat.lt_trichotomy k n with h | h | h
    · rw [if_pos h, if_neg (show ¬ k = n by omega), if_pos (show k < n + 1 by omega)]
    · rw [if_neg (show ¬ k < n by omega), if_pos h, if_pos (show k < n + 1 by omega)]
    · rw [if_neg (show ¬ k < n by omega), if_neg (show ¬ k = n by omega), if_neg (show ¬ k < n + 1 by omega)]
theorem cB_zero : ∀ n : Nat, cB z0 n = 0
  | 0 => rfl
  | n + 1 => by rw [cB, cB_zero n]; rfl
theorem hO_sum (g : Nat → Nat) : ∀ n : Nat, (∀ j, j < n → g j < 8) → cB (fun l => hO g l n) 8 = n
  | 0, _ => cB_zero 8
  | n + 1, h => by
    have e : (fun l => hO g l (n + 1)) = (fun l => (fun l => hO g l n) l + (fun l => if g n = l then 1 else 0) l) := rfl
    rw [e, cB_add, hO_sum g n (fun j hj => h j (by omega)), cB_ind, if_pos (h n (by omega))]
/-- an ended message has more bits than its letters wrote -/
theorem cEnd_more (s : CS) : (sB s).length + 2 ≤ (sB (cEnd s)).length := by
  have h := nrS_len s 8
  show _ ≤ (wB _ _ _).length
  rw [wB_len]
  omega
theorem bp_min {F : Nat → Nat} : ∀ m : Nat, F (bp F m).1 = (bp F m).2 ∧ 1 ≤ (bp F m).1 ∧ (bp F m).1 ≤ m + 1 ∧ ∀ j, 1 ≤ j → j ≤ m + 1 → (bp F m).2 ≤ F j
  | 0 => ⟨rfl, Nat.le_refl _, Nat.le_refl _, fun j h1 h2 => by rw [show j = 1 by omega]; exact Nat.le_refl _⟩
  | m + 1 => by
    obtain ⟨h1, h2, h3, h4⟩ := bp_min (F := F) m
    rw [bp]
    by_cases q : F (m + 2) < (bp F m).2
    · rw [if_pos q]
      refine ⟨rfl, show 1 ≤ m + 2 by omega, Nat.le_refl _, fun j ha hb => ?_⟩
      show F (m + 2) ≤ F j
      rcases Nat.lt_or_ge j (m + 2) with r | r
      · exact Nat.le_trans (Nat.le_of_lt q) (h4 j ha (by omega))
      · rw [show j = m + 2 by omega]; exact Nat.le_refl _
    · rw [if_neg q]
      refine ⟨h1, h2, by omega, fun j ha hb => ?_⟩
      rcases Nat.lt_or_ge j (m + 2) with r | r
      · exact h4 j ha (by omega)
      · rw [show j = m + 2 by omega]; omega
/-! reading finds the letters again: what is written, as a number -/
theorem v16_cong {β β2 : Nat → Nat} : ∀ {n : Nat}, (∀ j, j < n → β j = β2 j) → v16 β n = v16 β2 n
  | 0, _ => rfl
  | n + 1, h => by rw [v16, v16, v16_cong (fun j hj => h j (by omega)), h n (by omega)]
def vl (bs : List Nat) : Nat := v16 (βl bs) bs.length
theorem vl_push (bs : List Nat) (x : Nat) : vl (bs ++ [x]) = vl bs * 2 + x := by
  unfold vl
  rw [List.length_append, List.length_singleton, v16]
  have e1 : v16 (βl (bs ++ [x])) bs.length = v16 (βl bs) bs.length := v16_cong (fun j hj => getD_app hj)
  have e2 : βl (bs ++ [x]) bs.length = x := by
    show (bs ++ [x]).getD bs.length 0 = x
    rw [List.getD_eq_getElem?_getD, List.getElem?_append_right (Nat.le_refl _), Nat.sub_self]
    rfl
  rw [e1, e2]
theorem wB_push (bs : List Nat) (w b : Nat) : wB bs (w + 1) b = wB bs w b ++ [1 - b] := by
  unfold wB
  rw [List.append_assoc, List.cons_append, ← List.replicate_succ']
theorem vl_wB0 (bs : List Nat) : ∀ w : Nat, vl (wB bs w 0) + 1 = (2 * vl bs + 1) * 2 ^ w
  | 0 => by
    show vl (bs ++ [0]) + 1 = _
    rw [vl_push, Nat.pow_zero]
    omega
  | w + 1 => by
    have h := vl_wB0 bs w
    rw [wB_push, vl_push, Nat.pow_succ, ← Nat.mul_assoc, ← h]
    omega
theorem vl_wB1 (bs : List Nat) : ∀ w : Nat, vl (wB bs w 1) = (2 * vl bs + 1) * 2 ^ w
  | 0 => by
    show vl (bs ++ [1]) = _
    rw [vl_push, Nat.pow_zero]
    omega
  | w + 1 => by
    have h := vl_wB1 bs w
    rw [wB_push, vl_push, Nat.pow_succ, ← Nat.mul_assoc, ← h]
    omega
def eO (bs : List Nat) (w : Nat) : Nat := (2 * vl bs + 1) * 2 ^ w
theorem eO_pos (bs : List Nat) (w : Nat) : 1 ≤ eO bs w := Nat.mul_pos (Nat.succ_pos _) (Nat.two_pow_pos w)
theorem eO_wait (bs : List Nat) (w : Nat) : eO bs (w + 1) = 2 * eO bs w := by
  unfold eO
  rw [Nat.pow_succ, ← Nat.mul_assoc, Nat.mul_comm]
theorem eO_0 (bs : List Nat) (w : Nat) : eO (wB bs w 0) 0 + 1 = 2 * eO bs w := by
  have h := vl_wB0 bs w
  unfold eO
  rw [Nat.pow_zero, ← h]
  omega
theorem eO_1 (bs : List Nat) (w : Nat) : eO (wB bs w 1) 0 = 2 * eO bs w + 1 := by
  have h := vl_wB1 bs w
  unfold eO
  rw [Nat.pow_zero, ← h]
  omega
/-- a row of bits stays within the span, at the place where a coder stands -/
def inP (β : Nat → Nat) (lo hi w : Nat) (bs : List Nat) : Prop := 32768 * eO bs w + lo ≤ v16 β (16 + (bs.length + w)) + 32768 ∧ v16 β (16 + (bs.length + w)) + 32768 ≤ 32768 * eO bs w + hi
theorem inP_nr {β : Nat → Nat} (hβ : ∀ j, β j < 2) : ∀ (m lo hi w : Nat) (bs : List Nat), lo ≤ hi → inP β (nr m lo hi w bs).1 (nr m lo hi w bs).2.1 (nr m lo hi w bs).2.2.1 (nr m lo hi w bs).2.2.2 → inP β lo hi w bs
  | 0, lo, hi, w, bs, _, h => h
  | m + 1, lo, hi, w, bs, hl, h => by
    have hc := wO_cases lo hi
    by_cases h1 : wO lo hi = 1
    · rw [nr_stop h1] at h; exact h
    · have hb := hβ (16 + (bs.length + w))
      have e : v16 β (16 + (bs.length + w) + 1) = v16 β (16 + (bs.length + w)) * 2 + β (16 + (bs.length + w)) := rfl
      by_cases h2 : wO lo hi = 16384
      · rw [nr_wait h2] at h
        have h3 := inP_nr hβ m _ _ _ _ (by omega) h
        unfold inP at h3 ⊢
        rw [eO_wait, show 16 + (bs.length + (w + 1)) = 16 + (bs.length + w) + 1 by omega, e] at h3
        omega
      · rw [nr_bit h1 h2] at h
        have h3 := inP_nr hβ m _ _ _ _ (by omega) h
        unfold inP at h3 ⊢
        rw [wB_len, show 16 + (bs.length + 1 + w + 0) = 16 + (bs.length + w) + 1 by omega, e] at h3
        by_cases h4 : wO lo hi = 32768
        · rw [if_pos h4, eO_1] at h3
          omega
        · rw [if_neg h4] at h3
          have h5 := eO_0 bs w
          omega
theorem nv_nr {β : Nat → Nat} : ∀ (m lo hi w v : Nat) (bs : List Nat), lo ≤ v → v16 β (16 + (bs.length + w)) + 32768 = 32768 * eO bs w + v →
    ∃ v2, nv β m lo hi v (16 + (bs.length + w)) = ((nr m lo hi w bs).1, (nr m lo hi w bs).2.1, v2, 16 + ((nr m lo hi w bs).2.2.2.length + (nr m lo hi w bs).2.2.1)) ∧ v16 β (16 + ((nr m lo hi w bs).2.2.2.length + (nr m lo hi w bs).2.2.1)) + 32768 = 32768 * eO (nr m lo hi w bs).2.2.2 (nr m lo hi w bs).2.2.1 + v2
  | 0, lo, hi, w, v, bs, _, h => ⟨v, rfl, h⟩
  | m + 1, lo, hi, w, v, bs, hl, h => by
    have hc := wO_cases lo hi
    by_cases h1 : wO lo hi = 1
    · rw [nr_stop h1, nv_stop h1]; exact ⟨v, rfl, h⟩
    · have e : v16 β (16 + (bs.length + w) + 1) = v16 β (16 + (bs.length + w)) * 2 + β (16 + (bs.length + w)) := rfl
      rw [nv_go h1]
      by_cases h2 : wO lo hi = 16384
      · rw [nr_wait h2]
        exact nv_nr m ((lo - wO lo hi) * 2) ((hi - wO lo hi) * 2 + 1) (w + 1) ((v - wO lo hi) * 2 + β (16 + (bs.length + w))) bs (by omega) (by
          rw [eO_wait, show 16 + (bs.length + (w + 1)) = 16 + (bs.length + w) + 1 by omega, e]
          omega)
      · rw [nr_bit h1 h2]
        have ek : 16 + (bs.length + w) + 1 = 16 + ((wB bs w (if wO lo hi = 32768 then 1 else 0)).length + 0) := by rw [wB_len]; omega
        have h3 : v16 β (16 + (bs.length + w) + 1) + 32768 = 32768 * eO (wB bs w (if wO lo hi = 32768 then 1 else 0)) 0 + ((v - wO lo hi) * 2 + β (16 + (bs.length + w))) := by
          rw [e]
          by_cases h4 : wO lo hi = 32768
          · rw [if_pos h4, eO_1]
            omega
          · rw [if_neg h4]
            have h5 := eO_0 bs w
            omega
        rw [ek] at h3 ⊢
        exact nv_nr m ((lo - wO lo hi) * 2) ((hi - wO lo hi) * 2 + 1) 0 ((v - wO lo hi) * 2 + β (16 + (bs.length + w))) (wB bs w (if wO lo hi = 32768 then 1 else 0)) (by omega) h3
/-- spans of two letters are apart: a number tells one letter -/
theorem sh_apart {f : Nat → Nat} {t k k2 lo hi : Nat} (hc : okC f t) (hk : k < 9) (hk2 : k2 < k) (hs : lo ≤ hi ∧ hi ≤ 65535) (hw : t ≤ hi - lo + 1) : shU f t k2 lo hi < shL f t k lo hi := by
  have h := shU_ge hc (show k2 < 9 by omega) hs hw
  have h1 : cB f k2 + f k2 ≤ cB f k := cB_le hk2
  have h2 : (hi - lo + 1) * (cB f k2 + f k2) / t ≤ (hi - lo + 1) * cB f k / t := Nat.div_le_div_right (Nat.mul_le_mul_left _ h1)
  unfold shL shU
  generalize (hi - lo + 1) * (cB f k2 + f k2) / t = X1 at *
  generalize (hi - lo + 1) * cB f k / t = X2 at *
  omega
theorem lwX_eq {f : Nat → Nat} {t k lo hi v : Nat} (hc : okC f t) (hk : k < 9) (hs : lo ≤ hi ∧ hi ≤ 65535) (hw : t ≤ hi - lo + 1) (h : shL f t k lo hi ≤ v ∧ v ≤ shU f t k lo hi) : lwX f t lo hi v = k := by
  have h1 := sh_ok hc hk hs hw
  have h2 := lwX_in (f := f) (t := t) (lo := lo) (hi := hi) (v := v) hc ⟨by omega, by omega⟩
  rcases Nat.lt_trichotomy (lwX f t lo hi v) k with q | q | q
  · have := sh_apart hc hk q hs hw
    omega
  · exact q
  · have := sh_apart hc h2.1 q hs hw
    omega
/-- how many doublings there are -/
theorem nr_cnt : ∀ (m lo hi w : Nat) (bs : List Nat), lo ≤ hi ∧ hi ≤ 65535 → ∃ j, (nr m lo hi w bs).2.2.2.length + (nr m lo hi w bs).2.2.1 = bs.length + w + j ∧ (hi - lo + 1) * 2 ^ j ≤ 65536
  | 0, lo, hi, w, bs, h => ⟨0, rfl, by rw [Nat.pow_zero]; omega⟩
  | m + 1, lo, hi, w, bs, h => by
    have hc := wO_cases lo hi
    by_cases h1 : wO lo hi = 1
    · rw [nr_stop h1]; exact ⟨0, rfl, by rw [Nat.pow_zero]; omega⟩
    · have hs : (lo - wO lo hi) * 2 ≤ (hi - wO lo hi) * 2 + 1 ∧ (hi - wO lo hi) * 2 + 1 ≤ 65535 := by omega
      have e2 : (hi - wO lo hi) * 2 + 1 - (lo - wO lo hi) * 2 + 1 = (hi - lo + 1) * 2 := by omega
      by_cases h2 : wO lo hi = 16384
      · rw [nr_wait h2]
        obtain ⟨j, hj, hq⟩ := nr_cnt m _ _ (w + 1) bs hs
        rw [e2, Nat.mul_assoc, ← Nat.pow_succ'] at hq
        exact ⟨j + 1, by rw [hj]; omega, hq⟩
      · rw [nr_bit h1 h2]
        obtain ⟨j, hj, hq⟩ := nr_cnt m _ _ 0 (wB bs w (if wO lo hi = 32768 then 1 else 0)) hs
        rw [e2, Nat.mul_assoc, ← Nat.pow_succ'] at hq
        rw [wB_len] at hj
        exact ⟨j + 1, by rw [hj]; omega, hq⟩
/-- the end leaves at least four numbers: it takes no more than fourteen doublings -/
theorem end_wide {s : CS} (h : okS s) : 4 ≤ shU (sF s) (sT s) 8 (sL s) (sU s) - shL (sF s) (sT s) 8 (sL s) (sU s) + 1 := by
  have h1 := shU_ge h.1 (by decide : 8 < 9) ⟨h.2.1, h.2.2.1⟩ h.wide
  have h9 := h.1.t9
  have htm := h.1.2.2
  have hf := h.1.1 8 (by decide)
  have hwc := wO_cases (sL s) (sU s)
  have hw1 := h.2.2.2
  have hr : 16385 ≤ sU s - sL s + 1 := by omega
  have e1 : (sU s - sL s + 1) * (cB (sF s) 8 + sF s 8) = (sU s - sL s + 1) * cB (sF s) 8 + (sU s - sL s + 1) * sF s 8 := Nat.mul_add _ _ _
  have e2 : 16385 ≤ (sU s - sL s + 1) * sF s 8 := Nat.le_trans hr (Nat.le_mul_of_pos_right _ hf)
  have a1 : (sU s - sL s + 1) * cB (sF s) 8 / sT s + 4 ≤ (sU s - sL s + 1) * (cB (sF s) 8 + sF s 8) / sT s := by
    rw [← Nat.add_mul_div_right _ _ (show 0 < sT s by omega)]
    exact Nat.div_le_div_right (by omega)
  unfold shL shU
  generalize (sU s - sL s + 1) * (cB (sF s) 8 + sF s 8) / sT s = X1 at *
  generalize (sU s - sL s + 1) * cB (sF s) 8 / sT s = X2 at *
  omega
theorem end_len {s : CS} (h : okS s) : (sB (cEnd s)).length ≤ 16 + ((sB s).length + sW s) := by
  have hk := sh_ok h.1 (by decide : 8 < 9) ⟨h.2.1, h.2.2.1⟩ h.wide
  have h3 := h.2.2.1
  obtain ⟨j, hj, hq⟩ := nr_cnt 16 (shL (sF s) (sT s) 8 (sL s) (sU s)) (shU (sF s) (sT s) 8 (sL s) (sU s)) (sW s) (sB s) (by omega)
  have h4 : 4 * 2 ^ j ≤ 65536 := Nat.le_trans (Nat.mul_le_mul_right _ (end_wide h)) hq
  have hj14 : j ≤ 14 := by
    rcases Nat.lt_or_ge 14 j with q | q
    · have : 2 ^ 15 ≤ 2 ^ j := Nat.pow_le_pow_right (by decide) q
      omega
    · exact q
  have hj2 : (nrS s 8).2.2.2.length + (nrS s 8).2.2.1 = (sB s).length + sW s + j := hj
  show (wB _ _ _).length ≤ _
  rw [wB_len]
  omega
/-- the first letters of a message -/
def gl (g : Nat → Nat) : Nat → List Nat
  | 0 => []
  | n + 1 => gl g n ++ [g n]
theorem gl_len (g : Nat → Nat) : ∀ n : Nat, (gl g n).length = n
  | 0 => rfl
  | n + 1 => by rw [gl, List.length_append, List.length_singleton, gl_len g n]
theorem gl_get (g : Nat → Nat) : ∀ (n j : Nat), j < n → (gl g n).getD j 0 = g j
  | 0, j, h => absurd h (Nat.not_lt_zero j)
  | n + 1, j, h => by
    rw [gl]
    rcases Nat.lt_or_ge j n with q | q
    · rw [getD_app (by rw [gl_len]; exact q), gl_get g n j q]
    · have e : j = n := by omega
      subst e
      rw [List.getD_eq_getElem?_getD, List.getElem?_append_right (Nat.le_of_eq (gl_len g j)), gl_len, Nat.sub_self]
      rfl
/-- the number of a row, taken beyond its end -/
theorem v16_far (B : List Nat) : ∀ m : Nat, v16 (βl B) (B.length + m) = vl B * 2 ^ m
  | 0 => by rw [Nat.pow_zero, Nat.mul_one]; rfl
  | m + 1 => by
    have e : βl B (B.length + m) = 0 := by
      show B.getD (B.length + m) 0 = 0
      rw [List.getD_eq_getElem?_getD, List.getElem?_eq_none (Nat.le_add_right _ _)]
      rfl
    show v16 (βl B) (B.length + m) * 2 + βl B (B.length + m) = _
    rw [v16_far B m, e, Nat.add_zero, Nat.pow_succ, Nat.mul_assoc]
/-- the row that an end writes lies in the span that the end left -/
theorem inP_end {s : CS} (h : okS s) : inP (βl (sB (cEnd s))) (nrS s 8).1 (nrS s 8).2.1 (nrS s 8).2.2.1 (nrS s 8).2.2.2 := by
  have hn := nrS_ok h (by decide : 8 < 9)
  have hc := wO_cases (nrS s 8).1 (nrS s 8).2.1
  show inP (βl (wB (nrS s 8).2.2.2 ((nrS s 8).2.2.1 + 1) (if (nrS s 8).1 < 16384 then 0 else 1))) (nrS s 8).1 (nrS s 8).2.1 (nrS s 8).2.2.1 (nrS s 8).2.2.2
  generalize (nrS s 8).1 = lo at *
  generalize (nrS s 8).2.1 = hi at *
  generalize (nrS s 8).2.2.1 = w at *
  generalize (nrS s 8).2.2.2 = bs at *
  unfold inP
  by_cases q : lo < 16384
  · rw [if_pos q]
    have h1 := v16_far (wB bs (w + 1) 0) 14
    rw [wB_len] at h1
    have h2 : vl (wB bs (w + 1) 0) + 1 = eO bs (w + 1) := vl_wB0 bs (w + 1)
    rw [eO_wait] at h2
    rw [show 16 + (bs.length + w) = bs.length + 1 + (w + 1) + 14 by omega, h1]
    have h3 : vl (wB bs (w + 1) 0) * 2 ^ 14 = vl (wB bs (w + 1) 0) * 16384 := rfl
    omega
  · rw [if_neg q]
    have h1 := v16_far (wB bs (w + 1) 1) 14
    rw [wB_len] at h1
    have h2 : vl (wB bs (w + 1) 1) = eO bs (w + 1) := vl_wB1 bs (w + 1)
    rw [eO_wait] at h2
    rw [show 16 + (bs.length + w) = bs.length + 1 + (w + 1) + 14 by omega, h1]
    have h3 : vl (wB bs (w + 1) 1) * 2 ^ 14 = vl (wB bs (w + 1) 1) * 16384 := rfl
    omega
theorem inP_cut {β : Nat → Nat} {lo hi lo2 hi2 w : Nat} {bs : List Nat} (h : inP β lo2 hi2 w bs) (h1 : lo ≤ lo2) (h2 : hi2 ≤ hi) : inP β lo hi w bs := by
  unfold inP at h ⊢
  omega
abbrev inS (β : Nat → Nat) (s : CS) : Prop := inP β (sL s) (sU s) (sW s) (sB s)
abbrev inK (β : Nat → Nat) (s : CS) (k : Nat) : Prop := inP β (shL (sF s) (sT s) k (sL s) (sU s)) (shU (sF s) (sT s) k (sL s) (sU s)) (sW s) (sB s)
theorem inK_of {β : Nat → Nat} {s : CS} {k : Nat} (hβ : ∀ j, β j < 2) (h : okS s) (hk : k < 9) (hq : inP β (nrS s k).1 (nrS s k).2.1 (nrS s k).2.2.1 (nrS s k).2.2.2) : inK β s k :=
  inP_nr hβ 16 _ _ _ _ (sh_ok h.1 hk ⟨h.2.1, h.2.2.1⟩ h.wide).2.1 hq
theorem inK.up {β : Nat → Nat} {s : CS} {k : Nat} (h : okS s) (hk : k < 9) (hq : inK β s k) : inS β s :=
  inP_cut hq (sh_ok h.1 hk ⟨h.2.1, h.2.2.1⟩ h.wide).1 (sh_ok h.1 hk ⟨h.2.1, h.2.2.1⟩ h.wide).2.2
theorem inS_back {p b : Nat} {β g : Nat → Nat} (hβ : ∀ j, β j < 2) (hp : p ≤ 64) (hb : b ≤ 2000) : ∀ (d n : Nat), (∀ j, j < n + d → g j < 8) → inS β (cR p b g (n + d)) → inS β (cR p b g n)
  | 0, n, _, h => h
  | d + 1, n, hg, h => by
    have hS := cR_ok (n := n + d) hp hb (fun j hj => hg j (by omega))
    have hk : g (n + d) < 9 := by have := hg (n + d) (by omega); omega
    exact inS_back hβ hp hb d n (fun j hj => hg j (by omega)) (inK.up hS hk (inK_of hβ hS hk h))
/-- a reader that stands where the writer stood behind i letters -/
def atI (p b : Nat) (g β : Nat → Nat) (i : Nat) (s : RS) : Prop := qF s = sF (cR p b g i) ∧ qT s = sT (cR p b g i) ∧ qH s = sH (cR p b g i) ∧ qL s = sL (cR p b g i) ∧ qU s = sU (cR p b g i) ∧ qK s = 16 + ((sB (cR p b g i)).length + sW (cR p b g i)) ∧ v16 β (16 + ((sB (cR p b g i)).length + sW (cR p b g i))) + 32768 = 32768 * eO (sB (cR p b g i)) (sW (cR p b g i)) + qV s ∧ qR s = gl g i
theorem atI_0 (p b : Nat) (g β : Nat → Nat) : atI p b g β 0 (rd0 β) := by
  refine ⟨rfl, rfl, rfl, rfl, rfl, rfl, ?_, rfl⟩
  have e : eO (sB (cR p b g 0)) (sW (cR p b g 0)) = 1 := rfl
  rw [e]
  show v16 β 16 + 32768 = 32768 * 1 + v16 β 16
  omega
theorem atI.letter {p b i k : Nat} {g β : Nat → Nat} {s : RS} (h : atI p b g β i s) (hS : okS (cR p b g i)) (hk : k < 9) (hq : inK β (cR p b g i) k) : lwS s = k := by
  obtain ⟨a1, a2, a3, a4, a5, a6, a7, a8⟩ := h
  unfold lwS
  rw [a1, a2, a4, a5]
  unfold inK inP at hq
  exact lwX_eq hS.1 hk ⟨hS.2.1, hS.2.2.1⟩ hS.wide (by omega)
theorem atI.step {p b i : Nat} {g β : Nat → Nat} {s : RS} (h : atI p b g β i s) (hS : okS (cR p b g i)) (hk : g i < 9) (hq : inK β (cR p b g i) (g i)) : atI p b g β (i + 1) (rStep p b β s) := by
  have hl := h.letter hS hk hq
  obtain ⟨a1, a2, a3, a4, a5, a6, a7, a8⟩ := h
  unfold inK inP at hq
  obtain ⟨v2, e1, e2⟩ := nv_nr (β := β) 16 (shL (sF (cR p b g i)) (sT (cR p b g i)) (g i) (sL (cR p b g i)) (sU (cR p b g i))) (shU (sF (cR p b g i)) (sT (cR p b g i)) (g i) (sL (cR p b g i)) (sU (cR p b g i))) (sW (cR p b g i)) (qV s) (sB (cR p b g i)) (by omega) a7
  have hN : nvS β s (lwS s) = ((nrS (cR p b g i) (g i)).1, (nrS (cR p b g i) (g i)).2.1, v2, 16 + ((nrS (cR p b g i) (g i)).2.2.2.length + (nrS (cR p b g i) (g i)).2.2.1)) := by
    unfold nvS
    rw [hl, a1, a2, a4, a5, a6]
    exact e1
  refine ⟨?_, ?_, ?_, ?_, ?_, ?_, ?_, ?_⟩
  · show lrF p b (qF s) (qT s) (lwS s) = _
    rw [a1, a2, hl]; rfl
  · show lrT p b (qF s) (qT s) (lwS s) = _
    rw [a1, a2, hl]; rfl
  · show lrH p b (qT s) (qH s) = _
    rw [a2, a3]; rfl
  · show (nvS β s (lwS s)).1 = _
    rw [hN]; rfl
  · show (nvS β s (lwS s)).2.1 = _
    rw [hN]; rfl
  · show (nvS β s (lwS s)).2.2.2 = _
    rw [hN]; rfl
  · show _ = _ + (nvS β s (lwS s)).2.2.1
    rw [hN]; exact e2
  · show qR s ++ [lwS s] = gl g i ++ [g i]
    rw [a8, hl]
theorem rdd_back {p b n : Nat} {g β : Nat → Nat} (hβ : ∀ j, β j < 2) (hp : p ≤ 64) (hb : b ≤ 2000) (hn : n ≤ 40) (hg : ∀ j, j < n → g j < 8) (hE : inK β (cR p b g n) 8) : ∀ (d i m : Nat) (s : RS), i + d = n → d < m → atI p b g β i s → ∃ s2, rdd p b β m s = (1, s2) ∧ atI p b g β n s2
  | d, i, 0, s, _, hm, _ => absurd hm (Nat.not_lt_zero d)
  | 0, i, m + 1, s, hi, _, h => by
    have e : i = n := by omega
    subst e
    have hl := h.letter (cR_ok hp hb hg) (by decide) hE
    exact ⟨s, rdd_end hl, h⟩
  | d + 1, i, m + 1, s, hi, hm, h => by
    have hS := cR_ok (n := i) hp hb (fun j hj => hg j (by omega))
    have hk := hg i (by omega)
    have hSn := cR_ok hp hb hg
    have h1 : inS β (cR p b g (i + 1)) := inS_back hβ hp hb d (i + 1) (fun j hj => hg j (by omega)) (by rw [show i + 1 + d = n by omega]; exact inK.up hSn (by decide) hE)
    have h2 : inK β (cR p b g i) (g i) := inK_of hβ hS (by omega) h1
    have hl := h.letter hS (by omega) h2
    have hr : (qR s).length = i := by rw [h.2.2.2.2.2.2.2, gl_len]
    rw [rdd_go (by omega) (by omega)]
    exact rdd_back hβ hp hb hn hg hE d (i + 1) m _ (by omega) (by omega) (h.step hS (by omega) h2)
/-- an ended message is read again whole, and all its bits are taken -/
theorem rdF_end {p b n : Nat} {g : Nat → Nat} (hp : p ≤ 64) (hb : b ≤ 2000) (hn : n ≤ 40) (hg : ∀ j, j < n → g j < 8) : (rdF p b (βl (sB (cEnd (cR p b g n))))).1 = 1 ∧ qR (rdF p b (βl (sB (cEnd (cR p b g n))))).2 = gl g n ∧ (sB (cEnd (cR p b g n))).length ≤ qK (rdF p b (βl (sB (cEnd (cR p b g n))))).2 := by
  have hS := cR_ok hp hb hg
  have hβ := β2 (cEnd_bits (s := cR p b g n) (cR_bits p b g n))
  have hE : inK (βl (sB (cEnd (cR p b g n)))) (cR p b g n) 8 := inK_of hβ hS (by decide) (inP_end hS)
  obtain ⟨s2, e, h⟩ := rdd_back hβ hp hb hn hg hE n 0 41 (rd0 (βl (sB (cEnd (cR p b g n))))) (Nat.zero_add n) (by omega) (atI_0 p b g _)
  have e2 : rdF p b (βl (sB (cEnd (cR p b g n)))) = (1, s2) := e
  rw [e2]
  refine ⟨rfl, h.2.2.2.2.2.2.2, ?_⟩
  show _ ≤ qK s2
  rw [h.2.2.2.2.2.1]
  exact end_len hS
/-! texts -/
theorem nv_k {β : Nat → Nat} : ∀ (m lo hi v tk : Nat), tk ≤ (nv β m lo hi v tk).2.2.2
  | 0, lo, hi, v, tk => Nat.le_refl _
  | m + 1, lo, hi, v, tk => by
    by_cases h1 : wO lo hi = 1
    · rw [nv_stop h1]; exact Nat.le_refl _
    · rw [nv_go h1]
      have := nv_k (β := β) m ((lo - wO lo hi) * 2) ((hi - wO lo hi) * 2 + 1) ((v - wO lo hi) * 2 + β tk) (tk + 1)
      omega
theorem rdd_k {p b : Nat} {β : Nat → Nat} : ∀ (m : Nat) (s : RS), qK s ≤ qK (rdd p b β m s).2
  | 0, s => Nat.le_refl _
  | m + 1, s => by
    by_cases h1 : lwS s = 8
    · rw [rdd_end h1]; exact Nat.le_refl _
    · by_cases h2 : (qR s).length < 40
      · rw [rdd_go h1 h2]
        have h3 : qK s ≤ qK (rStep p b β s) := nv_k 16 _ _ _ _
        exact Nat.le_trans h3 (rdd_k m _)
      · rw [rdd_full h1 h2]; exact Nat.le_refl _
theorem bT_wT {B : List Nat} (h : bits01 B) : bT (wT B) = βl B := by
  funext j
  unfold bT
  rw [wT_len]
  by_cases q : j < B.length
  · rw [if_pos q, wT_get q]
    have h1 := h.getD j
    show _ = B.getD j 0
    by_cases r : 48 + B.getD j 0 = 49
    · rw [if_pos r]; omega
    · rw [if_neg r]; omega
  · rw [if_neg q]
    show 0 = B.getD j 0
    rw [List.getD_eq_getElem?_getD, List.getElem?_eq_none (Nat.not_lt.mp q)]
    rfl
theorem stA_all {f : Nat → Nat} : ∀ (m j : Nat), (∀ i, i < j + m → f i = 48 ∨ f i = 49) → stA f m j = j + m
  | 0, j, _ => rfl
  | m + 1, j, h => by
    rw [stA, if_pos (h j (by omega)), stA_all m (j + 1) (fun i hi => h i (by omega))]
    omega
def t01 (T : List Nat) : Prop := ∀ j, j < T.length → T.getD j 0 = 48 ∨ T.getD j 0 = 49
theorem stT_all {T : List Nat} (h : t01 T) : stT T = T.length := by
  have := stA_all (f := βl T) T.length 0 (fun i hi => h i (by omega))
  unfold stT st
  omega
theorem t01_wT {B : List Nat} (h : bits01 B) : t01 (wT B) := fun j hj => by
  rw [wT_len] at hj
  have := h.getD j
  rw [wT_get hj]
  omega
theorem t01_nil : t01 [] := fun j h => absurd h (Nat.not_lt_zero j)
theorem t01_push {T : List Nat} {x : Nat} (h : t01 T) (hx : x = 48 ∨ x = 49) : t01 (T ++ [x]) := fun j hj => by
  rw [List.length_append, List.length_singleton] at hj
  rcases Nat.lt_or_ge j T.length with q | q
  · rw [getD_app q]; exact h j q
  · have e : j = T.length := by omega
    subst e
    rw [List.getD_eq_getElem?_getD, List.getElem?_append_right (Nat.le_refl _), Nat.sub_self]
    exact hx
theorem t01.lt {T : List Nat} (h : t01 T) : ∀ j, j < T.length → T.getD j 0 < 1000 := fun j hj => by
  have := h j hj
  omega
theorem frn_own {p b n : Nat} {g : Nat → Nat} (hp : p ≤ 64) (hb : b ≤ 2000) (hn : n ≤ 40) (hg : ∀ j, j < n → g j < 8) : frn p b (wT (sB (cEnd (cR p b g n)))) = 0 ∧ qR (rdF p b (bT (wT (sB (cEnd (cR p b g n)))))).2 = gl g n := by
  have hB := cEnd_bits (s := cR p b g n) (cR_bits p b g n)
  have h := rdF_end hp hb hn hg
  unfold frn
  rw [bT_wT hB, wT_len, if_pos h.1, fO_end h.2.2, if_neg (Nat.lt_irrefl _)]
  exact ⟨rfl, h.2.1⟩
theorem fOA_ge (g : Nat → Nat) : ∀ (m j : Nat), j ≤ fOA g m j
  | 0, j => Nat.le_refl _
  | m + 1, j => by
    rw [fOA]
    by_cases q : g j = 1
    · rw [if_pos q]; exact Nat.le_refl _
    · rw [if_neg q]; have := fOA_ge g m (j + 1); omega
theorem frn_3i {p b : Nat} {T : List Nat} (h : frn p b T = 3) : 16 ≤ fO (bT T) T.length (qK (rdF p b (bT T)).2) ∧ fO (bT T) T.length (qK (rdF p b (bT T)).2) < T.length := by
  have hk : 16 ≤ qK (rdF p b (bT T)).2 := rdd_k 41 (rd0 (bT T))
  unfold frn at h
  by_cases q : (rdF p b (bT T)).1 = 1
  · rw [if_pos q] at h
    by_cases r : fO (bT T) T.length (qK (rdF p b (bT T)).2) < T.length
    · refine ⟨?_, r⟩
      unfold fO at r ⊢
      by_cases z : T.length ≤ qK (rdF p b (bT T)).2
      · rw [if_pos z] at r; exact absurd r (Nat.lt_irrefl _)
      · rw [if_neg z]; exact Nat.le_trans hk (fOA_ge _ _ _)
    · rw [if_neg r] at h; exact absurd h (by decide)
  · rw [if_neg q] at h; exact absurd h (by decide)
theorem alA_all {f g : Nat → Nat} : ∀ (m j : Nat), (∀ i, i < j + m → f i = g i) → alA f g m j = j + m
  | 0, j, _ => rfl
  | m + 1, j, h => by
    rw [alA, if_pos (h j (by omega)), alA_all m (j + 1) (fun i hi => h i (by omega))]
    omega
theorem alk_all {f g : Nat → Nat} {m : Nat} (h : ∀ i, i < m → f i = g i) : alk f g m = m := by
  have := alA_all m 0 (fun i hi => h i (by omega))
  unfold alk
  omega
