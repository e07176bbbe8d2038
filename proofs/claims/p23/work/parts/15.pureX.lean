/-! what the public methods answer -/
theorem neg_ne0 {x : Int32} (h : x.toInt < 0) : ¬ x = 0 := fun z => by rw [z] at h; exact absurd h (by decide)
def βl (l : List Nat) : Nat → Nat := fun j => l.getD j 0
theorem rep_β {g : Nat → Nat} {l : List Nat} (h : rep g l) : ∀ j, (if j < l.length then g j else 0) = βl l j := by
  intro j
  by_cases q : j < l.length
  · rw [if_pos q]; exact h j q
  · rw [if_neg q]
    show 0 = l.getD j 0
    rw [List.getD_eq_getElem?_getD, List.getElem?_eq_none (Nat.not_lt.mp q)]
    rfl
theorem β2 {l : List Nat} (h : bits01 l) : ∀ j, βl l j < 2 := fun j => h.getD j
theorem cM_bits (p b : Nat) (g : Nat → Nat) (n e : Nat) : bits01 (sB (cM p b g n e)) := by
  unfold cM
  by_cases q : e = 1
  · rw [if_pos q]; exact cEnd_bits (cR_bits p b g n)
  · rw [if_neg q]; exact cR_bits p b g n
theorem cM_len (p b : Nat) (g : Nat → Nat) {n e : Nat} (hn : n ≤ 40) : (sB (cM p b g n e)).length ≤ 658 := by
  have h1 := cR_len p b g n
  have h2 := cEnd_len (cR p b g n)
  unfold cM
  by_cases q : e = 1
  · rw [if_pos q]; omega
  · rw [if_neg q]; omega
theorem cM_0 (p b : Nat) (g : Nat → Nat) (n : Nat) : cM p b g n 0 = cR p b g n := if_neg (by decide)
theorem cM_1 (p b : Nat) (g : Nat → Nat) (n : Nat) : cM p b g n 1 = cEnd (cR p b g n) := if_pos rfl
/-- the bits that a message's letters would make, ended -/
def bE (p b : Nat) (g : Nat → Nat) (n : Nat) : Nat := (sB (cEnd (cR p b g n))).length
theorem bE_le (p b : Nat) (g : Nat → Nat) {n : Nat} (hn : n ≤ 40) : bE p b g n ≤ 658 := by
  have h1 := cR_len p b g n
  have h2 := cEnd_len (cR p b g n)
  unfold bE
  omega
/-- the pace that makes the fewest, among 1 to m + 1; and how many -/
def bp (F : Nat → Nat) : Nat → Nat × Nat
  | 0 => (1, F 1)
  | m + 1 => if F (m + 2) < (bp F m).2 then (m + 2, F (m + 2)) else bp F m
theorem bp_le {F : Nat → Nat} (h : ∀ j, F j ≤ 658) : ∀ m : Nat, (bp F m).2 ≤ 658 ∧ (bp F m).1 ≤ m + 1
  | 0 => ⟨h 1, Nat.le_refl _⟩
  | m + 1 => by
    have h1 := bp_le h m
    have h2 := h (m + 2)
    rw [bp]
    by_cases q : F (m + 2) < (bp F m).2
    · rw [if_pos q]; exact ⟨h2, Nat.le_refl _⟩
    · rw [if_neg q]; exact ⟨h1.1, by omega⟩
/-- how many letters, from the first on, are the message's -/
def alA (f g : Nat → Nat) : Nat → Nat → Nat
  | 0, j => j
  | m + 1, j => if f j = g j then alA f g m (j + 1) else j
def alk (f g : Nat → Nat) (m : Nat) : Nat := alA f g m 0
theorem alA_cong {f f' g g' : Nat → Nat} : ∀ (m j : Nat), (∀ i, i < j + m → f i = f' i) → (∀ i, i < j + m → g i = g' i) → alA f g m j = alA f' g' m j
  | 0, j, _, _ => rfl
  | m + 1, j, h1, h2 => by rw [alA, alA, h1 j (by omega), h2 j (by omega), alA_cong m (j + 1) (fun i hi => h1 i (by omega)) (fun i hi => h2 i (by omega))]
theorem alk_cong {f f' g g' : Nat → Nat} {m : Nat} (h1 : ∀ i, i < m → f i = f' i) (h2 : ∀ i, i < m → g i = g' i) : alk f g m = alk f' g' m := alA_cong m 0 (fun i hi => h1 i (by omega)) (fun i hi => h2 i (by omega))
theorem stA_cong {f f' : Nat → Nat} : ∀ (m j : Nat), (∀ i, i < j + m → f i = f' i) → stA f m j = stA f' m j
  | 0, j, _ => rfl
  | m + 1, j, h1 => by rw [stA, stA, h1 j (by omega), stA_cong m (j + 1) (fun i hi => h1 i (by omega))]
theorem st_cong {f f' : Nat → Nat} {n : Nat} (h1 : ∀ i, i < n → f i = f' i) : st f n = st f' n := stA_cong n 0 (fun i hi => h1 i (by omega))
theorem fOA_cong {g g' : Nat → Nat} : ∀ (m j : Nat), (∀ i, i < j + m → g i = g' i) → fOA g m j = fOA g' m j
  | 0, j, _ => rfl
  | m + 1, j, h1 => by rw [fOA, fOA, h1 j (by omega), fOA_cong m (j + 1) (fun i hi => h1 i (by omega))]
theorem fO_cong {g g' : Nat → Nat} {n j : Nat} (h1 : ∀ i, i < n → g i = g' i) : fO g n j = fO g' n j := by
  unfold fO
  by_cases q : n ≤ j
  · rw [if_pos q, if_pos q]
  · rw [if_neg q, if_neg q, fOA_cong (n - j) j (fun i hi => h1 i (by omega))]
theorem mxF_cong {f f' : Nat → Nat} : ∀ {n : Nat}, (∀ i, i < n → f i = f' i) → mxF f n = mxF f' n
  | 0, _ => rfl
  | n + 1, h => by rw [mxF, mxF, mxF_cong (fun i hi => h i (by omega)), h n (by omega)]
theorem hO_cong {g g' : Nat → Nat} {k : Nat} : ∀ {n : Nat}, (∀ i, i < n → g i = g' i) → hO g k n = hO g' k n
  | 0, _ => rfl
  | n + 1, h => by rw [hO, hO, hO_cong (fun i hi => h i (by omega)), h n (by omega)]
/-- a text's first strange character, its bits, its fault -/
def stT (T : List Nat) : Nat := st (βl T) T.length
def bT (T : List Nat) : Nat → Nat := fun j => if j < T.length then (if T.getD j 0 = 49 then 1 else 0) else 0
theorem bT2 (T : List Nat) : ∀ j, bT T j < 2 := fun j => by
  unfold bT
  by_cases q : j < T.length
  · rw [if_pos q]
    by_cases r : T.getD j 0 = 49
    · rw [if_pos r]; decide
    · rw [if_neg r]; decide
  · rw [if_neg q]; decide
def frn (p b : Nat) (T : List Nat) : Nat := if (rdF p b (bT T)).1 = 1 then (if fO (bT T) T.length (qK (rdF p b (bT T)).2) < T.length then 3 else 0) else 2
theorem cost_le (p b : Nat) (g : Nat → Nat) {j : Nat} (hj : j < 40) : cost p b g j ≤ 640 := by
  have h1 := cR_len p b g (j + 1)
  unfold cost
  omega
theorem fOA_le (g : Nat → Nat) : ∀ (m j : Nat), fOA g m j ≤ j + m
  | 0, j => Nat.le_refl _
  | m + 1, j => by
    rw [fOA]
    by_cases q : g j = 1
    · rw [if_pos q]; omega
    · rw [if_neg q]; have := fOA_le g m (j + 1); omega
theorem fO_le (g : Nat → Nat) (n j : Nat) : fO g n j ≤ n := by
  unfold fO
  by_cases q : n ≤ j
  · rw [if_pos q]; exact Nat.le_refl _
  · rw [if_neg q]; have := fOA_le g (n - j) j; omega
theorem stA_le (f : Nat → Nat) : ∀ (m j : Nat), stA f m j ≤ j + m
  | 0, j => Nat.le_refl _
  | m + 1, j => by
    rw [stA]
    by_cases q : f j = 48 ∨ f j = 49
    · rw [if_pos q]; have := stA_le f m (j + 1); omega
    · rw [if_neg q]; omega
theorem st_le (f : Nat → Nat) (n : Nat) : st f n ≤ n := by have := stA_le f n 0; unfold st; omega
