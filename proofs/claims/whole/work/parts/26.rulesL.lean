/-! the law's own rows, and what a change does to the history on both sides -/
section VV4
variable {p : Program} {l : Launch} {e : Env} {R : Room} {s : State} {m : MethodId} {args : Array Value} {below : List Frame} {meth : Method} {c : Code} {D : va_G} {A : Nat → Prop} {H0 : Heap} {nL : Nat} {Q : State → Prop} {ws : va_W} {lv : List (Nat × Value)} {cells slots pc : Nat} {rest st : List Value} {cc : ByteArray} {own : String} {tys : List (ClassId × FieldType)}
theorem V_sld (C : Cx p s m args c cc nL own D tys A H0) {b L : Nat} {xs : Nat → Int32} (hX : va_X b L xs s H0) (hbl : b < H0.size) (hbA : ¬ A b) {i : Nat} {v : Int32} (hi : i < L) (hL : L < 2147483648) (hv : xs i = v) (d : decode cc pc = .ok (.iaload, 1)) (K : V p l e R s m args below meth c D A H0 nL Q ws lv cells slots (pc + 1) (.int v :: rest)) : V p l e R s m args below meth c D A H0 nL Q ws lv cells slots pc (.int (nI i) :: .ref b :: rest) := fun H locs ls hP hD hS hl =>
  va_sld C.1.1 C.1.2.1 hX hbl hbA hS (vp_in_nI hi hL) d (by rw [nI_clamp (Nat.lt_trans hi hL), hv]; exact K H locs ls hP hD hS hl)
theorem V_slen (C : Cx p s m args c cc nL own D tys A H0) {b L : Nat} {xs : Nat → Int32} (hX : va_X b L xs s H0) (hbl : b < H0.size) (hbA : ¬ A b) (d : decode cc pc = .ok (.arraylength, 1)) (K : V p l e R s m args below meth c D A H0 nL Q ws lv cells slots (pc + 1) (.int (nI L) :: rest)) : V p l e R s m args below meth c D A H0 nL Q ws lv cells slots pc (.ref b :: rest) := fun H locs ls hP hD hS hl =>
  va_slen C.1.1 C.1.2.1 hX hbl hbA hS d (K H locs ls hP hD hS hl)
theorem V_isubR (C : Cx p s m args c cc nL own D tys A H0) {x y : Int32} (d : decode cc pc = .ok (.isub, 1)) (K : V p l e R s m args below meth c D A H0 nL Q ws lv cells slots (pc + 1) (.int (x - y) :: rest)) : V p l e R s m args below meth c D A H0 nL Q ws lv cells slots pc (.int y :: .int x :: rest) := fun H locs ls hP hD hS hl =>
  lv_isub C.1.1 C.1.2.1 d (K H locs ls hP hD hS hl)
theorem V_widen {k n : Nat} (h1 : cells ≤ k) (h2 : slots ≤ n) (K : V p l e R s m args below meth c D A H0 nL Q ws lv k n pc st) : V p l e R s m args below meth c D A H0 nL Q ws lv cells slots pc st := fun H locs ls hP hD hS hl => W.widen h1 h2 (K H locs ls hP hD hS hl)
end VV4
theorem frn_ne1 (p b : Nat) (T : List Nat) : frn p b T ≠ 1 := by
  unfold frn
  by_cases q : (rdF p b (bT T)).1 = 1
  · rw [if_pos q]
    by_cases r : fO (bT T) T.length (qK (rdF p b (bT T)).2) < T.length
    · rw [if_pos r]; decide
    · rw [if_neg r]; decide
  · rw [if_neg q]; decide
theorem hup_at {α : Type} (F : Nat → α) {sz k : Nat} (x : α) (P : α → Prop) (hx : P x) (hF : ∀ j, j < 4 → P (F j)) (hk : k < 4) (hz : sz ≤ 4) : P (hup F sz x k) := by
  unfold hup
  by_cases q : sz < 4
  · rw [if_pos q]
    by_cases r : k = sz
    · subst r; rw [va_up_self]; exact hx
    · rw [va_up_ne _ _ r]; exact hF k hk
  · rw [if_neg q]
    by_cases r : k = 3
    · subst r; rw [va_up_self]; exact hx
    · rw [va_up_ne _ _ r]; exact hF (k + 1) (by omega)
/-- a row of the history behind a change: an old one, moved or not, or the state before the change -/
theorem hup_cases {α β γ δ ε ζ : Type} {sz k : Nat} (hk : k < hsz sz) (hz : sz ≤ 4) (F1 : Nat → α) (x1 : α) (F2 : Nat → β) (x2 : β) (F3 : Nat → γ) (x3 : γ) (F4 : Nat → δ) (x4 : δ) (F5 : Nat → ε) (x5 : ε) (F6 : Nat → ζ) (x6 : ζ) (P : α → β → γ → δ → ε → ζ → Prop) (hx : P x1 x2 x3 x4 x5 x6) (hF : ∀ j, j < sz → P (F1 j) (F2 j) (F3 j) (F4 j) (F5 j) (F6 j)) : P (hup F1 sz x1 k) (hup F2 sz x2 k) (hup F3 sz x3 k) (hup F4 sz x4 k) (hup F5 sz x5 k) (hup F6 sz x6 k) := by
  unfold hsz at hk
  unfold hup
  by_cases q : sz < 4
  · rw [if_pos q] at hk
    rw [if_pos q, if_pos q, if_pos q, if_pos q, if_pos q, if_pos q]
    by_cases r : k = sz
    · subst r; rw [va_up_self, va_up_self, va_up_self, va_up_self, va_up_self, va_up_self]; exact hx
    · rw [va_up_ne _ _ r, va_up_ne _ _ r, va_up_ne _ _ r, va_up_ne _ _ r, va_up_ne _ _ r, va_up_ne _ _ r]; exact hF k (by omega)
  · rw [if_neg q] at hk
    rw [if_neg q, if_neg q, if_neg q, if_neg q, if_neg q, if_neg q]
    by_cases r : k = 3
    · subst r; rw [va_up_self, va_up_self, va_up_self, va_up_self, va_up_self, va_up_self]; exact hx
    · rw [va_up_ne _ _ r, va_up_ne _ _ r, va_up_ne _ _ r, va_up_ne _ _ r, va_up_ne _ _ r, va_up_ne _ _ r]; exact hF (k + 1) (by omega)
theorem hsz_le {sz : Nat} : hsz sz ≤ 4 := by
  unfold hsz
  by_cases q : sz < 4
  · rw [if_pos q]; omega
  · rw [if_neg q]; exact Nat.le_refl _
/-- what is known of the history: small numbers, and that the reference's rows hold the same -/
def okH (sz : Nat) (G : Nat → Nat → Nat) (NS ES PS BS fh : Nat → Nat) : Prop := sz ≤ 4 ∧ (∀ j, j < 4 → ES j < 2) ∧ (∀ k, k < sz → NS k ≤ 40 ∧ (∀ j, j < NS k → G k j < 8) ∧ PS k ≤ 64 ∧ BS k ≤ 2000) ∧ ∀ k, k < sz → ∀ j, j < 44 → HB fh k j = allF (G k) (NS k) (ES k) (PS k) (BS k) j
theorem okH.keep {sz n e p b : Nat} {G : Nat → Nat → Nat} {NS ES PS BS fh fh2 g : Nat → Nat} (h : okH sz G NS ES PS BS fh) (hn : n ≤ 40) (hg : ∀ j, j < n → g j < 8) (he : e < 2) (hp : p ≤ 64) (hb : b ≤ 2000) (hf : ∀ k, k < hsz sz → ∀ j, j < 44 → HB fh2 k j = hup (HB fh) sz (allF g n e p b) k j) : okH (hsz sz) (hup G sz g) (hup NS sz n) (hup ES sz e) (hup PS sz p) (hup BS sz b) fh2 := by
  obtain ⟨h1, h2, h3, h4⟩ := h
  refine ⟨hsz_le, fun j hj => hup_at ES e (fun x => x < 2) he h2 hj h1, fun k hk => ?_, fun k hk j hj => ?_⟩
  · exact hup_cases hk h1 G g NS n ES e PS p BS b (HB fh) (allF g n e p b) (fun x1 x2 _ x4 x5 _ => x2 ≤ 40 ∧ (∀ j, j < x2 → x1 j < 8) ∧ x4 ≤ 64 ∧ x5 ≤ 2000) ⟨hn, hg, hp, hb⟩ h3
  · rw [hf k hk j hj]
    exact hup_cases hk h1 G g NS n ES e PS p BS b (HB fh) (allF g n e p b) (fun x1 x2 x3 x4 x5 x6 => x6 j = allF x1 x2 x3 x4 x5 j) rfl (fun k hk => h4 k hk j hj)
theorem okH.less {sz : Nat} {G : Nat → Nat → Nat} {NS ES PS BS fh : Nat → Nat} (h : okH sz G NS ES PS BS fh) : okH (sz - 1) G NS ES PS BS fh := ⟨by have := h.1; omega, h.2.1, fun k hk => h.2.2.1 k (by omega), fun k hk => h.2.2.2 k (by omega)⟩
theorem okH_0 (G : Nat → Nat → Nat) (NS PS BS fh : Nat → Nat) : okH 0 G NS z0 PS BS fh := ⟨by decide, fun _ _ => (by decide : 0 < 2), fun k hk => absurd hk (Nat.not_lt_zero k), fun k hk => absurd hk (Nat.not_lt_zero k)⟩
theorem txt_push {T : List Nat} {x : Nat} (h : ∀ j, j < T.length → T.getD j 0 < 1000) (hx : x < 1000) : ∀ j, j < (T ++ [x]).length → (T ++ [x]).getD j 0 < 1000 := fun j _ => by
  have hm : ∀ y, y ∈ T ++ [x] → y < 1000 := fun y hy => by
    rcases List.mem_append.mp hy with q | q
    · obtain ⟨i, hi, e⟩ := List.getElem_of_mem q
      have := h i hi
      rw [List.getD_eq_getElem?_getD, List.getElem?_eq_getElem hi, e] at this
      exact this
    · rw [List.mem_singleton.mp q]; exact hx
  exact getD_lt hm (by decide) j
theorem txt_wT {bs : List Nat} (h : bits01 bs) : ∀ j, j < (wT bs).length → (wT bs).getD j 0 < 1000 := fun j hj => by
  rw [wT_len] at hj
  have := h.getD j
  rw [wT_get hj]
  omega
theorem app_len (T : List Nat) (x : Nat) : (T ++ [x]).length = T.length + 1 := by rw [List.length_append, List.length_singleton]
