/-! more rules, more of the mathematics -/
section VV2
variable {p : Program} {l : Launch} {e : Env} {R : Room} {s : State} {m : MethodId} {args : Array Value} {below : List Frame} {meth : Method} {c : Code} {D : va_G} {A : Nat → Prop} {H0 : Heap} {nL : Nat} {Q : State → Prop} {ws : va_W} {lv : List (Nat × Value)} {cells slots pc : Nat} {rest st : List Value} {cc : ByteArray} {own : String} {tys : List (ClassId × FieldType)}
theorem V_tblIn (C : Cx p s m args c cc nL own D tys A H0) {dflt lo hi : Int} {offs : Array Int} {len : Nat} {x : Int32} {off : Int} {tgt : Nat} (d : decode cc pc = .ok (.tableswitch dflt lo hi offs, len)) (h1 : ¬ x.toInt < lo) (h2 : ¬ hi < x.toInt) (ho : offs[(x.toInt - lo).toNat]? = some off) (ht : (pc : Int) + off = (tgt : Int)) (K : V p l e R s m args below meth c D A H0 nL Q ws lv cells slots tgt rest) : V p l e R s m args below meth c D A H0 nL Q ws lv cells slots pc (.int x :: rest) := fun H locs ls hP hD hS hl => lv_tableIn C.1.1 C.1.2.1 d h1 h2 ho ht (K H locs ls hP hD hS hl)
theorem V_tblOut (C : Cx p s m args c cc nL own D tys A H0) {dflt lo hi : Int} {offs : Array Int} {len : Nat} {x : Int32} {tgt : Nat} (d : decode cc pc = .ok (.tableswitch dflt lo hi offs, len)) (h : x.toInt < lo ∨ hi < x.toInt) (ht : (pc : Int) + dflt = (tgt : Int)) (K : V p l e R s m args below meth c D A H0 nL Q ws lv cells slots tgt rest) : V p l e R s m args below meth c D A H0 nL Q ws lv cells slots pc (.int x :: rest) := fun H locs ls hP hD hS hl => lv_tableOut C.1.1 C.1.2.1 d h ht (K H locs ls hP hD hS hl)
end VV2
theorem cR_put (p b : Nat) (g : Nat → Nat) (n x : Nat) : cR p b (va_up g n x) n = cR p b g n := cR_cong (fun j hj => va_up_ne g x (show j ≠ n by omega))
theorem cR_put1 (p b : Nat) (g : Nat → Nat) (n x : Nat) : cR p b (va_up g n x) (n + 1) = cAdd p b (cR p b g n) x := by rw [cR, cR_put, va_up_self]
theorem cost_put (p b : Nat) (g : Nat → Nat) (n x : Nat) : cost p b (va_up g n x) n = (sB (cAdd p b (cR p b g n) x)).length - (sB (cR p b g n)).length := by unfold cost; rw [cR_put1, cR_put]
theorem cost_cong {p b : Nat} {g g' : Nat → Nat} {j : Nat} (h : ∀ i, i < j + 1 → g i = g' i) : cost p b g j = cost p b g' j := by unfold cost; rw [cR_cong h, cR_cong (fun i hi => h i (by omega))]
theorem cost_old (p b : Nat) (g : Nat → Nat) {n x j : Nat} (h : j < n) : cost p b (va_up g n x) j = cost p b g j := cost_cong (fun i hi => va_up_ne g x (show i ≠ n by omega))
/-- a text made of bits -/
def wT (bs : List Nat) : List Nat := bs.map (fun c => 48 + c)
theorem wT_len (bs : List Nat) : (wT bs).length = bs.length := List.length_map _
theorem wT_get {bs : List Nat} {j : Nat} (h : j < bs.length) : (wT bs).getD j 0 = 48 + bs.getD j 0 := by
  unfold wT
  rw [List.getD_eq_getElem?_getD, List.getD_eq_getElem?_getD, List.getElem?_map, List.getElem?_eq_getElem h]
  rfl
theorem rep_wT {f : Nat → Nat} {bs : List Nat} (h : ∀ j, j < bs.length → f j = 48 + bs.getD j 0) : rep f (wT bs) := fun j hj => by
  rw [wT_len] at hj
  rw [wT_get hj]; exact h j hj
theorem okS_M {p b : Nat} {g : Nat → Nat} {n e : Nat} (hp : p ≤ 64) (hb : b ≤ 2000) (hg : ∀ j, j < n → g j < 8) : okC (sF (cM p b g n e)) (sT (cM p b g n e)) := by
  have h := (cR_ok hp hb hg).1
  unfold cM
  by_cases q : e = 1
  · rw [if_pos q]; exact h
  · rw [if_neg q]; exact h
theorem up8 {g : Nat → Nat} {n i x : Nat} (hg : ∀ j, j < n → g j < 8) (hx : x < 8) : ∀ j, j < n → va_up g i x j < 8 := fun j hj => by
  by_cases q : j = i
  · subst q; rw [va_up_self]; exact hx
  · rw [va_up_ne g x q]; exact hg j hj
theorem getD_lt {l : List Nat} {m : Nat} (h : ∀ x, x ∈ l → x < m) (h0 : 0 < m) (j : Nat) : l.getD j 0 < m := by
  rw [List.getD_eq_getElem?_getD]
  cases hj : l[j]? with
  | none => exact h0
  | some x => exact h x (List.mem_of_getElem? hj)
theorem frn_le (p b : Nat) (T : List Nat) : frn p b T ≤ 3 := by
  unfold frn
  by_cases q : (rdF p b (bT T)).1 = 1
  · rw [if_pos q]
    by_cases r : fO (bT T) T.length (qK (rdF p b (bT T)).2) < T.length
    · rw [if_pos r]; decide
    · rw [if_neg r]; decide
  · rw [if_neg q]; decide
