/-! the law's own rows: shifts, masks, remainders, the script, and what a change does to the history -/
def sr (x : Int32) (k : Nat) : Int32 := x >>> (nI k &&& 31)
def b31 (x : Int32) : Nat := x.toBitVec.toNat % 2 ^ 31
def upF (x : Int32) (n : Nat) : Nat := b31 x % n
theorem b31_lt (x : Int32) : b31 x < 2147483648 := Nat.mod_lt _ (Nat.two_pow_pos 31)
theorem b31_and (x : Int32) : x &&& nI 2147483647 = nI (b31 x) := pk_and x 31 (by decide +kernel)
theorem upF_lt {x : Int32} {n : Nat} (h : 0 < n) : upF x n < n := Nat.mod_lt _ h
/-- a place of the script, or what stands for it behind its end -/
def cellF (xs : Nat → Int32) (L k : Nat) : Int32 := if k < L then xs k else nI (1831565813 * (k + 911))
section VV4
variable {p : Program} {l : Launch} {e : Env} {R : Room} {s : State} {m : MethodId} {args : Array Value} {below : List Frame} {meth : Method} {c : Code} {D : va_G} {A : Nat → Prop} {H0 : Heap} {nL : Nat} {Q : State → Prop} {ws : va_W} {lv : List (Nat × Value)} {cells slots pc : Nat} {rest st : List Value} {cc : ByteArray} {own : String} {tys : List (ClassId × FieldType)}
theorem V_sld (C : Cx p s m args c cc nL own D tys A H0) {b L : Nat} {xs : Nat → Int32} (hX : va_X b L xs s H0) (hbl : b < H0.size) (hbA : ¬ A b) {i : Nat} {v : Int32} (hi : i < L) (hL : L < 2147483648) (hv : xs i = v) (d : decode cc pc = .ok (.iaload, 1)) (K : V p l e R s m args below meth c D A H0 nL Q ws lv cells slots (pc + 1) (.int v :: rest)) : V p l e R s m args below meth c D A H0 nL Q ws lv cells slots pc (.int (nI i) :: .ref b :: rest) := fun H locs ls hP hD hS hl =>
  va_sld C.1.1 C.1.2.1 hX hbl hbA hS (vp_in_nI hi hL) d (by rw [nI_clamp (Nat.lt_trans hi hL), hv]; exact K H locs ls hP hD hS hl)
theorem V_slen (C : Cx p s m args c cc nL own D tys A H0) {b L : Nat} {xs : Nat → Int32} (hX : va_X b L xs s H0) (hbl : b < H0.size) (hbA : ¬ A b) (d : decode cc pc = .ok (.arraylength, 1)) (K : V p l e R s m args below meth c D A H0 nL Q ws lv cells slots (pc + 1) (.int (nI L) :: rest)) : V p l e R s m args below meth c D A H0 nL Q ws lv cells slots pc (.ref b :: rest) := fun H locs ls hP hD hS hl =>
  va_slen C.1.1 C.1.2.1 hX hbl hbA hS d (K H locs ls hP hD hS hl)
theorem V_isubR (C : Cx p s m args c cc nL own D tys A H0) {x y : Int32} (d : decode cc pc = .ok (.isub, 1)) (K : V p l e R s m args below meth c D A H0 nL Q ws lv cells slots (pc + 1) (.int (x - y) :: rest)) : V p l e R s m args below meth c D A H0 nL Q ws lv cells slots pc (.int y :: .int x :: rest) := fun H locs ls hP hD hS hl =>
  lv_isub C.1.1 C.1.2.1 d (K H locs ls hP hD hS hl)
theorem V_widen {k n : Nat} (h1 : cells ≤ k) (h2 : slots ≤ n) (K : V p l e R s m args below meth c D A H0 nL Q ws lv k n pc st) : V p l e R s m args below meth c D A H0 nL Q ws lv cells slots pc st := fun H locs ls hP hD hS hl => W.widen h1 h2 (K H locs ls hP hD hS hl)
theorem V_irem (C : Cx p s m args c cc nL own D tys A H0) {a b : Nat} (h0 : 0 < b) (ha : a < 2147483648) (hb : b < 2147483648) (d : decode cc pc = .ok (.irem, 1)) (K : V p l e R s m args below meth c D A H0 nL Q ws lv cells slots (pc + 1) (.int (nI (a % b)) :: rest)) : V p l e R s m args below meth c D A H0 nL Q ws lv cells slots pc (.int (nI b) :: .int (nI a) :: rest) := fun H locs ls hP hD hS hl =>
  lv_irem C.1.1 C.1.2.1 d (nI_ne0 h0 hb) (by rw [pk_rem ha h0 hb]; exact K H locs ls hP hD hS hl)
theorem V_ishr (C : Cx p s m args c cc nL own D tys A H0) {x : Int32} {k : Nat} (d : decode cc pc = .ok (.ishr, 1)) (K : V p l e R s m args below meth c D A H0 nL Q ws lv cells slots (pc + 1) (.int (sr x k) :: rest)) : V p l e R s m args below meth c D A H0 nL Q ws lv cells slots pc (.int (nI k) :: .int x :: rest) := fun H locs ls hP hD hS hl =>
  lv_ishr C.1.1 C.1.2.1 d (K H locs ls hP hD hS hl)
theorem V_and31 (C : Cx p s m args c cc nL own D tys A H0) {x : Int32} (d : decode cc pc = .ok (.iand, 1)) (K : V p l e R s m args below meth c D A H0 nL Q ws lv cells slots (pc + 1) (.int (nI (b31 x)) :: rest)) : V p l e R s m args below meth c D A H0 nL Q ws lv cells slots pc (.int (nI 2147483647) :: .int x :: rest) :=
  V_iand C d (by rw [b31_and]; exact K)
/-- the contract of a method that reads the script alone -/
def PinX (D : va_G) (tys : List (ClassId × FieldType)) (b L : Nat) (xs : Nat → Int32) (av : List Value) (sz : Nat) : Array Value → State → Prop := fun a U => Pin D tys av [] sz a U ∧ va_X b L xs U U.heap ∧ b < U.heap.size
theorem PinX.blind {b L : Nat} {xs : Nat → Int32} {av : List Value} {sz : Nat} : FrameBlind (PinX D tys b L xs av sz) := fun a U g mk q => ⟨Pin.blind a U g mk q.1, va_X.moved (u := U) (U := U.calling g mk a) (Vm.Alike.refl U.vm) q.2.1, q.2.2⟩
def MX (l : Launch) (y : MethodName) (bytes : ByteArray) (maxL : Nat) (ret : Option FieldType) (rm : Room) (D : va_G) (tys : List (ClassId × FieldType)) (b L : Nat) (xs : Nat → Int32) (av : List Value) (post : Int32 → Unit → Prop) : Prop :=
  ∀ sz : Nat, Met l y (TS y bytes maxL ret) rm (PinX D tys b L xs av sz) (va_Qi post (Bo D tys (va_A [] sz) (fun _ => [])) (va_A [] sz)) 0 0 (va_A [] sz)
theorem MX.start {y : MethodName} {bytes : ByteArray} {maxL : Nat} {ret : Option FieldType} {rm : Room} {b L : Nat} {xs : Nat → Int32} {av : List Value} {post : Int32 → Unit → Prop} (hy : plainName y.cls = true) (hn : (lg_sl av).length ≤ maxL) {lv0 : List (Nat × Value)} (hlv : lv_args 0 av = lv0)
    (body : ∀ (p : Program) (e : Env) (s : State) (m : MethodId) (args : Array Value) (below : List Frame) (meth : Method) (c : Code) (A : Nat → Prop) (Q9 : State → Prop), Q9 = MQ below (va_Qi post (Bo D tys A (fun _ => [])) A) args s 0 0 A → Cx p s m args c bytes maxL y.cls D tys A s.heap → meth.sig.returnType = ret → meth.locks = false → meth.name = y.name → va_X b L xs s s.heap → b < s.heap.size → ¬ A b →
      V p l e rm s m args below meth c D A s.heap maxL Q9 [] lv0 0 0 0 []) : MX l y bytes maxL ret rm D tys b L xs av post := by
  intro sz
  refine Met.ofW (cc := bytes) (maxL := maxL) (ret := ret) hy rfl ?_
  intro p e s m args below meth c s₁ B hml hv
  obtain ⟨⟨rfl, hsz, hP, hK, hD0, hN⟩, hX, hbl⟩ := hv
  subst hsz
  subst hlv
  have hts := atoms_spec (ws := TS y bytes maxL ret) B.pre
  have hown : s.vm.findClass y.cls = some m.cls := findClass_of_methodNamed B.named
  have hl := lv_entry av (n := maxL) hn
  have hbA : ¬ va_A [] s.heap.size b := fun q => by
    rcases q with ⟨k, e1, h⟩ | h
    · simp at h
    · exact absurd h (Nat.not_le.mpr hbl)
  rw [lg_entry_eq]
  exact body p e s m av.toArray below meth c (va_A [] s.heap.size) _ rfl ⟨⟨B.exec, B.bytes, hml, hown, fun w h => hts w (List.mem_cons_of_mem _ h)⟩, hK, fun q h => Or.inr h, hN⟩ B.returns B.notSynchronized (name_of_methodNamed B.named B.method).1 hX hbl hbA s.heap [] _ hP hD0.self va_S.rf hl
theorem V_calliX {y : MethodName} {bytes : ByteArray} {maxL n index : Nat} {ret : Option FieldType} {rm : Room} {b L : Nat} {xs : Nat → Int32} {As : List Value} {post : Int32 → Unit → Prop} (C : Cx p s m args c cc nL own D tys A H0) (hX : va_X b L xs s H0) (hbl : b < H0.size) (hbA : ¬ A b) (hM : MX l y bytes maxL ret rm D tys b L xs As post) (ok : MOKs y bytes maxL ret n) (hlink : Cond.methodLink own index y ∈ AW) (hAs : As.length = n) (hrc : rm.cells = 0) (hrs : rm.slots = 0) (hfr : rm.frames + 1 ≤ R.frames) (hlo : 8 + (maxL + 11) + rm.locals ≤ R.locals) (hcs : cells + 0 ≤ R.cells ∧ slots + 0 ≤ R.slots) (hroom : (rest.map fun v => v.category).sum ≤ 8) (isR : List Nat) (hR : isR.map (fun i => ws[i]?) = ws.map some) (hRn : va_nd isR = true) (d : decode cc pc = .ok (.invokestatic index, 3)) (hst : st = (As.reverse ++ rest))
    (K : ∀ (r : Int32), post r () → V p l e R s m args below meth c D A H0 nL Q ws lv (cells + 0) (slots + 0) (pc + 3) (.int r :: rest)) : V p l e R s m args below meth c D A H0 nL Q ws lv cells slots pc st := by
  subst hst
  intro H locs ls hP hD hS hl
  have hts := C.1.2.2.2.2
  have hP0 : va_P D vwCl [] H := va_subM hP [] rfl
  have hD0 : va_D A [] := hD.sub [] rfl rfl
  have hFc : ∀ q, va_A [] H.size q → A q := va_free hD hS C.2.2.1 [] rfl
  have hXH : va_X b L xs s H := hX.kept (hS.2.1 b hbl hbA)
  have hblH : b < H.size := Nat.lt_of_lt_of_le hbl hS.1
  refine va_calli (va_runS (As := As) (rest := rest) C.1 (hM H.size) (va_cwS n hts (goodS hlink ok) rfl hrc hrs ok.2.2.2 ⟨hfr, hlo⟩) ⟨PinX.blind, fun U hU hW => ⟨⟨rfl, by rw [hU], by rw [hU]; exact hP0, va_K.moved hW.alike C.2.1, hD0.weaken (fun _ _ _ _ => trivial), NW.warm hW C.2.2.2⟩, by rw [hU]; exact hXH.moved hW.alike, by rw [hU]; exact hblH⟩⟩ rfl hAs hl.1 rfl (lv_room hroom) d hcs) hS (fun q _ h => hFc q h) hFc (fun r u t H1 locs1 ht hvm hw hB hz1 hk1 hS1 => ?_)
  obtain ⟨hP1, hK1, hD1⟩ := hB
  rw [ht] at hP1
  obtain ⟨hP2, hD2⟩ := va_join hP hD [] isR rfl hR hRn (fun _ _ h => by cases h) hk1 hFc hP1 hD1
  rw [List.append_nil] at hP2 hD2
  exact K r hw H1 locs1 ls hP2 hD2 hS1 hl
end VV4
theorem frn_ne1 (p b : Nat) (T : List Nat) : frn p b T ≠ 1 := by
  unfold frn
  by_cases q : (rdF p b (bT T)).1 = 1
  · rw [if_pos q]
    by_cases r : fO (bT T) T.length (qK (rdF p b (bT T)).2) < T.length
    · rw [if_pos r]; decide
    · rw [if_neg r]; decide
  · rw [if_neg q]; decide
theorem hup_at {α : Type} (F : Nat → α) {sz k : Nat} (x : α) (P : α → Prop) (hx : P x) (hF : ∀ j, j < 4 → P (F j)) (hk : k < 4) (hz : sz ≤ 4) : P (hup F sz x k) := by
  unfold hup
  by_cases q : sz < 4
  · rw [if_pos q]
    by_cases r : k = sz
    · subst r; rw [va_up_self]; exact hx
    · rw [va_up_ne _ _ r]; exact hF k hk
  · rw [if_neg q]
    by_cases r : k = 3
    · subst r; rw [va_up_self]; exact hx
    · rw [va_up_ne _ _ r]; exact hF (k + 1) (by omega)
theorem hsz_le {sz : Nat} : hsz sz ≤ 4 := by
  unfold hsz
  by_cases q : sz < 4
  · rw [if_pos q]; omega
  · rw [if_neg q]; exact Nat.le_refl _
/-- a row of the history behind a change: an old one, moved or not, or the state before the change -/
theorem hup_cases5 {α β γ δ : Type} {sz k : Nat} (hk : k < hsz sz) (hz : sz ≤ 4) (F1 : Nat → α) (x1 : α) (F2 : Nat → β) (x2 : β) (F3 : Nat → γ) (x3 : γ) (F4 : Nat → δ) (x4 : δ) (P : α → β → γ → δ → Prop) (hx : P x1 x2 x3 x4) (hF : ∀ j, j < sz → P (F1 j) (F2 j) (F3 j) (F4 j)) : P (hup F1 sz x1 k) (hup F2 sz x2 k) (hup F3 sz x3 k) (hup F4 sz x4 k) := by
  unfold hsz at hk
  unfold hup
  by_cases q : sz < 4
  · rw [if_pos q] at hk
    rw [if_pos q, if_pos q, if_pos q, if_pos q]
    by_cases r : k = sz
    · subst r; rw [va_up_self, va_up_self, va_up_self, va_up_self]; exact hx
    · rw [va_up_ne _ _ r, va_up_ne _ _ r, va_up_ne _ _ r, va_up_ne _ _ r]; exact hF k (by omega)
  · rw [if_neg q] at hk
    rw [if_neg q, if_neg q, if_neg q, if_neg q]
    by_cases r : k = 3
    · subst r; rw [va_up_self, va_up_self, va_up_self, va_up_self]; exact hx
    · rw [va_up_ne _ _ r, va_up_ne _ _ r, va_up_ne _ _ r, va_up_ne _ _ r]; exact hF (k + 1) (by omega)
/-- what is known of the history -/
def okG (sz : Nat) (G : Nat → Nat → Nat) (NS ES PS BS : Nat → Nat) : Prop := sz ≤ 4 ∧ (∀ j, j < 4 → ES j < 2) ∧ ∀ k, k < sz → NS k ≤ 40 ∧ (∀ j, j < NS k → G k j < 8) ∧ (1 ≤ PS k ∧ PS k ≤ 64) ∧ BS k ≤ 2000
theorem okG.keep {sz n e p b : Nat} {G : Nat → Nat → Nat} {NS ES PS BS g : Nat → Nat} (h : okG sz G NS ES PS BS) (hn : n ≤ 40) (hg : ∀ j, j < n → g j < 8) (he : e < 2) (hp : 1 ≤ p ∧ p ≤ 64) (hb : b ≤ 2000) : okG (hsz sz) (hup G sz g) (hup NS sz n) (hup ES sz e) (hup PS sz p) (hup BS sz b) := by
  obtain ⟨h1, h2, h3⟩ := h
  exact ⟨hsz_le, fun j hj => hup_at ES e (fun x => x < 2) he h2 hj h1, fun k hk => hup_cases5 hk h1 G g NS n PS p BS b (fun x1 x2 x4 x5 => x2 ≤ 40 ∧ (∀ j, j < x2 → x1 j < 8) ∧ (1 ≤ x4 ∧ x4 ≤ 64) ∧ x5 ≤ 2000) ⟨hn, hg, hp, hb⟩ h3⟩
theorem okG.less {sz : Nat} {G : Nat → Nat → Nat} {NS ES PS BS : Nat → Nat} (h : okG sz G NS ES PS BS) : okG (sz - 1) G NS ES PS BS := ⟨by have := h.1; omega, h.2.1, fun k hk => h.2.2 k (by omega)⟩
theorem okG_0 (G : Nat → Nat → Nat) (NS PS BS : Nat → Nat) : okG 0 G NS z0 PS BS := ⟨by decide, fun _ _ => (by decide : 0 < 2), fun k hk => absurd hk (Nat.not_lt_zero k)⟩
theorem cR_H (p b : Nat) (g : Nat → Nat) : ∀ n : Nat, sH (cR p b g n) ≤ n
  | 0 => Nat.le_refl _
  | n + 1 => by
    have h := cR_H p b g n
    show lrH p b (sT (cR p b g n)) (sH (cR p b g n)) ≤ n + 1
    rcases hal_put (p := p) (b := b) (t := sT (cR p b g n)) (h := sH (cR p b g n)) with q | q <;> omega
theorem up8s {g : Nat → Nat} {n x : Nat} (hg : ∀ j, j < n → g j < 8) (hx : x < 8) : ∀ j, j < n + 1 → va_up g n x j < 8 := fun j hj => by
  by_cases q : j = n
  · subst q; rw [va_up_self]; exact hx
  · rw [va_up_ne g x q]; exact hg j (by omega)
theorem app_len (T : List Nat) (x : Nat) : (T ++ [x]).length = T.length + 1 := by rw [List.length_append, List.length_singleton]
