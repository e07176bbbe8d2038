abbrev rm_X6_letterAround : Room := { frames := 1, cells := 0, slots := 0, locals := 23 }
set_option maxHeartbeats 4000000 in
set_option maxRecDepth 100000 in
theorem c_X6_letterAround (l : Launch) (D : va_G) (cI cQ : ClassId) (a lo hi v o r t h p b : Nat) (f : Nat → Nat) (hc : okC f t) (hv : lo ≤ v ∧ v ≤ hi ∧ hi ≤ 65535) : MI l yX6_letterAround cX6_letterAround 4 (some .int) rm_X6_letterAround D (TY cI cQ) [.ref a, .int (nI v), .ref o] [(a, .inr (6, [.int (nI lo), .int (nI hi)])), (o, .inr (2, [.ref r, .int (nI t), .int (nI h), .int (nI p), .int (nI b)])), (r, .inl (cI, 9, .inl (fun j => nI (f j))))] (fun (r9 : Int32) (u : Unit) => r9 = (nI (lwX f t lo hi v)) ∧ True) (fun (u : Unit) => [(a, .inr (6, [.int (nI lo), .int (nI hi)])), (o, .inr (2, [.ref r, .int (nI t), .int (nI h), .int (nI p), .int (nI b)])), (r, .inl (cI, 9, .inl (fun j => nI (f j))))]) 0 0 := by
  refine MI.start (by decide) (Nat.le_of_ble_eq_true rfl) (lv0 := [(0, .ref a), (1, .int (nI v)), (2, .ref o)]) rfl ?_
  intro pp9 ee9 ss9 mm9 args9 below9 meth9 co9 A9 Q9 hQ hC hr hlk hnm
  have ht9 := hc.t9
  have htm := hc.2.2
  have hm1 : 1 ≤ (v - lo + 1) * t := Nat.mul_pos (by omega) (by omega)
  have hm2 : (v - lo + 1) * t ≤ 65536 * 2000 := Nat.mul_le_mul (by omega) (by omega)
  have hm3 : ((v - lo + 1) * t - 1) / (hi - lo + 1) ≤ (v - lo + 1) * t - 1 := Nat.div_le_self _ _
  refine V_aload_n hC dX6_letterAround_0 rfl 0 rfl ?_
  refine V_get (ci := 6) (v := .int (nI hi)) hC in_X6 0 rfl cls_X6 1 (by decide) fl_X6_16 rfl dX6_letterAround_1 ?_
  refine V_aload_n hC dX6_letterAround_4 rfl 0 rfl ?_
  refine V_get (ci := 6) (v := .int (nI lo)) hC in_X6 0 rfl cls_X6 0 (by decide) fl_X6_9 rfl dX6_letterAround_5 ?_
  refine V_isub hC dX6_letterAround_8 (by omega) ?_
  refine V_iconst (v := nI 1) hC dX6_letterAround_9 (by decide) ?_
  refine V_iadd hC dX6_letterAround_10 ?_
  refine V_istore_n (lv2 := [(0, .ref a), (1, .int (nI v)), (2, .ref o), (3, .int (nI ((hi - lo) + 1)))]) hC dX6_letterAround_11 rfl (by decide) [1, 2, 3, 0] rfl ?_
  refine V_iload_n hC dX6_letterAround_12 rfl 3 rfl ?_
  refine V_iconst (v := nI 1) hC dX6_letterAround_13 (by decide) ?_
  refine V_icmp_ge_T (tgt := 20) hC dX6_letterAround_14 (by decide) (nI_le (by omega) (by omega)) ?_
  refine V_aload_n hC dX6_letterAround_20 rfl 2 rfl ?_
  refine V_iload_n hC dX6_letterAround_21 rfl 1 rfl ?_
  refine V_aload_n hC dX6_letterAround_22 rfl 0 rfl ?_
  refine V_get (ci := 6) (v := .int (nI lo)) hC in_X6 0 rfl cls_X6 0 (by decide) fl_X6_9 rfl dX6_letterAround_23 ?_
  refine V_isub hC dX6_letterAround_26 (by omega) ?_
  refine V_iconst (v := nI 1) hC dX6_letterAround_27 (by decide) ?_
  refine V_iadd hC dX6_letterAround_28 ?_
  refine V_aload_n hC dX6_letterAround_29 rfl 2 rfl ?_
  refine V_getN (ci := 2) (v := .int (nI t)) hC in_X2 1 rfl cls_X2 1 (by decide) fn_X6_19 rfl dX6_letterAround_30 ?_
  refine V_imul hC dX6_letterAround_33 ?_
  refine V_iconst (v := nI 1) hC dX6_letterAround_34 (by decide) ?_
  refine V_isub hC dX6_letterAround_35 (by omega) ?_
  refine V_iload_n hC dX6_letterAround_36 rfl 3 rfl ?_
  refine V_idiv hC dX6_letterAround_37 (by omega) (by omega) (by omega) ?_
  refine V_calliV (As := [.int (nI (((((v - lo) + 1) * t) - 1) / ((hi - lo) + 1)))]) (rest := []) (wr := [(a, .inr (6, [.int (nI lo), .int (nI hi)]))]) hC (c_X2_letterWith l D cI cQ o r t h p b (((((v - lo) + 1) * t) - 1) / ((hi - lo) + 1)) f (by generalize ((v - lo + 1) * t - 1) / (hi - lo + 1) = X1 at *; omega) (fun j hj => by have := hc.cle hj; omega)) mok_X2_letterWith ml_X6_33 (q1 := 0) rfl cls_X2 rfl rfl rfl (by decide) (by decide) (by decide) (Nat.le_of_ble_eq_true rfl) [1, 2] [0] rfl (by decide) rfl (by decide) (by decide) dX6_letterAround_38 rfl (fun r9 u9 h38 => ?_)
  obtain ⟨rfl, h38⟩ := h38
  clear h38
  refine V_perm (ws2 := [(a, .inr (6, [.int (nI lo), .int (nI hi)])), (o, .inr (2, [.ref r, .int (nI t), .int (nI h), .int (nI p), .int (nI b)])), (r, .inl (cI, 9, .inl (fun j => nI (f j))))]) [0, 1, 2] rfl (by decide) ?_
  subst hQ
  exact V_iret hC hr hlk rfl (by decide) (by decide) dX6_letterAround_41 (()) [0, 1, 2] rfl (by decide) (⟨rfl, trivial⟩)
abbrev rm_X5_letterAt : Room := { frames := 0, cells := 0, slots := 0, locals := 0 }
set_option maxHeartbeats 4000000 in
set_option maxRecDepth 100000 in
theorem c_X5_letterAt (l : Launch) (D : va_G) (cI cQ : ClassId) (a co sp le siz num tk ov i : Nat) (lf : Nat → Nat) (hi : i < 40) : MI l yX5_letterAt cX5_letterAt 2 (some .int) rm_X5_letterAt D (TY cI cQ) [.ref a, .int (nI i)] [(a, .inr (5, [.ref co, .ref sp, .ref le, .int (nI siz), .int (nI num), .int (nI tk), .int (nI ov)])), (le, .inl (cI, 40, .inl (fun j => nI (lf j))))] (fun (r9 : Int32) (u : Unit) => r9 = (nI (lf i)) ∧ True) (fun (u : Unit) => [(a, .inr (5, [.ref co, .ref sp, .ref le, .int (nI siz), .int (nI num), .int (nI tk), .int (nI ov)])), (le, .inl (cI, 40, .inl (fun j => nI (lf j))))]) 0 0 := by
  refine MI.start (by decide) (Nat.le_of_ble_eq_true rfl) (lv0 := [(0, .ref a), (1, .int (nI i))]) rfl ?_
  intro pp9 ee9 ss9 mm9 args9 below9 meth9 co9 A9 Q9 hQ hC hr hlk hnm
  refine V_iload_n hC dX5_letterAt_0 rfl 1 rfl ?_
  refine V_if_lt_F (tgt := 22) hC dX5_letterAt_1 (by decide) (nI_pos (by omega)) ?_
  refine V_iload_n hC dX5_letterAt_4 rfl 1 rfl ?_
  refine V_aload_n hC dX5_letterAt_5 rfl 0 rfl ?_
  refine V_get (ci := 5) (v := .ref le) hC in_X5 0 rfl cls_X5 2 (by decide) fl_X5_25 rfl dX5_letterAt_6 ?_
  refine V_alen (v := (nI 40)) hC 1 0 rfl rfl rfl dX5_letterAt_9 ?_
  refine V_icmp_ge_F (tgt := 22) hC dX5_letterAt_10 (by decide) (nI_ge (by omega) (by omega)) ?_
  refine V_aload_n hC dX5_letterAt_13 rfl 0 rfl ?_
  refine V_get (ci := 5) (v := .ref le) hC in_X5 0 rfl cls_X5 2 (by decide) fl_X5_25 rfl dX5_letterAt_14 ?_
  refine V_iload_n hC dX5_letterAt_17 rfl 1 rfl ?_
  refine V_iald hC 1 0 rfl rfl (by omega) (by decide) dX5_letterAt_18 ?_
  refine V_goto (tgt := 23) hC dX5_letterAt_19 (by decide) ?_
  subst hQ
  exact V_iret hC hr hlk rfl (by decide) (by decide) dX5_letterAt_23 (()) [0, 1] rfl (by decide) (⟨rfl, trivial⟩)
abbrev rm_X5_takeBit : Room := { frames := 1, cells := 0, slots := 0, locals := 21 }
set_option maxHeartbeats 4000000 in
set_option maxRecDepth 100000 in
theorem c_X5_takeBit (l : Launch) (D : va_G) (cI cQ : ClassId) (a co sp le siz num tk ov bi r n : Nat) (g β : Nat → Nat) (hn : n ≤ 658) (hk : tk < 2147483648) (hβ : ∀ j, (if j < n then g j else 0) = β j) : MV l yX5_takeBit cX5_takeBit 2 none rm_X5_takeBit D (TY cI cQ) [.ref a, .ref bi] [(a, .inr (5, [.ref co, .ref sp, .ref le, .int (nI siz), .int (nI num), .int (nI tk), .int (nI ov)])), (bi, .inr (0, [.ref r, .int (nI n)])), (r, .inl (cI, 658, .inl (fun j => nI (g j))))] (fun (u : Unit) => True) (fun (u : Unit) => [(a, .inr (5, [.ref co, .ref sp, .ref le, .int (nI siz), .int (nI (num * 2 + β tk)), .int (nI (tk + 1)), .int (nI ov)])), (bi, .inr (0, [.ref r, .int (nI n)])), (r, .inl (cI, 658, .inl (fun j => nI (g j))))]) 0 0 := by
  refine MV.start (by decide) (Nat.le_of_ble_eq_true rfl) (lv0 := [(0, .ref a), (1, .ref bi)]) rfl ?_
  intro pp9 ee9 ss9 mm9 args9 below9 meth9 co9 A9 Q9 hQ hC hr hlk hnm
  refine V_aload_n hC dX5_takeBit_0 rfl 0 rfl ?_
  refine V_aload_n hC dX5_takeBit_1 rfl 0 rfl ?_
  refine V_get (ci := 5) (v := .int (nI num)) hC in_X5 0 rfl cls_X5 4 (by decide) fl_X5_33 rfl dX5_takeBit_2 ?_
  refine V_iconst (v := nI 2) hC dX5_takeBit_5 (by decide) ?_
  refine V_imul hC dX5_takeBit_6 ?_
  refine V_aload_n hC dX5_takeBit_7 rfl 1 rfl ?_
  refine V_aload_n hC dX5_takeBit_8 rfl 0 rfl ?_
  refine V_get (ci := 5) (v := .int (nI tk)) hC in_X5 0 rfl cls_X5 5 (by decide) fl_X5_36 rfl dX5_takeBit_9 ?_
  refine V_calliV (As := [.int (nI tk)]) (rest := [.int (nI (num * 2)), .ref a]) (wr := [(a, .inr (5, [.ref co, .ref sp, .ref le, .int (nI siz), .int (nI num), .int (nI tk), .int (nI ov)]))]) hC (c_X0_bitAt l D cI cQ bi r n tk g (by omega) (by omega)) mok_X0_bitAt ml_X5_76 (q1 := 0) rfl cls_X0 rfl rfl rfl (by decide) (by decide) (by decide) (Nat.le_of_ble_eq_true rfl) [1, 2] [0] rfl (by decide) rfl (by decide) (by decide) dX5_takeBit_12 rfl (fun r9 u9 h12 => ?_)
  obtain ⟨rfl, h12⟩ := h12
  clear h12
  refine V_perm (ws2 := [(a, .inr (5, [.ref co, .ref sp, .ref le, .int (nI siz), .int (nI num), .int (nI tk), .int (nI ov)])), (bi, .inr (0, [.ref r, .int (nI n)])), (r, .inl (cI, 658, .inl (fun j => nI (g j))))]) [0, 1, 2] rfl (by decide) ?_
  refine V_st (st2 := [.int (nI (β tk)), .int (nI (num * 2)), .ref a]) (by rw [show (if tk < n then g tk else 0) = (β tk) from hβ tk]) ?_
  refine V_iadd hC dX5_takeBit_15 ?_
  refine V_put (ci := 5) (v := .int (nI ((num * 2) + (β tk)))) hC tyX5 tyX5_ok nmX5 in_X5 0 rfl cls_X5 4 (by decide) fl_X5_33 rfl rfl rfl (Nat.le_of_ble_eq_true rfl) dX5_takeBit_16 (ws2 := [(a, .inr (5, [.ref co, .ref sp, .ref le, .int (nI siz), .int (nI ((num * 2) + (β tk))), .int (nI tk), .int (nI ov)])), (bi, .inr (0, [.ref r, .int (nI n)])), (r, .inl (cI, 658, .inl (fun j => nI (g j))))]) rfl ?_
  refine V_aload_n hC dX5_takeBit_19 rfl 0 rfl ?_
  refine V_dup hC dX5_takeBit_20 rfl ?_
  refine V_get (ci := 5) (v := .int (nI tk)) hC in_X5 0 rfl cls_X5 5 (by decide) fl_X5_36 rfl dX5_takeBit_21 ?_
  refine V_iconst (v := nI 1) hC dX5_takeBit_24 (by decide) ?_
  refine V_iadd hC dX5_takeBit_25 ?_
  refine V_put (ci := 5) (v := .int (nI (tk + 1))) hC tyX5 tyX5_ok nmX5 in_X5 0 rfl cls_X5 5 (by decide) fl_X5_36 rfl rfl rfl (Nat.le_of_ble_eq_true rfl) dX5_takeBit_26 (ws2 := [(a, .inr (5, [.ref co, .ref sp, .ref le, .int (nI siz), .int (nI ((num * 2) + (β tk))), .int (nI (tk + 1)), .int (nI ov)])), (bi, .inr (0, [.ref r, .int (nI n)])), (r, .inl (cI, 658, .inl (fun j => nI (g j))))]) rfl ?_
  subst hQ
  exact V_vret hC hr hlk (by decide) (by decide) dX5_takeBit_29 (()) [0, 1, 2] rfl (by decide) (trivial)
abbrev rm_X5_narrow : Room := { frames := 2, cells := 0, slots := 0, locals := 49 }
set_option maxHeartbeats 4000000 in
set_option maxRecDepth 100000 in
theorem c_X5_narrow (l : Launch) (D : va_G) (cI cQ : ClassId) (a co sp le siz v tk ov cr t h p b lo hi bi r n k : Nat) (f g β : Nat → Nat) (hn : n ≤ 658) (hβ : ∀ j, (if j < n then g j else 0) = β j) (hβ2 : ∀ j, β j < 2) (hk : k < 9) (hc : okC f t) (hs : lo ≤ hi ∧ hi ≤ 65535) (hw : t ≤ hi - lo + 1) (hv : shL f t k lo hi ≤ v ∧ v ≤ shU f t k lo hi) (htk : tk ≤ 100000) : MV l yX5_narrow cX5_narrow 5 none rm_X5_narrow D (TY cI cQ) [.ref a, .int (nI k), .ref bi] [(a, .inr (5, [.ref co, .ref sp, .ref le, .int (nI siz), .int (nI v), .int (nI tk), .int (nI ov)])), (co, .inr (2, [.ref cr, .int (nI t), .int (nI h), .int (nI p), .int (nI b)])), (cr, .inl (cI, 9, .inl (fun j => nI (f j)))), (sp, .inr (6, [.int (nI lo), .int (nI hi)])), (bi, .inr (0, [.ref r, .int (nI n)])), (r, .inl (cI, 658, .inl (fun j => nI (g j))))] (fun (u : Unit) => True) (fun (u : Unit) => [(a, .inr (5, [.ref co, .ref sp, .ref le, .int (nI siz), .int (nI ((nv β 16 (shL f t k lo hi) (shU f t k lo hi) v tk).2.2.1)), .int (nI ((nv β 16 (shL f t k lo hi) (shU f t k lo hi) v tk).2.2.2)), .int (nI ov)])), (co, .inr (2, [.ref cr, .int (nI t), .int (nI h), .int (nI p), .int (nI b)])), (cr, .inl (cI, 9, .inl (fun j => nI (f j)))), (sp, .inr (6, [.int (nI ((nv β 16 (shL f t k lo hi) (shU f t k lo hi) v tk).1)), .int (nI ((nv β 16 (shL f t k lo hi) (shU f t k lo hi) v tk).2.1))])), (bi, .inr (0, [.ref r, .int (nI n)])), (r, .inl (cI, 658, .inl (fun j => nI (g j))))]) 0 0 := by
  refine MV.start (by decide) (Nat.le_of_ble_eq_true rfl) (lv0 := [(0, .ref a), (1, .int (nI k)), (2, .ref bi)]) rfl ?_
  intro pp9 ee9 ss9 mm9 args9 below9 meth9 co9 A9 Q9 hQ hC hr hlk hnm
  have hsh := sh_ok hc hk hs hw
  refine V_aload_n hC dX5_narrow_0 rfl 0 rfl ?_
  refine V_get (ci := 5) (v := .ref sp) hC in_X5 0 rfl cls_X5 1 (by decide) fl_X5_21 rfl dX5_narrow_1 ?_
  refine V_aload_n hC dX5_narrow_4 rfl 0 rfl ?_
  refine V_get (ci := 5) (v := .ref co) hC in_X5 0 rfl cls_X5 0 (by decide) fl_X5_12 rfl dX5_narrow_5 ?_
  refine V_iload_n hC dX5_narrow_8 rfl 1 rfl ?_
  refine V_callvV (As := [.ref co, .int (nI k)]) (rest := []) (wr := [(a, .inr (5, [.ref co, .ref sp, .ref le, .int (nI siz), .int (nI v), .int (nI tk), .int (nI ov)])), (bi, .inr (0, [.ref r, .int (nI n)])), (r, .inl (cI, 658, .inl (fun j => nI (g j))))]) hC (c_X6_shrink l D cI cQ sp lo hi co cr t h p b k f (by first | assumption | omega) (by first | assumption | omega) (by first | assumption | omega) (by first | assumption | omega)) mok_X6_shrink ml_X5_68 (q1 := 0) rfl cls_X6 rfl rfl rfl (by decide) (by decide) (by decide) (Nat.le_of_ble_eq_true rfl) [3, 1, 2] [0, 4, 5] rfl (by decide) rfl (by decide) (by decide) dX5_narrow_9 rfl (fun u9 h9 => ?_)
  clear h9
  refine V_perm (ws2 := [(a, .inr (5, [.ref co, .ref sp, .ref le, .int (nI siz), .int (nI v), .int (nI tk), .int (nI ov)])), (co, .inr (2, [.ref cr, .int (nI t), .int (nI h), .int (nI p), .int (nI b)])), (cr, .inl (cI, 9, .inl (fun j => nI (f j)))), (sp, .inr (6, [.int (nI (shL f t k lo hi)), .int (nI (shU f t k lo hi))])), (bi, .inr (0, [.ref r, .int (nI n)])), (r, .inl (cI, 658, .inl (fun j => nI (g j))))]) [0, 4, 5, 3, 1, 2] rfl (by decide) ?_
  refine V_iconst (v := nI 0) hC dX5_narrow_12 (by decide) ?_
  refine V_istore_n (lv2 := [(0, .ref a), (1, .int (nI k)), (2, .ref bi), (3, .int (nI 0))]) hC dX5_narrow_13 rfl (by decide) [1, 2, 3, 0] rfl ?_
  have L14 : ∀ (n9 : Nat) (i : Nat) (lo2 : Nat) (hi2 : Nat) (v2 : Nat) (tk2 : Nat), (i ≤ 16) → (lo2 ≤ v2 ∧ v2 ≤ hi2 ∧ hi2 ≤ 65535) → (nv β (16 - i) lo2 hi2 v2 tk2 = nv β 16 (shL f t k lo hi) (shU f t k lo hi) v tk) → (tk2 ≤ 100000 + i) → 16 - i < n9 → V pp9 l ee9 rm_X5_narrow ss9 mm9 args9 below9 meth9 co9 D A9 ss9.heap 5 Q9 [(a, .inr (5, [.ref co, .ref sp, .ref le, .int (nI siz), .int (nI v2), .int (nI tk2), .int (nI ov)])), (co, .inr (2, [.ref cr, .int (nI t), .int (nI h), .int (nI p), .int (nI b)])), (cr, .inl (cI, 9, .inl (fun j => nI (f j)))), (sp, .inr (6, [.int (nI lo2), .int (nI hi2)])), (bi, .inr (0, [.ref r, .int (nI n)])), (r, .inl (cI, 658, .inl (fun j => nI (g j))))] [(0, .ref a), (1, .int (nI k)), (2, .ref bi), (3, .int (nI i))] 0 0 14 [] := by
    intro n9
    induction n9 with
    | zero => intro i lo2 hi2 v2 tk2 h1 h2 h3 h4 h9; exact absurd h9 (Nat.not_lt_zero _)
    | succ n9 ih =>
      intro i lo2 hi2 v2 tk2 h1 h2 h3 h4 h9
      refine V_iload_n hC dX5_narrow_14 rfl 3 rfl ?_
      refine V_bipush (v := nI 16) hC dX5_narrow_15 (by decide) ?_
      refine V_icmp_ge (tgt := 58) hC (by omega) (by omega) dX5_narrow_17 (by decide) (fun c17 => ?_) (fun c17 => ?_)
      · subst hQ
        rw [show 16 - i = 0 by omega] at h3
        rw [← h3]
        simp only [nv]
        exact V_vret hC hr hlk (by decide) (by decide) dX5_narrow_58 (()) [0, 1, 2, 3, 4, 5] rfl (by decide) (trivial)
      · refine V_aload_n hC dX5_narrow_20 rfl 0 rfl ?_
        refine V_get (ci := 5) (v := .ref sp) hC in_X5 0 rfl cls_X5 1 (by decide) fl_X5_21 rfl dX5_narrow_21 ?_
        by_cases hw1 : wO lo2 hi2 = 1
        · refine V_calliV (As := []) (rest := []) (wr := [(a, .inr (5, [.ref co, .ref sp, .ref le, .int (nI siz), .int (nI v2), .int (nI tk2), .int (nI ov)])), (co, .inr (2, [.ref cr, .int (nI t), .int (nI h), .int (nI p), .int (nI b)])), (cr, .inl (cI, 9, .inl (fun j => nI (f j)))), (bi, .inr (0, [.ref r, .int (nI n)])), (r, .inl (cI, 658, .inl (fun j => nI (g j))))]) hC (c_X6_widen_stop l D cI cQ sp lo2 hi2 (by omega) (hw1)) mok_X6_widen ml_X5_72 (q1 := 0) rfl cls_X6 rfl rfl rfl (by decide) (by decide) (by decide) (Nat.le_of_ble_eq_true rfl) [3] [0, 1, 2, 4, 5] rfl (by decide) rfl (by decide) (by decide) dX5_narrow_24 rfl (fun r9 u9 h24 => ?_)
          obtain ⟨rfl, h24⟩ := h24
          clear h24
          refine V_perm (ws2 := [(a, .inr (5, [.ref co, .ref sp, .ref le, .int (nI siz), .int (nI v2), .int (nI tk2), .int (nI ov)])), (co, .inr (2, [.ref cr, .int (nI t), .int (nI h), .int (nI p), .int (nI b)])), (cr, .inl (cI, 9, .inl (fun j => nI (f j)))), (sp, .inr (6, [.int (nI lo2), .int (nI hi2)])), (bi, .inr (0, [.ref r, .int (nI n)])), (r, .inl (cI, 658, .inl (fun j => nI (g j))))]) [0, 1, 2, 5, 3, 4] rfl (by decide) ?_
          refine V_istore (lv2 := [(0, .ref a), (1, .int (nI k)), (2, .ref bi), (3, .int (nI i)), (4, .int (-1))]) hC dX5_narrow_27 (by decide) [1, 2, 3, 4, 0] rfl ?_
          have hwc := wO_cases lo2 hi2
          have hbt := hβ2 tk2
          refine V_iload hC dX5_narrow_29 4 rfl ?_
          refine V_iconst (v := -1) hC dX5_narrow_31 (by decide) ?_
          refine V_icmp_ne_F (tgt := 36) hC dX5_narrow_32 (by decide) rfl ?_
          subst hQ
          rw [nv_stop hw1] at h3
          rw [← h3]
          exact V_vret hC hr hlk (by decide) (by decide) dX5_narrow_35 (()) [0, 1, 2, 3, 4, 5] rfl (by decide) (trivial)
        · refine V_calliV (As := []) (rest := []) (wr := [(a, .inr (5, [.ref co, .ref sp, .ref le, .int (nI siz), .int (nI v2), .int (nI tk2), .int (nI ov)])), (co, .inr (2, [.ref cr, .int (nI t), .int (nI h), .int (nI p), .int (nI b)])), (cr, .inl (cI, 9, .inl (fun j => nI (f j)))), (bi, .inr (0, [.ref r, .int (nI n)])), (r, .inl (cI, 658, .inl (fun j => nI (g j))))]) hC (c_X6_widen_go l D cI cQ sp lo2 hi2 (by omega) (hw1)) mok_X6_widen ml_X5_72 (q1 := 0) rfl cls_X6 rfl rfl rfl (by decide) (by decide) (by decide) (Nat.le_of_ble_eq_true rfl) [3] [0, 1, 2, 4, 5] rfl (by decide) rfl (by decide) (by decide) dX5_narrow_24 rfl (fun r9 u9 h24 => ?_)
          obtain ⟨rfl, h24⟩ := h24
          clear h24
          refine V_perm (ws2 := [(a, .inr (5, [.ref co, .ref sp, .ref le, .int (nI siz), .int (nI v2), .int (nI tk2), .int (nI ov)])), (co, .inr (2, [.ref cr, .int (nI t), .int (nI h), .int (nI p), .int (nI b)])), (cr, .inl (cI, 9, .inl (fun j => nI (f j)))), (sp, .inr (6, [.int (nI ((lo2 - wO lo2 hi2) * 2)), .int (nI ((hi2 - wO lo2 hi2) * 2 + 1))])), (bi, .inr (0, [.ref r, .int (nI n)])), (r, .inl (cI, 658, .inl (fun j => nI (g j))))]) [0, 1, 2, 5, 3, 4] rfl (by decide) ?_
          refine V_istore (lv2 := [(0, .ref a), (1, .int (nI k)), (2, .ref bi), (3, .int (nI i)), (4, .int (nI (wO lo2 hi2)))]) hC dX5_narrow_27 (by decide) [1, 2, 3, 4, 0] rfl ?_
          have hwc := wO_cases lo2 hi2
          have hbt := hβ2 tk2
          refine V_iload hC dX5_narrow_29 4 rfl ?_
          refine V_iconst (v := -1) hC dX5_narrow_31 (by decide) ?_
          refine V_icmp_ne_T (tgt := 36) hC dX5_narrow_32 (by decide) (neg_ne' (by decide) (by omega)) ?_
          refine V_aload_n hC dX5_narrow_36 rfl 0 rfl ?_
          refine V_dup hC dX5_narrow_37 rfl ?_
          refine V_get (ci := 5) (v := .int (nI v2)) hC in_X5 0 rfl cls_X5 4 (by decide) fl_X5_33 rfl dX5_narrow_38 ?_
          refine V_iload hC dX5_narrow_41 4 rfl ?_
          refine V_isub hC dX5_narrow_43 (by omega) ?_
          refine V_put (ci := 5) (v := .int (nI (v2 - (wO lo2 hi2)))) hC tyX5 tyX5_ok nmX5 in_X5 0 rfl cls_X5 4 (by decide) fl_X5_33 rfl rfl rfl (Nat.le_of_ble_eq_true rfl) dX5_narrow_44 (ws2 := [(a, .inr (5, [.ref co, .ref sp, .ref le, .int (nI siz), .int (nI (v2 - (wO lo2 hi2))), .int (nI tk2), .int (nI ov)])), (co, .inr (2, [.ref cr, .int (nI t), .int (nI h), .int (nI p), .int (nI b)])), (cr, .inl (cI, 9, .inl (fun j => nI (f j)))), (sp, .inr (6, [.int (nI ((lo2 - wO lo2 hi2) * 2)), .int (nI ((hi2 - wO lo2 hi2) * 2 + 1))])), (bi, .inr (0, [.ref r, .int (nI n)])), (r, .inl (cI, 658, .inl (fun j => nI (g j))))]) rfl ?_
          refine V_aload_n hC dX5_narrow_47 rfl 0 rfl ?_
          refine V_aload_n hC dX5_narrow_48 rfl 2 rfl ?_
          refine V_callvV (As := [.ref bi]) (rest := []) (wr := [(co, .inr (2, [.ref cr, .int (nI t), .int (nI h), .int (nI p), .int (nI b)])), (cr, .inl (cI, 9, .inl (fun j => nI (f j)))), (sp, .inr (6, [.int (nI ((lo2 - wO lo2 hi2) * 2)), .int (nI ((hi2 - wO lo2 hi2) * 2 + 1))]))]) hC (c_X5_takeBit l D cI cQ a co sp le siz (v2 - (wO lo2 hi2)) tk2 ov bi r n g β (by omega) (by omega) (hβ)) mok_X5_takeBit ml_X5_49 (q1 := 0) rfl cls_X5 rfl rfl rfl (by decide) (by decide) (by decide) (Nat.le_of_ble_eq_true rfl) [0, 4, 5] [1, 2, 3] rfl (by decide) rfl (by decide) (by decide) dX5_narrow_49 rfl (fun u9 h49 => ?_)
          clear h49
          refine V_perm (ws2 := [(a, .inr (5, [.ref co, .ref sp, .ref le, .int (nI siz), .int (nI ((v2 - (wO lo2 hi2)) * 2 + β tk2)), .int (nI (tk2 + 1)), .int (nI ov)])), (co, .inr (2, [.ref cr, .int (nI t), .int (nI h), .int (nI p), .int (nI b)])), (cr, .inl (cI, 9, .inl (fun j => nI (f j)))), (sp, .inr (6, [.int (nI ((lo2 - wO lo2 hi2) * 2)), .int (nI ((hi2 - wO lo2 hi2) * 2 + 1))])), (bi, .inr (0, [.ref r, .int (nI n)])), (r, .inl (cI, 658, .inl (fun j => nI (g j))))]) [3, 0, 1, 2, 4, 5] rfl (by decide) ?_
          refine V_iinc (v := (nI (i + 1))) (lv2 := [(0, .ref a), (1, .int (nI k)), (2, .ref bi), (3, .int (nI (i + 1))), (4, .int (nI (wO lo2 hi2)))]) (q := 3) hC dX5_narrow_52 rfl (nI_add _ _) (by decide) [1, 2, 3, 0, 4] rfl ?_
          refine V_goto (tgt := 14) hC dX5_narrow_55 (by decide) ?_
          refine V_pick (lv2 := [(0, .ref a), (1, .int (nI k)), (2, .ref bi), (3, .int (nI ((i + 1))))]) [0, 1, 2, 3] rfl ?_
          exact ih (i + 1) ((lo2 - wO lo2 hi2) * 2) ((hi2 - wO lo2 hi2) * 2 + 1) ((v2 - (wO lo2 hi2)) * 2 + β tk2) (tk2 + 1) (by omega) (by omega) (by rw [← h3, show 16 - i = (16 - (i + 1)) + 1 by omega, nv_go hw1]) (by omega) (by omega)
  exact L14 _ 0 (shL f t k lo hi) (shU f t k lo hi) v tk (by omega) (by omega) (rfl) (by omega) (Nat.lt_succ_self _)
abbrev rm_X5_readLetter_end : Room := { frames := 2, cells := 0, slots := 0, locals := 46 }
set_option maxHeartbeats 4000000 in
set_option maxRecDepth 100000 in
theorem c_X5_readLetter_end (l : Launch) (D : va_G) (cI cQ : ClassId) (a co sp le cr bi r n p b ov : Nat) (s9 : RS) (lf g β : Nat → Nat) (hn : n ≤ 658) (hβ : ∀ j, (if j < n then g j else 0) = β j) (hβ2 : ∀ j, β j < 2) (hR : okR s9) (hp : p ≤ 64) (hb : b ≤ 2000) (hl : rep lf (qR s9)) (hx : lwS s9 = 8) : MV l yX5_readLetter cX5_readLetter 3 none rm_X5_readLetter_end D (TY cI cQ) [.ref a, .ref bi] [(a, .inr (5, [.ref co, .ref sp, .ref le, .int (nI ((qR (s9)).length)), .int (nI (qV (s9))), .int (nI (qK (s9))), .int (nI ov)])), (co, .inr (2, [.ref cr, .int (nI (qT (s9))), .int (nI (qH (s9))), .int (nI p), .int (nI b)])), (cr, .inl (cI, 9, .inl (fun j => nI ((qF (s9)) j)))), (sp, .inr (6, [.int (nI (qL (s9))), .int (nI (qU (s9)))])), (le, .inl (cI, 40, .inl (fun j => nI (lf j)))), (bi, .inr (0, [.ref r, .int (nI n)])), (r, .inl (cI, 658, .inl (fun j => nI (g j))))] (fun (u : Unit) => True) (fun (u : Unit) => [(a, .inr (5, [.ref co, .ref sp, .ref le, .int (nI ((qR (s9)).length)), .int (nI (qV (s9))), .int (nI (qK (s9))), .int (nI 1)])), (co, .inr (2, [.ref cr, .int (nI (qT (s9))), .int (nI (qH (s9))), .int (nI p), .int (nI b)])), (cr, .inl (cI, 9, .inl (fun j => nI ((qF (s9)) j)))), (sp, .inr (6, [.int (nI (qL (s9))), .int (nI (qU (s9)))])), (le, .inl (cI, 40, .inl (fun j => nI (lf j)))), (bi, .inr (0, [.ref r, .int (nI n)])), (r, .inl (cI, 658, .inl (fun j => nI (g j))))]) 0 0 := by
  refine MV.start (by decide) (Nat.le_of_ble_eq_true rfl) (lv0 := [(0, .ref a), (1, .ref bi)]) rfl ?_
  intro pp9 ee9 ss9 mm9 args9 below9 meth9 co9 A9 Q9 hQ hC hr hlk hnm
  refine V_aload_n hC dX5_readLetter_0 rfl 0 rfl ?_
  refine V_get (ci := 5) (v := .ref sp) hC in_X5 0 rfl cls_X5 1 (by decide) fl_X5_21 rfl dX5_readLetter_1 ?_
  refine V_aload_n hC dX5_readLetter_4 rfl 0 rfl ?_
  refine V_get (ci := 5) (v := .int (nI (qV (s9)))) hC in_X5 0 rfl cls_X5 4 (by decide) fl_X5_33 rfl dX5_readLetter_5 ?_
  refine V_aload_n hC dX5_readLetter_8 rfl 0 rfl ?_
  refine V_get (ci := 5) (v := .ref co) hC in_X5 0 rfl cls_X5 0 (by decide) fl_X5_12 rfl dX5_readLetter_9 ?_
  refine V_calliV (As := [.int (nI (qV (s9))), .ref co]) (rest := []) (wr := [(a, .inr (5, [.ref co, .ref sp, .ref le, .int (nI ((qR (s9)).length)), .int (nI (qV (s9))), .int (nI (qK (s9))), .int (nI ov)])), (le, .inl (cI, 40, .inl (fun j => nI (lf j)))), (bi, .inr (0, [.ref r, .int (nI n)])), (r, .inl (cI, 658, .inl (fun j => nI (g j))))]) hC (c_X6_letterAround l D cI cQ sp (qL (s9)) (qU (s9)) (qV (s9)) co cr (qT (s9)) (qH (s9)) p b (qF (s9)) (hR.1) (⟨hR.2.1, hR.2.2.1, hR.2.2.2.1⟩)) mok_X6_letterAround ml_X5_56 (q1 := 0) rfl cls_X6 rfl rfl rfl (by decide) (by decide) (by decide) (Nat.le_of_ble_eq_true rfl) [3, 1, 2] [0, 4, 5, 6] rfl (by decide) rfl (by decide) (by decide) dX5_readLetter_12 rfl (fun r9 u9 h12 => ?_)
  obtain ⟨rfl, h12⟩ := h12
  clear h12
  refine V_perm (ws2 := [(a, .inr (5, [.ref co, .ref sp, .ref le, .int (nI ((qR (s9)).length)), .int (nI (qV (s9))), .int (nI (qK (s9))), .int (nI ov)])), (co, .inr (2, [.ref cr, .int (nI ((qT (s9)))), .int (nI ((qH (s9)))), .int (nI p), .int (nI b)])), (cr, .inl (cI, 9, .inl (fun j => nI (((qF (s9))) j)))), (sp, .inr (6, [.int (nI ((qL (s9)))), .int (nI ((qU (s9))))])), (le, .inl (cI, 40, .inl (fun j => nI (lf j)))), (bi, .inr (0, [.ref r, .int (nI n)])), (r, .inl (cI, 658, .inl (fun j => nI (g j))))]) [0, 5, 6, 4, 1, 2, 3] rfl (by decide) ?_
  refine V_st (st2 := [.int (nI 8)]) (by rw [show (lwX (qF (s9)) (qT (s9)) (qL (s9)) (qU (s9)) (qV (s9))) = (8) from hx]) ?_
  refine V_istore_n (lv2 := [(0, .ref a), (1, .ref bi), (2, .int (nI 8))]) hC dX5_readLetter_15 rfl (by decide) [1, 2, 0] rfl ?_
  refine V_iload_n hC dX5_readLetter_16 rfl 2 rfl ?_
  refine V_bipush (v := nI 8) hC dX5_readLetter_17 (by decide) ?_
  refine V_icmp_ne_F (tgt := 30) hC dX5_readLetter_19 (by decide) (congrArg nI (show 8 = 8 by omega)) ?_
  refine V_aload_n hC dX5_readLetter_22 rfl 0 rfl ?_
  refine V_iconst (v := nI 1) hC dX5_readLetter_23 (by decide) ?_
  refine V_put (ci := 5) (v := .int (nI 1)) hC tyX5 tyX5_ok nmX5 in_X5 0 rfl cls_X5 6 (by decide) fl_X5_39 rfl rfl rfl (Nat.le_of_ble_eq_true rfl) dX5_readLetter_24 (ws2 := [(a, .inr (5, [.ref co, .ref sp, .ref le, .int (nI ((qR (s9)).length)), .int (nI (qV (s9))), .int (nI (qK (s9))), .int (nI 1)])), (co, .inr (2, [.ref cr, .int (nI ((qT (s9)))), .int (nI ((qH (s9)))), .int (nI p), .int (nI b)])), (cr, .inl (cI, 9, .inl (fun j => nI (((qF (s9))) j)))), (sp, .inr (6, [.int (nI ((qL (s9)))), .int (nI ((qU (s9))))])), (le, .inl (cI, 40, .inl (fun j => nI (lf j)))), (bi, .inr (0, [.ref r, .int (nI n)])), (r, .inl (cI, 658, .inl (fun j => nI (g j))))]) rfl ?_
  refine V_goto (tgt := 83) hC dX5_readLetter_27 (by decide) ?_
  subst hQ
  exact V_vret hC hr hlk (by decide) (by decide) dX5_readLetter_83 (()) [0, 1, 2, 3, 4, 5, 6] rfl (by decide) (trivial)
abbrev rm_X5_readLetter_full : Room := { frames := 2, cells := 0, slots := 0, locals := 46 }
set_option maxHeartbeats 4000000 in
set_option maxRecDepth 100000 in
theorem c_X5_readLetter_full (l : Launch) (D : va_G) (cI cQ : ClassId) (a co sp le cr bi r n p b ov : Nat) (s9 : RS) (lf g β : Nat → Nat) (hn : n ≤ 658) (hβ : ∀ j, (if j < n then g j else 0) = β j) (hβ2 : ∀ j, β j < 2) (hR : okR s9) (hp : p ≤ 64) (hb : b ≤ 2000) (hl : rep lf (qR s9)) (hx : lwS s9 ≠ 8) (hz : 40 ≤ (qR s9).length) : MV l yX5_readLetter cX5_readLetter 3 none rm_X5_readLetter_full D (TY cI cQ) [.ref a, .ref bi] [(a, .inr (5, [.ref co, .ref sp, .ref le, .int (nI ((qR (s9)).length)), .int (nI (qV (s9))), .int (nI (qK (s9))), .int (nI ov)])), (co, .inr (2, [.ref cr, .int (nI (qT (s9))), .int (nI (qH (s9))), .int (nI p), .int (nI b)])), (cr, .inl (cI, 9, .inl (fun j => nI ((qF (s9)) j)))), (sp, .inr (6, [.int (nI (qL (s9))), .int (nI (qU (s9)))])), (le, .inl (cI, 40, .inl (fun j => nI (lf j)))), (bi, .inr (0, [.ref r, .int (nI n)])), (r, .inl (cI, 658, .inl (fun j => nI (g j))))] (fun (u : Unit) => True) (fun (u : Unit) => [(a, .inr (5, [.ref co, .ref sp, .ref le, .int (nI ((qR (s9)).length)), .int (nI (qV (s9))), .int (nI (qK (s9))), .int (nI ov)])), (co, .inr (2, [.ref cr, .int (nI (qT (s9))), .int (nI (qH (s9))), .int (nI p), .int (nI b)])), (cr, .inl (cI, 9, .inl (fun j => nI ((qF (s9)) j)))), (sp, .inr (6, [.int (nI (qL (s9))), .int (nI (qU (s9)))])), (le, .inl (cI, 40, .inl (fun j => nI (lf j)))), (bi, .inr (0, [.ref r, .int (nI n)])), (r, .inl (cI, 658, .inl (fun j => nI (g j))))]) 0 0 := by
  refine MV.start (by decide) (Nat.le_of_ble_eq_true rfl) (lv0 := [(0, .ref a), (1, .ref bi)]) rfl ?_
  intro pp9 ee9 ss9 mm9 args9 below9 meth9 co9 A9 Q9 hQ hC hr hlk hnm
  have hlw := hR.lw
  have hz2 := hR.2.2.2.2.2.2
  refine V_aload_n hC dX5_readLetter_0 rfl 0 rfl ?_
  refine V_get (ci := 5) (v := .ref sp) hC in_X5 0 rfl cls_X5 1 (by decide) fl_X5_21 rfl dX5_readLetter_1 ?_
  refine V_aload_n hC dX5_readLetter_4 rfl 0 rfl ?_
  refine V_get (ci := 5) (v := .int (nI (qV (s9)))) hC in_X5 0 rfl cls_X5 4 (by decide) fl_X5_33 rfl dX5_readLetter_5 ?_
  refine V_aload_n hC dX5_readLetter_8 rfl 0 rfl ?_
  refine V_get (ci := 5) (v := .ref co) hC in_X5 0 rfl cls_X5 0 (by decide) fl_X5_12 rfl dX5_readLetter_9 ?_
  refine V_calliV (As := [.int (nI (qV (s9))), .ref co]) (rest := []) (wr := [(a, .inr (5, [.ref co, .ref sp, .ref le, .int (nI ((qR (s9)).length)), .int (nI (qV (s9))), .int (nI (qK (s9))), .int (nI ov)])), (le, .inl (cI, 40, .inl (fun j => nI (lf j)))), (bi, .inr (0, [.ref r, .int (nI n)])), (r, .inl (cI, 658, .inl (fun j => nI (g j))))]) hC (c_X6_letterAround l D cI cQ sp (qL (s9)) (qU (s9)) (qV (s9)) co cr (qT (s9)) (qH (s9)) p b (qF (s9)) (hR.1) (⟨hR.2.1, hR.2.2.1, hR.2.2.2.1⟩)) mok_X6_letterAround ml_X5_56 (q1 := 0) rfl cls_X6 rfl rfl rfl (by decide) (by decide) (by decide) (Nat.le_of_ble_eq_true rfl) [3, 1, 2] [0, 4, 5, 6] rfl (by decide) rfl (by decide) (by decide) dX5_readLetter_12 rfl (fun r9 u9 h12 => ?_)
  obtain ⟨rfl, h12⟩ := h12
  clear h12
  refine V_perm (ws2 := [(a, .inr (5, [.ref co, .ref sp, .ref le, .int (nI ((qR (s9)).length)), .int (nI (qV (s9))), .int (nI (qK (s9))), .int (nI ov)])), (co, .inr (2, [.ref cr, .int (nI ((qT (s9)))), .int (nI ((qH (s9)))), .int (nI p), .int (nI b)])), (cr, .inl (cI, 9, .inl (fun j => nI (((qF (s9))) j)))), (sp, .inr (6, [.int (nI ((qL (s9)))), .int (nI ((qU (s9))))])), (le, .inl (cI, 40, .inl (fun j => nI (lf j)))), (bi, .inr (0, [.ref r, .int (nI n)])), (r, .inl (cI, 658, .inl (fun j => nI (g j))))]) [0, 5, 6, 4, 1, 2, 3] rfl (by decide) ?_
  refine V_st (st2 := [.int (nI (lwS s9))]) rfl ?_
  refine V_istore_n (lv2 := [(0, .ref a), (1, .ref bi), (2, .int (nI (lwS s9)))]) hC dX5_readLetter_15 rfl (by decide) [1, 2, 0] rfl ?_
  refine V_iload_n hC dX5_readLetter_16 rfl 2 rfl ?_
  refine V_bipush (v := nI 8) hC dX5_readLetter_17 (by decide) ?_
  refine V_icmp_ne_T (tgt := 30) hC dX5_readLetter_19 (by decide) (fun z => absurd ((nI_eq (by omega) (by omega)).mp z) (show ¬ lwS s9 = 8 by omega)) ?_
  refine V_aload_n hC dX5_readLetter_30 rfl 0 rfl ?_
  refine V_get (ci := 5) (v := .int (nI ((qR (s9)).length))) hC in_X5 0 rfl cls_X5 3 (by decide) fl_X5_29 rfl dX5_readLetter_31 ?_
  refine V_if_lt_F (tgt := 83) hC dX5_readLetter_34 (by decide) (nI_pos (by omega)) ?_
  refine V_aload_n hC dX5_readLetter_37 rfl 0 rfl ?_
  refine V_get (ci := 5) (v := .int (nI ((qR (s9)).length))) hC in_X5 0 rfl cls_X5 3 (by decide) fl_X5_29 rfl dX5_readLetter_38 ?_
  refine V_aload_n hC dX5_readLetter_41 rfl 0 rfl ?_
  refine V_get (ci := 5) (v := .ref le) hC in_X5 0 rfl cls_X5 2 (by decide) fl_X5_25 rfl dX5_readLetter_42 ?_
  refine V_alen (v := (nI 40)) hC 4 0 rfl rfl rfl dX5_readLetter_45 ?_
  refine V_icmp_ge_T (tgt := 83) hC dX5_readLetter_46 (by decide) (nI_le (by omega) (by omega)) ?_
  subst hQ
  exact V_vret hC hr hlk (by decide) (by decide) dX5_readLetter_83 (()) [0, 1, 2, 3, 4, 5, 6] rfl (by decide) (trivial)
abbrev rm_X5_readLetter_go : Room := { frames := 3, cells := 0, slots := 0, locals := 73 }
set_option maxHeartbeats 4000000 in
set_option maxRecDepth 100000 in
theorem c_X5_readLetter_go (l : Launch) (D : va_G) (cI cQ : ClassId) (a co sp le cr bi r n p b ov : Nat) (s9 : RS) (lf g β : Nat → Nat) (hn : n ≤ 658) (hβ : ∀ j, (if j < n then g j else 0) = β j) (hβ2 : ∀ j, β j < 2) (hR : okR s9) (hp : p ≤ 64) (hb : b ≤ 2000) (hl : rep lf (qR s9)) (hx : lwS s9 ≠ 8) (hz : (qR s9).length < 40) : MV l yX5_readLetter cX5_readLetter 3 none rm_X5_readLetter_go D (TY cI cQ) [.ref a, .ref bi] [(a, .inr (5, [.ref co, .ref sp, .ref le, .int (nI ((qR (s9)).length)), .int (nI (qV (s9))), .int (nI (qK (s9))), .int (nI ov)])), (co, .inr (2, [.ref cr, .int (nI (qT (s9))), .int (nI (qH (s9))), .int (nI p), .int (nI b)])), (cr, .inl (cI, 9, .inl (fun j => nI ((qF (s9)) j)))), (sp, .inr (6, [.int (nI (qL (s9))), .int (nI (qU (s9)))])), (le, .inl (cI, 40, .inl (fun j => nI (lf j)))), (bi, .inr (0, [.ref r, .int (nI n)])), (r, .inl (cI, 658, .inl (fun j => nI (g j))))] (fun (u : (Nat → Nat)) => rep u (qR (rStep p b β s9))) (fun (u : (Nat → Nat)) => [(a, .inr (5, [.ref co, .ref sp, .ref le, .int (nI ((qR (rStep p b β s9)).length)), .int (nI (qV (rStep p b β s9))), .int (nI (qK (rStep p b β s9))), .int (nI ov)])), (co, .inr (2, [.ref cr, .int (nI (qT (rStep p b β s9))), .int (nI (qH (rStep p b β s9))), .int (nI p), .int (nI b)])), (cr, .inl (cI, 9, .inl (fun j => nI ((qF (rStep p b β s9)) j)))), (sp, .inr (6, [.int (nI (qL (rStep p b β s9))), .int (nI (qU (rStep p b β s9)))])), (le, .inl (cI, 40, .inl (fun j => nI (u j)))), (bi, .inr (0, [.ref r, .int (nI n)])), (r, .inl (cI, 658, .inl (fun j => nI (g j))))]) 0 0 := by
  refine MV.start (by decide) (Nat.le_of_ble_eq_true rfl) (lv0 := [(0, .ref a), (1, .ref bi)]) rfl ?_
  intro pp9 ee9 ss9 mm9 args9 below9 meth9 co9 A9 Q9 hQ hC hr hlk hnm
  have hlw := hR.lw
  have hk9 := hR.2.2.2.2.2.1
  refine V_aload_n hC dX5_readLetter_0 rfl 0 rfl ?_
  refine V_get (ci := 5) (v := .ref sp) hC in_X5 0 rfl cls_X5 1 (by decide) fl_X5_21 rfl dX5_readLetter_1 ?_
  refine V_aload_n hC dX5_readLetter_4 rfl 0 rfl ?_
  refine V_get (ci := 5) (v := .int (nI (qV (s9)))) hC in_X5 0 rfl cls_X5 4 (by decide) fl_X5_33 rfl dX5_readLetter_5 ?_
  refine V_aload_n hC dX5_readLetter_8 rfl 0 rfl ?_
  refine V_get (ci := 5) (v := .ref co) hC in_X5 0 rfl cls_X5 0 (by decide) fl_X5_12 rfl dX5_readLetter_9 ?_
  refine V_calliV (As := [.int (nI (qV (s9))), .ref co]) (rest := []) (wr := [(a, .inr (5, [.ref co, .ref sp, .ref le, .int (nI ((qR (s9)).length)), .int (nI (qV (s9))), .int (nI (qK (s9))), .int (nI ov)])), (le, .inl (cI, 40, .inl (fun j => nI (lf j)))), (bi, .inr (0, [.ref r, .int (nI n)])), (r, .inl (cI, 658, .inl (fun j => nI (g j))))]) hC (c_X6_letterAround l D cI cQ sp (qL (s9)) (qU (s9)) (qV (s9)) co cr (qT (s9)) (qH (s9)) p b (qF (s9)) (hR.1) (⟨hR.2.1, hR.2.2.1, hR.2.2.2.1⟩)) mok_X6_letterAround ml_X5_56 (q1 := 0) rfl cls_X6 rfl rfl rfl (by decide) (by decide) (by decide) (Nat.le_of_ble_eq_true rfl) [3, 1, 2] [0, 4, 5, 6] rfl (by decide) rfl (by decide) (by decide) dX5_readLetter_12 rfl (fun r9 u9 h12 => ?_)
  obtain ⟨rfl, h12⟩ := h12
  clear h12
  refine V_perm (ws2 := [(a, .inr (5, [.ref co, .ref sp, .ref le, .int (nI ((qR (s9)).length)), .int (nI (qV (s9))), .int (nI (qK (s9))), .int (nI ov)])), (co, .inr (2, [.ref cr, .int (nI ((qT (s9)))), .int (nI ((qH (s9)))), .int (nI p), .int (nI b)])), (cr, .inl (cI, 9, .inl (fun j => nI (((qF (s9))) j)))), (sp, .inr (6, [.int (nI ((qL (s9)))), .int (nI ((qU (s9))))])), (le, .inl (cI, 40, .inl (fun j => nI (lf j)))), (bi, .inr (0, [.ref r, .int (nI n)])), (r, .inl (cI, 658, .inl (fun j => nI (g j))))]) [0, 5, 6, 4, 1, 2, 3] rfl (by decide) ?_
  refine V_st (st2 := [.int (nI (lwS s9))]) rfl ?_
  refine V_istore_n (lv2 := [(0, .ref a), (1, .ref bi), (2, .int (nI (lwS s9)))]) hC dX5_readLetter_15 rfl (by decide) [1, 2, 0] rfl ?_
  refine V_iload_n hC dX5_readLetter_16 rfl 2 rfl ?_
  refine V_bipush (v := nI 8) hC dX5_readLetter_17 (by decide) ?_
  refine V_icmp_ne_T (tgt := 30) hC dX5_readLetter_19 (by decide) (fun z => absurd ((nI_eq (by omega) (by omega)).mp z) (show ¬ lwS s9 = 8 by omega)) ?_
  refine V_aload_n hC dX5_readLetter_30 rfl 0 rfl ?_
  refine V_get (ci := 5) (v := .int (nI ((qR (s9)).length))) hC in_X5 0 rfl cls_X5 3 (by decide) fl_X5_29 rfl dX5_readLetter_31 ?_
  refine V_if_lt_F (tgt := 83) hC dX5_readLetter_34 (by decide) (nI_pos (by omega)) ?_
  refine V_aload_n hC dX5_readLetter_37 rfl 0 rfl ?_
  refine V_get (ci := 5) (v := .int (nI ((qR (s9)).length))) hC in_X5 0 rfl cls_X5 3 (by decide) fl_X5_29 rfl dX5_readLetter_38 ?_
  refine V_aload_n hC dX5_readLetter_41 rfl 0 rfl ?_
  refine V_get (ci := 5) (v := .ref le) hC in_X5 0 rfl cls_X5 2 (by decide) fl_X5_25 rfl dX5_readLetter_42 ?_
  refine V_alen (v := (nI 40)) hC 4 0 rfl rfl rfl dX5_readLetter_45 ?_
  refine V_icmp_ge_F (tgt := 83) hC dX5_readLetter_46 (by decide) (nI_ge (by omega) (by omega)) ?_
  refine V_aload_n hC dX5_readLetter_49 rfl 0 rfl ?_
  refine V_get (ci := 5) (v := .ref le) hC in_X5 0 rfl cls_X5 2 (by decide) fl_X5_25 rfl dX5_readLetter_50 ?_
  refine V_aload_n hC dX5_readLetter_53 rfl 0 rfl ?_
  refine V_get (ci := 5) (v := .int (nI ((qR (s9)).length))) hC in_X5 0 rfl cls_X5 3 (by decide) fl_X5_29 rfl dX5_readLetter_54 ?_
  refine V_iload_n hC dX5_readLetter_57 rfl 2 rfl ?_
  refine V_iast hC 4 0 rfl rfl (by omega) (by decide) dX5_readLetter_58 (ws2 := [(a, .inr (5, [.ref co, .ref sp, .ref le, .int (nI ((qR (s9)).length)), .int (nI (qV (s9))), .int (nI (qK (s9))), .int (nI ov)])), (co, .inr (2, [.ref cr, .int (nI ((qT (s9)))), .int (nI ((qH (s9)))), .int (nI p), .int (nI b)])), (cr, .inl (cI, 9, .inl (fun j => nI (((qF (s9))) j)))), (sp, .inr (6, [.int (nI ((qL (s9)))), .int (nI ((qU (s9))))])), (le, .inl (cI, 40, .inl (fun j => nI ((va_up lf ((qR (s9)).length) (lwS s9)) j)))), (bi, .inr (0, [.ref r, .int (nI n)])), (r, .inl (cI, 658, .inl (fun j => nI (g j))))]) rfl ?_
  refine V_aload_n hC dX5_readLetter_59 rfl 0 rfl ?_
  refine V_dup hC dX5_readLetter_60 rfl ?_
  refine V_get (ci := 5) (v := .int (nI ((qR (s9)).length))) hC in_X5 0 rfl cls_X5 3 (by decide) fl_X5_29 rfl dX5_readLetter_61 ?_
  refine V_iconst (v := nI 1) hC dX5_readLetter_64 (by decide) ?_
  refine V_iadd hC dX5_readLetter_65 ?_
  refine V_put (ci := 5) (v := .int (nI (((qR (s9)).length) + 1))) hC tyX5 tyX5_ok nmX5 in_X5 0 rfl cls_X5 3 (by decide) fl_X5_29 rfl rfl rfl (Nat.le_of_ble_eq_true rfl) dX5_readLetter_66 (ws2 := [(a, .inr (5, [.ref co, .ref sp, .ref le, .int (nI (((qR (s9)).length) + 1)), .int (nI (qV (s9))), .int (nI (qK (s9))), .int (nI ov)])), (co, .inr (2, [.ref cr, .int (nI ((qT (s9)))), .int (nI ((qH (s9)))), .int (nI p), .int (nI b)])), (cr, .inl (cI, 9, .inl (fun j => nI (((qF (s9))) j)))), (sp, .inr (6, [.int (nI ((qL (s9)))), .int (nI ((qU (s9))))])), (le, .inl (cI, 40, .inl (fun j => nI ((va_up lf ((qR (s9)).length) (lwS s9)) j)))), (bi, .inr (0, [.ref r, .int (nI n)])), (r, .inl (cI, 658, .inl (fun j => nI (g j))))]) rfl ?_
  refine V_aload_n hC dX5_readLetter_69 rfl 0 rfl ?_
  refine V_iload_n hC dX5_readLetter_70 rfl 2 rfl ?_
  refine V_aload_n hC dX5_readLetter_71 rfl 1 rfl ?_
  refine V_callvV (As := [.int (nI (lwS s9)), .ref bi]) (rest := []) (wr := [(le, .inl (cI, 40, .inl (fun j => nI ((va_up lf ((qR (s9)).length) (lwS s9)) j))))]) hC (c_X5_narrow l D cI cQ a co sp le (((qR (s9)).length) + 1) (qV (s9)) (qK (s9)) ov cr ((qT (s9))) ((qH (s9))) p b ((qL (s9))) ((qU (s9))) bi r n (lwS s9) ((qF (s9))) g β (by omega) (hβ) (hβ2) (hlw.1) (hR.1) (⟨Nat.le_trans hR.2.1 hR.2.2.1, hR.2.2.2.1⟩) (hR.wide) (⟨hlw.2.1, hlw.2.2⟩) (by omega)) mok_X5_narrow ml_X5_60 (q1 := 0) rfl cls_X5 rfl rfl rfl (by decide) (by decide) (by decide) (Nat.le_of_ble_eq_true rfl) [0, 1, 2, 3, 5, 6] [4] rfl (by decide) rfl (by decide) (by decide) dX5_readLetter_72 rfl (fun u9 h72 => ?_)
  clear h72
  refine V_perm (ws2 := [(a, .inr (5, [.ref co, .ref sp, .ref le, .int (nI ((((qR (s9)).length) + 1))), .int (nI ((nv β 16 (shL ((qF (s9))) ((qT (s9))) (lwS s9) ((qL (s9))) ((qU (s9)))) (shU ((qF (s9))) ((qT (s9))) (lwS s9) ((qL (s9))) ((qU (s9)))) (qV (s9)) (qK (s9))).2.2.1)), .int (nI ((nv β 16 (shL ((qF (s9))) ((qT (s9))) (lwS s9) ((qL (s9))) ((qU (s9)))) (shU ((qF (s9))) ((qT (s9))) (lwS s9) ((qL (s9))) ((qU (s9)))) (qV (s9)) (qK (s9))).2.2.2)), .int (nI ov)])), (co, .inr (2, [.ref cr, .int (nI (((qT (s9))))), .int (nI (((qH (s9))))), .int (nI p), .int (nI b)])), (cr, .inl (cI, 9, .inl (fun j => nI ((((qF (s9)))) j)))), (sp, .inr (6, [.int (nI ((nv β 16 (shL ((qF (s9))) ((qT (s9))) (lwS s9) ((qL (s9))) ((qU (s9)))) (shU ((qF (s9))) ((qT (s9))) (lwS s9) ((qL (s9))) ((qU (s9)))) (qV (s9)) (qK (s9))).1)), .int (nI ((nv β 16 (shL ((qF (s9))) ((qT (s9))) (lwS s9) ((qL (s9))) ((qU (s9)))) (shU ((qF (s9))) ((qT (s9))) (lwS s9) ((qL (s9))) ((qU (s9)))) (qV (s9)) (qK (s9))).2.1))])), (le, .inl (cI, 40, .inl (fun j => nI ((va_up lf ((qR (s9)).length) (lwS s9)) j)))), (bi, .inr (0, [.ref r, .int (nI n)])), (r, .inl (cI, 658, .inl (fun j => nI (g j))))]) [1, 2, 3, 4, 0, 5, 6] rfl (by decide) ?_
  refine V_aload_n hC dX5_readLetter_75 rfl 0 rfl ?_
  refine V_get (ci := 5) (v := .ref co) hC in_X5 0 rfl cls_X5 0 (by decide) fl_X5_12 rfl dX5_readLetter_76 ?_
  refine V_iload_n hC dX5_readLetter_79 rfl 2 rfl ?_
  refine V_callvV (As := [.int (nI (lwS s9))]) (rest := []) (wr := [(a, .inr (5, [.ref co, .ref sp, .ref le, .int (nI ((((qR (s9)).length) + 1))), .int (nI ((nv β 16 (shL ((qF (s9))) ((qT (s9))) (lwS s9) ((qL (s9))) ((qU (s9)))) (shU ((qF (s9))) ((qT (s9))) (lwS s9) ((qL (s9))) ((qU (s9)))) (qV (s9)) (qK (s9))).2.2.1)), .int (nI ((nv β 16 (shL ((qF (s9))) ((qT (s9))) (lwS s9) ((qL (s9))) ((qU (s9)))) (shU ((qF (s9))) ((qT (s9))) (lwS s9) ((qL (s9))) ((qU (s9)))) (qV (s9)) (qK (s9))).2.2.2)), .int (nI ov)])), (sp, .inr (6, [.int (nI ((nv β 16 (shL ((qF (s9))) ((qT (s9))) (lwS s9) ((qL (s9))) ((qU (s9)))) (shU ((qF (s9))) ((qT (s9))) (lwS s9) ((qL (s9))) ((qU (s9)))) (qV (s9)) (qK (s9))).1)), .int (nI ((nv β 16 (shL ((qF (s9))) ((qT (s9))) (lwS s9) ((qL (s9))) ((qU (s9)))) (shU ((qF (s9))) ((qT (s9))) (lwS s9) ((qL (s9))) ((qU (s9)))) (qV (s9)) (qK (s9))).2.1))])), (le, .inl (cI, 40, .inl (fun j => nI ((va_up lf ((qR (s9)).length) (lwS s9)) j)))), (bi, .inr (0, [.ref r, .int (nI n)])), (r, .inl (cI, 658, .inl (fun j => nI (g j))))]) hC (c_X2_learn l D cI cQ co cr (((qT (s9)))) (((qH (s9)))) p b (lwS s9) (((qF (s9)))) (hlw.1) (fun j hj => hR.1.le hj) (hR.1.2.2) (hp) (hb)) mok_X2_learn ml_X5_64 (q1 := 0) rfl cls_X2 rfl rfl rfl (by decide) (by decide) (by decide) (Nat.le_of_ble_eq_true rfl) [1, 2] [0, 3, 4, 5, 6] rfl (by decide) rfl (by decide) (by decide) dX5_readLetter_80 rfl (fun u9 h80 => ?_)
  clear h80
  refine V_perm (ws2 := [(a, .inr (5, [.ref co, .ref sp, .ref le, .int (nI ((((qR (s9)).length) + 1))), .int (nI ((nv β 16 (shL ((qF (s9))) ((qT (s9))) (lwS s9) ((qL (s9))) ((qU (s9)))) (shU ((qF (s9))) ((qT (s9))) (lwS s9) ((qL (s9))) ((qU (s9)))) (qV (s9)) (qK (s9))).2.2.1)), .int (nI ((nv β 16 (shL ((qF (s9))) ((qT (s9))) (lwS s9) ((qL (s9))) ((qU (s9)))) (shU ((qF (s9))) ((qT (s9))) (lwS s9) ((qL (s9))) ((qU (s9)))) (qV (s9)) (qK (s9))).2.2.2)), .int (nI ov)])), (co, .inr (2, [.ref cr, .int (nI (lrT p b (((qF (s9)))) (((qT (s9)))) (lwS s9))), .int (nI (lrH p b (((qT (s9)))) (((qH (s9)))))), .int (nI p), .int (nI b)])), (cr, .inl (cI, 9, .inl (fun j => nI ((lrF p b (((qF (s9)))) (((qT (s9)))) (lwS s9)) j)))), (sp, .inr (6, [.int (nI ((nv β 16 (shL ((qF (s9))) ((qT (s9))) (lwS s9) ((qL (s9))) ((qU (s9)))) (shU ((qF (s9))) ((qT (s9))) (lwS s9) ((qL (s9))) ((qU (s9)))) (qV (s9)) (qK (s9))).1)), .int (nI ((nv β 16 (shL ((qF (s9))) ((qT (s9))) (lwS s9) ((qL (s9))) ((qU (s9)))) (shU ((qF (s9))) ((qT (s9))) (lwS s9) ((qL (s9))) ((qU (s9)))) (qV (s9)) (qK (s9))).2.1))])), (le, .inl (cI, 40, .inl (fun j => nI ((va_up lf ((qR (s9)).length) (lwS s9)) j)))), (bi, .inr (0, [.ref r, .int (nI n)])), (r, .inl (cI, 658, .inl (fun j => nI (g j))))]) [0, 5, 6, 1, 2, 3, 4] rfl (by decide) ?_
  refine V_ws (ws2 := [(a, .inr (5, [.ref co, .ref sp, .ref le, .int (nI ((qR (rStep p b β s9)).length)), .int (nI (qV (rStep p b β s9))), .int (nI (qK (rStep p b β s9))), .int (nI ov)])), (co, .inr (2, [.ref cr, .int (nI (qT (rStep p b β s9))), .int (nI (qH (rStep p b β s9))), .int (nI p), .int (nI b)])), (cr, .inl (cI, 9, .inl (fun j => nI ((qF (rStep p b β s9)) j)))), (sp, .inr (6, [.int (nI (qL (rStep p b β s9))), .int (nI (qU (rStep p b β s9)))])), (le, .inl (cI, 40, .inl (fun j => nI ((va_up lf (qR s9).length (lwS s9)) j)))), (bi, .inr (0, [.ref r, .int (nI n)])), (r, .inl (cI, 658, .inl (fun j => nI (g j))))]) (by rw [show (qR (rStep p b β s9)).length = (qR s9).length + 1 from by show (qR s9 ++ [lwS s9]).length = _; rw [List.length_append, List.length_singleton]]; rfl) ?_
  subst hQ
  exact V_vret hC hr hlk (by decide) (by decide) dX5_readLetter_83 (va_up lf (qR s9).length (lwS s9)) [0, 1, 2, 3, 4, 5, 6] rfl (by decide) (rep_push hl rfl)
abbrev rm_X5_read : Room := { frames := 4, cells := 0, slots := 0, locals := 95 }
set_option maxHeartbeats 4000000 in
set_option maxRecDepth 100000 in
theorem c_X5_read (l : Launch) (D : va_G) (cI cQ : ClassId) (a co sp le siz num tk ov cr t h p2 b2 lo hi bi r n p b : Nat) (f lf g β : Nat → Nat) (hn : n ≤ 658) (hβ : ∀ j, (if j < n then g j else 0) = β j) (hβ2 : ∀ j, β j < 2) (hp : p ≤ 64) (hb : b ≤ 2000) : MV l yX5_read cX5_read 5 none rm_X5_read D (TY cI cQ) [.ref a, .ref bi, .int (nI p), .int (nI b)] [(a, .inr (5, [.ref co, .ref sp, .ref le, .int (nI siz), .int (nI num), .int (nI tk), .int (nI ov)])), (co, .inr (2, [.ref cr, .int (nI t), .int (nI h), .int (nI p2), .int (nI b2)])), (cr, .inl (cI, 9, .inl (fun j => nI (f j)))), (sp, .inr (6, [.int (nI lo), .int (nI hi)])), (le, .inl (cI, 40, .inl (fun j => nI (lf j)))), (bi, .inr (0, [.ref r, .int (nI n)])), (r, .inl (cI, 658, .inl (fun j => nI (g j))))] (fun (u : (Nat → Nat)) => rep u (qR (rdF p b β).2)) (fun (u : (Nat → Nat)) => [(a, .inr (5, [.ref co, .ref sp, .ref le, .int (nI ((qR ((rdF p b β).2)).length)), .int (nI (qV ((rdF p b β).2))), .int (nI (qK ((rdF p b β).2))), .int (nI ((rdF p b β).1))])), (co, .inr (2, [.ref cr, .int (nI (qT ((rdF p b β).2))), .int (nI (qH ((rdF p b β).2))), .int (nI p), .int (nI b)])), (cr, .inl (cI, 9, .inl (fun j => nI ((qF ((rdF p b β).2)) j)))), (sp, .inr (6, [.int (nI (qL ((rdF p b β).2))), .int (nI (qU ((rdF p b β).2)))])), (le, .inl (cI, 40, .inl (fun j => nI (u j)))), (bi, .inr (0, [.ref r, .int (nI n)])), (r, .inl (cI, 658, .inl (fun j => nI (g j))))]) 0 0 := by
  refine MV.start (by decide) (Nat.le_of_ble_eq_true rfl) (lv0 := [(0, .ref a), (1, .ref bi), (2, .int (nI p)), (3, .int (nI b))]) rfl ?_
  intro pp9 ee9 ss9 mm9 args9 below9 meth9 co9 A9 Q9 hQ hC hr hlk hnm
  refine V_aload_n hC dX5_read_0 rfl 0 rfl ?_
  refine V_get (ci := 5) (v := .ref co) hC in_X5 0 rfl cls_X5 0 (by decide) fl_X5_12 rfl dX5_read_1 ?_
  refine V_iload_n hC dX5_read_4 rfl 2 rfl ?_
  refine V_iload_n hC dX5_read_5 rfl 3 rfl ?_
  refine V_callvV (As := [.int (nI p), .int (nI b)]) (rest := []) (wr := [(a, .inr (5, [.ref co, .ref sp, .ref le, .int (nI siz), .int (nI num), .int (nI tk), .int (nI ov)])), (sp, .inr (6, [.int (nI lo), .int (nI hi)])), (le, .inl (cI, 40, .inl (fun j => nI (lf j)))), (bi, .inr (0, [.ref r, .int (nI n)])), (r, .inl (cI, 658, .inl (fun j => nI (g j))))]) hC (c_X2_start l D cI cQ co cr t h p2 b2 p b f ) mok_X2_start ml_X5_43 (q1 := 0) rfl cls_X2 rfl rfl rfl (by decide) (by decide) (by decide) (Nat.le_of_ble_eq_true rfl) [1, 2] [0, 3, 4, 5, 6] rfl (by decide) rfl (by decide) (by decide) dX5_read_6 rfl (fun u9 h6 => ?_)
  clear h6
  refine V_perm (ws2 := [(a, .inr (5, [.ref co, .ref sp, .ref le, .int (nI siz), .int (nI num), .int (nI tk), .int (nI ov)])), (co, .inr (2, [.ref cr, .int (nI 9), .int (nI 0), .int (nI p), .int (nI b)])), (cr, .inl (cI, 9, .inl (fun j => nI (one j)))), (sp, .inr (6, [.int (nI lo), .int (nI hi)])), (le, .inl (cI, 40, .inl (fun j => nI (lf j)))), (bi, .inr (0, [.ref r, .int (nI n)])), (r, .inl (cI, 658, .inl (fun j => nI (g j))))]) [0, 5, 6, 1, 2, 3, 4] rfl (by decide) ?_
  refine V_aload_n hC dX5_read_9 rfl 0 rfl ?_
  refine V_get (ci := 5) (v := .ref sp) hC in_X5 0 rfl cls_X5 1 (by decide) fl_X5_21 rfl dX5_read_10 ?_
  refine V_callvV (As := []) (rest := []) (wr := [(a, .inr (5, [.ref co, .ref sp, .ref le, .int (nI siz), .int (nI num), .int (nI tk), .int (nI ov)])), (co, .inr (2, [.ref cr, .int (nI 9), .int (nI 0), .int (nI p), .int (nI b)])), (cr, .inl (cI, 9, .inl (fun j => nI (one j)))), (le, .inl (cI, 40, .inl (fun j => nI (lf j)))), (bi, .inr (0, [.ref r, .int (nI n)])), (r, .inl (cI, 658, .inl (fun j => nI (g j))))]) hC (c_X6_start l D cI cQ sp lo hi ) mok_X6_start ml_X5_47 (q1 := 0) rfl cls_X6 rfl rfl rfl (by decide) (by decide) (by decide) (Nat.le_of_ble_eq_true rfl) [3] [0, 1, 2, 4, 5, 6] rfl (by decide) rfl (by decide) (by decide) dX5_read_13 rfl (fun u9 h13 => ?_)
  clear h13
  refine V_perm (ws2 := [(a, .inr (5, [.ref co, .ref sp, .ref le, .int (nI siz), .int (nI num), .int (nI tk), .int (nI ov)])), (co, .inr (2, [.ref cr, .int (nI 9), .int (nI 0), .int (nI p), .int (nI b)])), (cr, .inl (cI, 9, .inl (fun j => nI (one j)))), (sp, .inr (6, [.int (nI 0), .int (nI 65535)])), (le, .inl (cI, 40, .inl (fun j => nI (lf j)))), (bi, .inr (0, [.ref r, .int (nI n)])), (r, .inl (cI, 658, .inl (fun j => nI (g j))))]) [0, 1, 2, 6, 3, 4, 5] rfl (by decide) ?_
  refine V_aload_n hC dX5_read_16 rfl 0 rfl ?_
  refine V_iconst (v := nI 0) hC dX5_read_17 (by decide) ?_
  refine V_put (ci := 5) (v := .int (nI 0)) hC tyX5 tyX5_ok nmX5 in_X5 0 rfl cls_X5 3 (by decide) fl_X5_29 rfl rfl rfl (Nat.le_of_ble_eq_true rfl) dX5_read_18 (ws2 := [(a, .inr (5, [.ref co, .ref sp, .ref le, .int (nI 0), .int (nI num), .int (nI tk), .int (nI ov)])), (co, .inr (2, [.ref cr, .int (nI 9), .int (nI 0), .int (nI p), .int (nI b)])), (cr, .inl (cI, 9, .inl (fun j => nI (one j)))), (sp, .inr (6, [.int (nI 0), .int (nI 65535)])), (le, .inl (cI, 40, .inl (fun j => nI (lf j)))), (bi, .inr (0, [.ref r, .int (nI n)])), (r, .inl (cI, 658, .inl (fun j => nI (g j))))]) rfl ?_
  refine V_aload_n hC dX5_read_21 rfl 0 rfl ?_
  refine V_iconst (v := nI 0) hC dX5_read_22 (by decide) ?_
  refine V_put (ci := 5) (v := .int (nI 0)) hC tyX5 tyX5_ok nmX5 in_X5 0 rfl cls_X5 4 (by decide) fl_X5_33 rfl rfl rfl (Nat.le_of_ble_eq_true rfl) dX5_read_23 (ws2 := [(a, .inr (5, [.ref co, .ref sp, .ref le, .int (nI 0), .int (nI 0), .int (nI tk), .int (nI ov)])), (co, .inr (2, [.ref cr, .int (nI 9), .int (nI 0), .int (nI p), .int (nI b)])), (cr, .inl (cI, 9, .inl (fun j => nI (one j)))), (sp, .inr (6, [.int (nI 0), .int (nI 65535)])), (le, .inl (cI, 40, .inl (fun j => nI (lf j)))), (bi, .inr (0, [.ref r, .int (nI n)])), (r, .inl (cI, 658, .inl (fun j => nI (g j))))]) rfl ?_
  refine V_aload_n hC dX5_read_26 rfl 0 rfl ?_
  refine V_iconst (v := nI 0) hC dX5_read_27 (by decide) ?_
  refine V_put (ci := 5) (v := .int (nI 0)) hC tyX5 tyX5_ok nmX5 in_X5 0 rfl cls_X5 5 (by decide) fl_X5_36 rfl rfl rfl (Nat.le_of_ble_eq_true rfl) dX5_read_28 (ws2 := [(a, .inr (5, [.ref co, .ref sp, .ref le, .int (nI 0), .int (nI 0), .int (nI 0), .int (nI ov)])), (co, .inr (2, [.ref cr, .int (nI 9), .int (nI 0), .int (nI p), .int (nI b)])), (cr, .inl (cI, 9, .inl (fun j => nI (one j)))), (sp, .inr (6, [.int (nI 0), .int (nI 65535)])), (le, .inl (cI, 40, .inl (fun j => nI (lf j)))), (bi, .inr (0, [.ref r, .int (nI n)])), (r, .inl (cI, 658, .inl (fun j => nI (g j))))]) rfl ?_
  refine V_aload_n hC dX5_read_31 rfl 0 rfl ?_
  refine V_iconst (v := nI 0) hC dX5_read_32 (by decide) ?_
  refine V_put (ci := 5) (v := .int (nI 0)) hC tyX5 tyX5_ok nmX5 in_X5 0 rfl cls_X5 6 (by decide) fl_X5_39 rfl rfl rfl (Nat.le_of_ble_eq_true rfl) dX5_read_33 (ws2 := [(a, .inr (5, [.ref co, .ref sp, .ref le, .int (nI 0), .int (nI 0), .int (nI 0), .int (nI 0)])), (co, .inr (2, [.ref cr, .int (nI 9), .int (nI 0), .int (nI p), .int (nI b)])), (cr, .inl (cI, 9, .inl (fun j => nI (one j)))), (sp, .inr (6, [.int (nI 0), .int (nI 65535)])), (le, .inl (cI, 40, .inl (fun j => nI (lf j)))), (bi, .inr (0, [.ref r, .int (nI n)])), (r, .inl (cI, 658, .inl (fun j => nI (g j))))]) rfl ?_
  refine V_iconst (v := nI 0) hC dX5_read_36 (by decide) ?_
  refine V_istore (lv2 := [(0, .ref a), (1, .ref bi), (2, .int (nI p)), (3, .int (nI b)), (4, .int (nI 0))]) hC dX5_read_37 (by decide) [1, 2, 3, 4, 0] rfl ?_
  have L39 : ∀ (n9 : Nat) (i : Nat), (i ≤ 16) → 16 - i < n9 → V pp9 l ee9 rm_X5_read ss9 mm9 args9 below9 meth9 co9 D A9 ss9.heap 5 Q9 [(a, .inr (5, [.ref co, .ref sp, .ref le, .int (nI 0), .int (nI (v16 β i)), .int (nI i), .int (nI 0)])), (co, .inr (2, [.ref cr, .int (nI 9), .int (nI 0), .int (nI p), .int (nI b)])), (cr, .inl (cI, 9, .inl (fun j => nI (one j)))), (sp, .inr (6, [.int (nI 0), .int (nI 65535)])), (le, .inl (cI, 40, .inl (fun j => nI (lf j)))), (bi, .inr (0, [.ref r, .int (nI n)])), (r, .inl (cI, 658, .inl (fun j => nI (g j))))] [(0, .ref a), (1, .ref bi), (2, .int (nI p)), (3, .int (nI b)), (4, .int (nI i))] 0 0 39 [] := by
    intro n9
    induction n9 with
    | zero => intro i h1 h9; exact absurd h9 (Nat.not_lt_zero _)
    | succ n9 ih =>
      intro i h1 h9
      refine V_iload hC dX5_read_39 4 rfl ?_
      refine V_bipush (v := nI 16) hC dX5_read_41 (by decide) ?_
      refine V_icmp_ge (tgt := 57) hC (by omega) (by omega) dX5_read_43 (by decide) (fun c43 => ?_) (fun c43 => ?_)
      · refine V_iconst (v := nI 0) hC dX5_read_57 (by decide) ?_
        refine V_istore (lv2 := [(0, .ref a), (1, .ref bi), (2, .int (nI p)), (3, .int (nI b)), (4, .int (nI 0))]) hC dX5_read_58 (by decide) [1, 2, 3, 4, 0] rfl ?_
        have ei9 : i = 16 := by omega
        subst ei9
        have L60 : ∀ (n9 : Nat) (i : Nat) (ov2 : Nat) (s9 : RS) (lf2 : Nat → Nat), (i ≤ 41) → ((if ov2 = 1 then (1, s9) else rdd p b β (41 - i) s9) = rdF p b β) → (okR s9) → (rep lf2 (qR s9)) → (ov2 = 0 ∨ ov2 = 1) → 41 - i < n9 → V pp9 l ee9 rm_X5_read ss9 mm9 args9 below9 meth9 co9 D A9 ss9.heap 5 Q9 [(a, .inr (5, [.ref co, .ref sp, .ref le, .int (nI ((qR (s9)).length)), .int (nI (qV (s9))), .int (nI (qK (s9))), .int (nI ov2)])), (co, .inr (2, [.ref cr, .int (nI (qT (s9))), .int (nI (qH (s9))), .int (nI p), .int (nI b)])), (cr, .inl (cI, 9, .inl (fun j => nI ((qF (s9)) j)))), (sp, .inr (6, [.int (nI (qL (s9))), .int (nI (qU (s9)))])), (le, .inl (cI, 40, .inl (fun j => nI (lf2 j)))), (bi, .inr (0, [.ref r, .int (nI n)])), (r, .inl (cI, 658, .inl (fun j => nI (g j))))] [(0, .ref a), (1, .ref bi), (4, .int (nI i))] 0 0 60 [] := by
          intro n9
          induction n9 with
          | zero => intro i ov2 s9 lf2 h1 h3 hR h5 h6 h9; exact absurd h9 (Nat.not_lt_zero _)
          | succ n9 ih =>
            intro i ov2 s9 lf2 h1 h3 hR h5 h6 h9
            refine V_iload hC dX5_read_60 2 rfl ?_
            refine V_bipush (v := nI 40) hC dX5_read_62 (by decide) ?_
            refine V_icmp_gt (tgt := 85) hC (by omega) (by omega) dX5_read_64 (by decide) (fun c64 => ?_) (fun c64 => ?_)
            · have h9f : (ov2, s9) = rdF p b β := by
                rw [← h3]
                rcases h6 with rfl | rfl
                · rw [if_neg (show ¬ 0 = 1 by decide), show 41 - i = 0 by omega, rdd]
                · rw [if_pos rfl]
              subst hQ
              rw [show rdF p b β = (ov2, s9) from h9f.symm]
              exact V_vret hC hr hlk (by decide) (by decide) dX5_read_85 (lf2) [0, 1, 2, 3, 4, 5, 6] rfl (by decide) (h5)
            · refine V_aload_n hC dX5_read_67 rfl 0 rfl ?_
              refine V_get (ci := 5) (v := .int (nI ov2)) hC in_X5 0 rfl cls_X5 6 (by decide) fl_X5_39 rfl dX5_read_68 ?_
              refine V_if_ne (tgt := 85) hC (by omega) dX5_read_71 (by decide) (fun c71 => ?_) (fun c71 => ?_)
              · have h9f : (ov2, s9) = rdF p b β := by
                  rw [← h3]
                  rcases h6 with rfl | rfl
                  · rw [if_neg (show ¬ 0 = 1 by decide), show 41 - i = 0 by omega, rdd]
                  · rw [if_pos rfl]
                subst hQ
                rw [show rdF p b β = (ov2, s9) from h9f.symm]
                exact V_vret hC hr hlk (by decide) (by decide) dX5_read_85 (lf2) [0, 1, 2, 3, 4, 5, 6] rfl (by decide) (h5)
              · refine V_aload_n hC dX5_read_74 rfl 0 rfl ?_
                refine V_aload_n hC dX5_read_75 rfl 1 rfl ?_
                by_cases hx1 : lwS s9 = 8
                · refine V_callvV (As := [.ref bi]) (rest := []) (wr := []) hC (c_X5_readLetter_end l D cI cQ a co sp le cr bi r n p b ov2 s9 lf2 g β (by omega) (hβ) (hβ2) (hR) (hp) (hb) (h5) (hx1)) mok_X5_readLetter ml_X5_53 (q1 := 0) rfl cls_X5 rfl rfl rfl (by decide) (by decide) (by decide) (Nat.le_of_ble_eq_true rfl) [0, 1, 2, 3, 4, 5, 6] [] rfl (by decide) rfl (by decide) (by decide) dX5_read_76 rfl (fun u9 h76 => ?_)
                  clear h76
                  refine V_perm (ws2 := [(a, .inr (5, [.ref co, .ref sp, .ref le, .int (nI ((qR (s9)).length)), .int (nI (qV (s9))), .int (nI (qK (s9))), .int (nI 1)])), (co, .inr (2, [.ref cr, .int (nI (qT (s9))), .int (nI (qH (s9))), .int (nI p), .int (nI b)])), (cr, .inl (cI, 9, .inl (fun j => nI ((qF (s9)) j)))), (sp, .inr (6, [.int (nI (qL (s9))), .int (nI (qU (s9)))])), (le, .inl (cI, 40, .inl (fun j => nI (lf2 j)))), (bi, .inr (0, [.ref r, .int (nI n)])), (r, .inl (cI, 658, .inl (fun j => nI (g j))))]) [0, 1, 2, 3, 4, 5, 6] rfl (by decide) ?_
                  refine V_iinc (v := (nI (i + 1))) (lv2 := [(0, .ref a), (1, .ref bi), (4, .int (nI (i + 1)))]) (q := 2) hC dX5_read_79 rfl (nI_add _ _) (by decide) [1, 2, 0] rfl ?_
                  refine V_goto (tgt := 60) hC dX5_read_82 (by decide) ?_
                  exact ih (i + 1) 1 s9 lf2 (by omega) (by rw [← h3, if_neg (show ¬ ov2 = 1 by omega), if_pos rfl, show 41 - i = (41 - (i + 1)) + 1 by omega, rdd_end hx1]) (hR) (h5) (Or.inr rfl) (by omega)
                · by_cases hx2 : (qR s9).length < 40
                  · refine V_callvV (As := [.ref bi]) (rest := []) (wr := []) hC (c_X5_readLetter_go l D cI cQ a co sp le cr bi r n p b ov2 s9 lf2 g β (by omega) (hβ) (hβ2) (hR) (hp) (hb) (h5) (hx1) (by omega)) mok_X5_readLetter ml_X5_53 (q1 := 0) rfl cls_X5 rfl rfl rfl (by decide) (by decide) (by decide) (Nat.le_of_ble_eq_true rfl) [0, 1, 2, 3, 4, 5, 6] [] rfl (by decide) rfl (by decide) (by decide) dX5_read_76 rfl (fun u9 h76 => ?_)
                    obtain ⟨lf2_1, rfl⟩ : ∃ z, z = u9 := ⟨_, rfl⟩
                    have h76 : rep lf2_1 (qR (rStep p b β s9)) := h76
                    refine V_perm (ws2 := [(a, .inr (5, [.ref co, .ref sp, .ref le, .int (nI ((qR (rStep p b β s9)).length)), .int (nI (qV (rStep p b β s9))), .int (nI (qK (rStep p b β s9))), .int (nI ov2)])), (co, .inr (2, [.ref cr, .int (nI (qT (rStep p b β s9))), .int (nI (qH (rStep p b β s9))), .int (nI p), .int (nI b)])), (cr, .inl (cI, 9, .inl (fun j => nI ((qF (rStep p b β s9)) j)))), (sp, .inr (6, [.int (nI (qL (rStep p b β s9))), .int (nI (qU (rStep p b β s9)))])), (le, .inl (cI, 40, .inl (fun j => nI (lf2_1 j)))), (bi, .inr (0, [.ref r, .int (nI n)])), (r, .inl (cI, 658, .inl (fun j => nI (g j))))]) [0, 1, 2, 3, 4, 5, 6] rfl (by decide) ?_
                    refine V_iinc (v := (nI (i + 1))) (lv2 := [(0, .ref a), (1, .ref bi), (4, .int (nI (i + 1)))]) (q := 2) hC dX5_read_79 rfl (nI_add _ _) (by decide) [1, 2, 0] rfl ?_
                    refine V_goto (tgt := 60) hC dX5_read_82 (by decide) ?_
                    exact ih (i + 1) ov2 (rStep p b β s9) lf2_1 (by omega) (by rw [← h3, if_neg (show ¬ ov2 = 1 by omega), if_neg (show ¬ ov2 = 1 by omega), show 41 - i = (41 - (i + 1)) + 1 by omega, rdd_go hx1 hx2]) (hR.step hβ2 hp hb hx2) (h76) (h6) (by omega)
                  · refine V_callvV (As := [.ref bi]) (rest := []) (wr := []) hC (c_X5_readLetter_full l D cI cQ a co sp le cr bi r n p b ov2 s9 lf2 g β (by omega) (hβ) (hβ2) (hR) (hp) (hb) (h5) (hx1) (by omega)) mok_X5_readLetter ml_X5_53 (q1 := 0) rfl cls_X5 rfl rfl rfl (by decide) (by decide) (by decide) (Nat.le_of_ble_eq_true rfl) [0, 1, 2, 3, 4, 5, 6] [] rfl (by decide) rfl (by decide) (by decide) dX5_read_76 rfl (fun u9 h76 => ?_)
                    clear h76
                    refine V_perm (ws2 := [(a, .inr (5, [.ref co, .ref sp, .ref le, .int (nI ((qR (s9)).length)), .int (nI (qV (s9))), .int (nI (qK (s9))), .int (nI ov2)])), (co, .inr (2, [.ref cr, .int (nI (qT (s9))), .int (nI (qH (s9))), .int (nI p), .int (nI b)])), (cr, .inl (cI, 9, .inl (fun j => nI ((qF (s9)) j)))), (sp, .inr (6, [.int (nI (qL (s9))), .int (nI (qU (s9)))])), (le, .inl (cI, 40, .inl (fun j => nI (lf2 j)))), (bi, .inr (0, [.ref r, .int (nI n)])), (r, .inl (cI, 658, .inl (fun j => nI (g j))))]) [0, 1, 2, 3, 4, 5, 6] rfl (by decide) ?_
                    refine V_iinc (v := (nI (i + 1))) (lv2 := [(0, .ref a), (1, .ref bi), (4, .int (nI (i + 1)))]) (q := 2) hC dX5_read_79 rfl (nI_add _ _) (by decide) [1, 2, 0] rfl ?_
                    refine V_goto (tgt := 60) hC dX5_read_82 (by decide) ?_
                    exact ih (i + 1) ov2 s9 lf2 (by omega) (by rw [← h3, if_neg (show ¬ ov2 = 1 by omega), if_neg (show ¬ ov2 = 1 by omega), rdd_full hx1 hx2, rdd_full hx1 hx2]) (hR) (h5) (h6) (by omega)
        refine V_pick (lv2 := [(0, .ref a), (1, .ref bi), (4, .int (nI 0))]) [0, 1, 4] rfl ?_
        exact L60 _ 0 0 (rd0 β) lf (by omega) (rfl) (okR_0 hβ2) (rep_nil _) (Or.inl rfl) (Nat.lt_succ_self _)
      · refine V_aload_n hC dX5_read_46 rfl 0 rfl ?_
        refine V_aload_n hC dX5_read_47 rfl 1 rfl ?_
        refine V_callvV (As := [.ref bi]) (rest := []) (wr := [(co, .inr (2, [.ref cr, .int (nI 9), .int (nI 0), .int (nI p), .int (nI b)])), (cr, .inl (cI, 9, .inl (fun j => nI (one j)))), (sp, .inr (6, [.int (nI 0), .int (nI 65535)])), (le, .inl (cI, 40, .inl (fun j => nI (lf j))))]) hC (c_X5_takeBit l D cI cQ a co sp le 0 (v16 β i) i 0 bi r n g β (by omega) (by omega) (hβ)) mok_X5_takeBit ml_X5_49 (q1 := 0) rfl cls_X5 rfl rfl rfl (by decide) (by decide) (by decide) (Nat.le_of_ble_eq_true rfl) [0, 5, 6] [1, 2, 3, 4] rfl (by decide) rfl (by decide) (by decide) dX5_read_48 rfl (fun u9 h48 => ?_)
        clear h48
        refine V_perm (ws2 := [(a, .inr (5, [.ref co, .ref sp, .ref le, .int (nI 0), .int (nI ((v16 β i) * 2 + β i)), .int (nI (i + 1)), .int (nI 0)])), (co, .inr (2, [.ref cr, .int (nI 9), .int (nI 0), .int (nI p), .int (nI b)])), (cr, .inl (cI, 9, .inl (fun j => nI (one j)))), (sp, .inr (6, [.int (nI 0), .int (nI 65535)])), (le, .inl (cI, 40, .inl (fun j => nI (lf j)))), (bi, .inr (0, [.ref r, .int (nI n)])), (r, .inl (cI, 658, .inl (fun j => nI (g j))))]) [4, 0, 1, 2, 3, 5, 6] rfl (by decide) ?_
        refine V_iinc (v := (nI (i + 1))) (lv2 := [(0, .ref a), (1, .ref bi), (2, .int (nI p)), (3, .int (nI b)), (4, .int (nI (i + 1)))]) (q := 4) hC dX5_read_51 rfl (nI_add _ _) (by decide) [1, 2, 3, 4, 0] rfl ?_
        refine V_goto (tgt := 39) hC dX5_read_54 (by decide) ?_
        exact ih (i + 1) (by omega) (by omega)
  exact L39 _ 0 (by omega) (Nat.lt_succ_self _)
