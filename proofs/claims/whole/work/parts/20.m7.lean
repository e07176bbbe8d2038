abbrev rm_X9_in : Room := { frames := 0, cells := 0, slots := 0, locals := 0 }
set_option maxHeartbeats 4000000 in
set_option maxRecDepth 100000 in
theorem c_X9_in (l : Launch) (D : va_G) (cI cQ : ClassId) (x lo hi : Nat) (hx : x < 2147483648) (hlo : lo < 2147483648) (hhi : hi < 2147483648) : MI l yX9_in cX9_in 6 (some .boolean) rm_X9_in D (TY cI cQ) [.long (lN x), .long (lN lo), .long (lN hi)] [] (fun (r9 : Int32) (u : (Nat)) => r9 = (nI u) ∧ ((u = 1 ∧ lo ≤ x ∧ x ≤ hi) ∨ (u = 0 ∧ (x < lo ∨ hi < x)))) (fun (u : (Nat)) => []) 0 0 := by
  refine MI.start (by decide) (Nat.le_of_ble_eq_true rfl) (lv0 := [(0, .long (lN x)), (2, .long (lN lo)), (4, .long (lN hi))]) rfl ?_
  intro pp9 ee9 ss9 mm9 args9 below9 meth9 co9 A9 Q9 hQ hC hr hlk hnm
  refine V_lload_n hC dX9_in_0 rfl 0 rfl ?_
  refine V_lload_n hC dX9_in_1 rfl 1 rfl ?_
  refine V_lcmp (v := lg_cmp (lN x) (lN lo)) hC dX9_in_2 rfl ?_
  refine V_if_ltC (tgt := 17) hC (by omega) (by omega) dX9_in_3 (by decide) (fun c3 => ?_) (fun c3 => ?_)
  · refine V_iconst (v := nI 0) hC dX9_in_17 (by decide) ?_
    subst hQ
    exact V_iret hC hr hlk rfl (by decide) (by decide) dX9_in_18 (0) [] rfl (by decide) (⟨rfl, by omega⟩)
  · refine V_lload_n hC dX9_in_6 rfl 0 rfl ?_
    refine V_lload hC dX9_in_7 2 rfl ?_
    refine V_lcmp (v := lg_cmp (lN x) (lN hi)) hC dX9_in_9 rfl ?_
    refine V_if_gtC (tgt := 17) hC (by omega) (by omega) dX9_in_10 (by decide) (fun c10 => ?_) (fun c10 => ?_)
    · refine V_iconst (v := nI 0) hC dX9_in_17 (by decide) ?_
      subst hQ
      exact V_iret hC hr hlk rfl (by decide) (by decide) dX9_in_18 (0) [] rfl (by decide) (⟨rfl, by omega⟩)
    · refine V_iconst (v := nI 1) hC dX9_in_13 (by decide) ?_
      refine V_goto (tgt := 18) hC dX9_in_14 (by decide) ?_
      subst hQ
      exact V_iret hC hr hlk rfl (by decide) (by decide) dX9_in_18 (1) [] rfl (by decide) (⟨rfl, by omega⟩)
abbrev rm_X9_in_neg : Room := { frames := 0, cells := 0, slots := 0, locals := 0 }
set_option maxHeartbeats 4000000 in
set_option maxRecDepth 100000 in
theorem c_X9_in_neg (l : Launch) (D : va_G) (cI cQ : ClassId) (x : Int32) (lo hi : Nat) (hx : x.toInt < 0) (hlo : lo < 2147483648) : MI l yX9_in cX9_in 6 (some .boolean) rm_X9_in_neg D (TY cI cQ) [.long ((x).toInt64), .long (lN lo), .long (lN hi)] [] (fun (r9 : Int32) (u : Unit) => r9 = (nI 0) ∧ (True)) (fun (u : Unit) => []) 0 0 := by
  refine MI.start (by decide) (Nat.le_of_ble_eq_true rfl) (lv0 := [(0, .long ((x).toInt64)), (2, .long (lN lo)), (4, .long (lN hi))]) rfl ?_
  intro pp9 ee9 ss9 mm9 args9 below9 meth9 co9 A9 Q9 hQ hC hr hlk hnm
  refine V_lload_n hC dX9_in_0 rfl 0 rfl ?_
  refine V_lload_n hC dX9_in_1 rfl 1 rfl ?_
  refine V_lcmp (v := lg_cmp ((x).toInt64) (lN lo)) hC dX9_in_2 rfl ?_
  refine V_if_lt_T (tgt := 17) hC dX9_in_3 (by decide) (cmp_neg hx (by omega)) ?_
  refine V_iconst (v := nI 0) hC dX9_in_17 (by decide) ?_
  subst hQ
  exact V_iret hC hr hlk rfl (by decide) (by decide) dX9_in_18 (()) [] rfl (by decide) (⟨rfl, trivial⟩)
abbrev rm_X9_beginsCounts : Room := { frames := 0, cells := 0, slots := 0, locals := 0 }
set_option maxHeartbeats 4000000 in
set_option maxRecDepth 100000 in
theorem c_X9_beginsCounts (l : Launch) (D : va_G) (cI cQ : ClassId) (m9 al hs hL ct tt hv lo hi wt bt bL cs gv gL tk vv rd rM tx tL pl : Nat) (f : Nat → Nat)  : MV l yX9_beginsCounts cX9_beginsCounts 2 none rm_X9_beginsCounts D (TY cI cQ) [.ref m9] [(m9, .inr (9, [.ref al, .ref hs, .int (nI hL), .ref ct, .int (nI tt), .int (nI hv), .int (nI lo), .int (nI hi), .int (nI wt), .ref bt, .int (nI bL), .ref cs, .ref gv, .int (nI gL), .int (nI tk), .int (nI vv), .ref rd, .int (nI rM), .ref tx, .int (nI tL), .int (nI pl)])), (ct, .inl (cI, 9, .inl (fun j => nI (f j))))] (fun (u : Unit) => True) (fun (u : Unit) => [(m9, .inr (9, [.ref al, .ref hs, .int (nI hL), .ref ct, .int (nI 9), .int (nI 0), .int (nI lo), .int (nI hi), .int (nI wt), .ref bt, .int (nI bL), .ref cs, .ref gv, .int (nI gL), .int (nI tk), .int (nI vv), .ref rd, .int (nI rM), .ref tx, .int (nI tL), .int (nI pl)])), (ct, .inl (cI, 9, .inl (fun j => nI (one j))))]) 0 0 := by
  refine MV.start (by decide) (Nat.le_of_ble_eq_true rfl) (lv0 := [(0, .ref m9)]) rfl ?_
  intro pp9 ee9 ss9 mm9 args9 below9 meth9 co9 A9 Q9 hQ hC hr hlk hnm
  refine V_iconst (v := nI 0) hC dX9_beginsCounts_0 (by decide) ?_
  refine V_istore_n (lv2 := [(0, .ref m9), (1, .int (nI 0))]) hC dX9_beginsCounts_1 rfl (by decide) [1, 0] rfl ?_
  have L2 : ∀ (n9 : Nat) (i : Nat) (f2 : Nat → Nat), (i ≤ 9) → (∀ j, j < i → f2 j = 1) → 9 - i < n9 → V pp9 l ee9 rm_X9_beginsCounts ss9 mm9 args9 below9 meth9 co9 D A9 ss9.heap 2 Q9 [(m9, .inr (9, [.ref al, .ref hs, .int (nI hL), .ref ct, .int (nI tt), .int (nI hv), .int (nI lo), .int (nI hi), .int (nI wt), .ref bt, .int (nI bL), .ref cs, .ref gv, .int (nI gL), .int (nI tk), .int (nI vv), .ref rd, .int (nI rM), .ref tx, .int (nI tL), .int (nI pl)])), (ct, .inl (cI, 9, .inl (fun j => nI (f2 j))))] [(0, .ref m9), (1, .int (nI i))] 0 0 2 [] := by
    intro n9
    induction n9 with
    | zero => intro i f2 h1 h2 h9; exact absurd h9 (Nat.not_lt_zero _)
    | succ n9 ih2 =>
      intro i f2 h1 h2 h9
      refine V_iload_n hC dX9_beginsCounts_2 rfl 1 rfl ?_
      refine V_bipush (v := nI 8) hC dX9_beginsCounts_3 (by decide) ?_
      refine V_icmp_gt (tgt := 21) hC (by omega) (by omega) dX9_beginsCounts_5 (by decide) (fun c5 => ?_) (fun c5 => ?_)
      · have hcg : ∀ j, j < 9 → f2 j = one j := fun j hj => by rw [h2 j (by omega)]; rfl
        refine V_cong (k := 1) (g := fun j => nI (one j)) rfl (fun j hj => congrArg nI (hcg j hj)) (ws2 := [(m9, .inr (9, [.ref al, .ref hs, .int (nI hL), .ref ct, .int (nI tt), .int (nI hv), .int (nI lo), .int (nI hi), .int (nI wt), .ref bt, .int (nI bL), .ref cs, .ref gv, .int (nI gL), .int (nI tk), .int (nI vv), .ref rd, .int (nI rM), .ref tx, .int (nI tL), .int (nI pl)])), (ct, .inl (cI, 9, .inl (fun j => nI (one j))))]) rfl ?_
        clear hcg
        refine V_aload_n hC dX9_beginsCounts_21 rfl 0 rfl ?_
        refine V_bipush (v := nI 9) hC dX9_beginsCounts_22 (by decide) ?_
        refine V_put (ci := 9) (v := .int (nI 9)) hC tyX9 tyX9_ok nmX9 in_X9 0 rfl cls_X9 4 (by decide) fl_X9_38 rfl rfl rfl (Nat.le_of_ble_eq_true rfl) dX9_beginsCounts_24 (ws2 := [(m9, .inr (9, [.ref al, .ref hs, .int (nI hL), .ref ct, .int (nI 9), .int (nI hv), .int (nI lo), .int (nI hi), .int (nI wt), .ref bt, .int (nI bL), .ref cs, .ref gv, .int (nI gL), .int (nI tk), .int (nI vv), .ref rd, .int (nI rM), .ref tx, .int (nI tL), .int (nI pl)])), (ct, .inl (cI, 9, .inl (fun j => nI (one j))))]) rfl ?_
        refine V_aload_n hC dX9_beginsCounts_27 rfl 0 rfl ?_
        refine V_iconst (v := nI 0) hC dX9_beginsCounts_28 (by decide) ?_
        refine V_put (ci := 9) (v := .int (nI 0)) hC tyX9 tyX9_ok nmX9 in_X9 0 rfl cls_X9 5 (by decide) fl_X9_41 rfl rfl rfl (Nat.le_of_ble_eq_true rfl) dX9_beginsCounts_29 (ws2 := [(m9, .inr (9, [.ref al, .ref hs, .int (nI hL), .ref ct, .int (nI 9), .int (nI 0), .int (nI lo), .int (nI hi), .int (nI wt), .ref bt, .int (nI bL), .ref cs, .ref gv, .int (nI gL), .int (nI tk), .int (nI vv), .ref rd, .int (nI rM), .ref tx, .int (nI tL), .int (nI pl)])), (ct, .inl (cI, 9, .inl (fun j => nI (one j))))]) rfl ?_
        subst hQ
        exact V_vret hC hr hlk (by decide) (by decide) dX9_beginsCounts_32 (()) [0, 1] rfl (by decide) (trivial)
      · refine V_aload_n hC dX9_beginsCounts_8 rfl 0 rfl ?_
        refine V_get (ci := 9) (v := .ref ct) hC in_X9 0 rfl cls_X9 3 (by decide) fl_X9_16 rfl dX9_beginsCounts_9 ?_
        refine V_iload_n hC dX9_beginsCounts_12 rfl 1 rfl ?_
        refine V_iconst (v := nI 1) hC dX9_beginsCounts_13 (by decide) ?_
        refine V_iast hC 1 0 rfl rfl (by omega) (by decide) dX9_beginsCounts_14 (ws2 := [(m9, .inr (9, [.ref al, .ref hs, .int (nI hL), .ref ct, .int (nI tt), .int (nI hv), .int (nI lo), .int (nI hi), .int (nI wt), .ref bt, .int (nI bL), .ref cs, .ref gv, .int (nI gL), .int (nI tk), .int (nI vv), .ref rd, .int (nI rM), .ref tx, .int (nI tL), .int (nI pl)])), (ct, .inl (cI, 9, .inl (fun j => nI ((va_up f2 i 1) j))))]) rfl ?_
        refine V_iinc (v := (nI (i + 1))) (lv2 := [(0, .ref m9), (1, .int (nI (i + 1)))]) (q := 1) hC dX9_beginsCounts_15 rfl (nI_add _ _) (by decide) [1, 0] rfl ?_
        refine V_goto (tgt := 2) hC dX9_beginsCounts_18 (by decide) ?_
        exact ih2 (i + 1) (va_up f2 i 1) (by omega) (lt_s (fun j hj => by rw [va_up_ne f2 1 (show j ≠ i by omega)]; exact h2 j hj) (va_up_self f2 i 1)) (by omega)
  exact L2 _ 0 f (by omega) (fun j hj => absurd hj (Nat.not_lt_zero j)) (Nat.lt_succ_self _)
abbrev rm_X9_learns : Room := { frames := 0, cells := 0, slots := 0, locals := 0 }
set_option maxHeartbeats 4000000 in
set_option maxRecDepth 100000 in
theorem c_X9_learns (l : Launch) (D : va_G) (cI cQ : ClassId) (m9 al hs hL ct tt hv lo hi wt bt bL cs gv gL tk vv rd rM tx tL pl n e p b k q : Nat) (g f : Nat → Nat) (hk : k < 9) (hc : okC f tt) (hq9 : q ≤ 64) (hb : b ≤ 2000) : MV l yX9_learns cX9_learns 4 none rm_X9_learns D (TY cI cQ) [.ref m9, .int (nI k), .int (nI q)] [(m9, .inr (9, [.ref al, .ref hs, .int (nI hL), .ref ct, .int (nI tt), .int (nI hv), .int (nI lo), .int (nI hi), .int (nI wt), .ref bt, .int (nI bL), .ref cs, .ref gv, .int (nI gL), .int (nI tk), .int (nI vv), .ref rd, .int (nI rM), .ref tx, .int (nI tL), .int (nI pl)])), (al, .inl (cI, 44, .inl (fun j => nI ((allF g n e p b) j)))), (ct, .inl (cI, 9, .inl (fun j => nI (f j))))] (fun (u : Unit) => True) (fun (u : Unit) => [(m9, .inr (9, [.ref al, .ref hs, .int (nI hL), .ref ct, .int (nI (lrT q b f tt k)), .int (nI (lrH q b tt hv)), .int (nI lo), .int (nI hi), .int (nI wt), .ref bt, .int (nI bL), .ref cs, .ref gv, .int (nI gL), .int (nI tk), .int (nI vv), .ref rd, .int (nI rM), .ref tx, .int (nI tL), .int (nI pl)])), (al, .inl (cI, 44, .inl (fun j => nI ((allF g n e p b) j)))), (ct, .inl (cI, 9, .inl (fun j => nI ((lrF q b f tt k) j))))]) 0 0 := by
  refine MV.start (by decide) (Nat.le_of_ble_eq_true rfl) (lv0 := [(0, .ref m9), (1, .int (nI k)), (2, .int (nI q))]) rfl ?_
  intro pp9 ee9 ss9 mm9 args9 below9 meth9 co9 A9 Q9 hQ hC hr hlk hnm
  have htm := hc.2.2
  have hfl : ∀ j, j < 9 → va_up f k (f k + q) j ≤ 4000 := fun j hj => by
    have h1 := hc.le hj
    have h2 := hc.le hk
    by_cases e : j = k
    · subst e; rw [va_up_self]; omega
    · rw [va_up_ne _ _ e]; omega
  refine V_aload_n hC dX9_learns_0 rfl 0 rfl ?_
  refine V_get (ci := 9) (v := .ref ct) hC in_X9 0 rfl cls_X9 3 (by decide) fl_X9_16 rfl dX9_learns_1 ?_
  refine V_iload_n hC dX9_learns_4 rfl 1 rfl ?_
  refine V_dup2 hC dX9_learns_5 rfl rfl ?_
  refine V_iald hC 2 0 rfl rfl (by omega) (by decide) dX9_learns_6 ?_
  refine V_iload_n hC dX9_learns_7 rfl 2 rfl ?_
  refine V_iadd hC dX9_learns_8 ?_
  refine V_iast hC 2 0 rfl rfl (by omega) (by decide) dX9_learns_9 (ws2 := [(m9, .inr (9, [.ref al, .ref hs, .int (nI hL), .ref ct, .int (nI tt), .int (nI hv), .int (nI lo), .int (nI hi), .int (nI wt), .ref bt, .int (nI bL), .ref cs, .ref gv, .int (nI gL), .int (nI tk), .int (nI vv), .ref rd, .int (nI rM), .ref tx, .int (nI tL), .int (nI pl)])), (al, .inl (cI, 44, .inl (fun j => nI ((allF g n e p b) j)))), (ct, .inl (cI, 9, .inl (fun j => nI ((va_up f k ((f k) + q)) j))))]) rfl ?_
  refine V_aload_n hC dX9_learns_10 rfl 0 rfl ?_
  refine V_dup hC dX9_learns_11 rfl ?_
  refine V_get (ci := 9) (v := .int (nI tt)) hC in_X9 0 rfl cls_X9 4 (by decide) fl_X9_38 rfl dX9_learns_12 ?_
  refine V_iload_n hC dX9_learns_15 rfl 2 rfl ?_
  refine V_iadd hC dX9_learns_16 ?_
  refine V_put (ci := 9) (v := .int (nI (tt + q))) hC tyX9 tyX9_ok nmX9 in_X9 0 rfl cls_X9 4 (by decide) fl_X9_38 rfl rfl rfl (Nat.le_of_ble_eq_true rfl) dX9_learns_17 (ws2 := [(m9, .inr (9, [.ref al, .ref hs, .int (nI hL), .ref ct, .int (nI (tt + q)), .int (nI hv), .int (nI lo), .int (nI hi), .int (nI wt), .ref bt, .int (nI bL), .ref cs, .ref gv, .int (nI gL), .int (nI tk), .int (nI vv), .ref rd, .int (nI rM), .ref tx, .int (nI tL), .int (nI pl)])), (al, .inl (cI, 44, .inl (fun j => nI ((allF g n e p b) j)))), (ct, .inl (cI, 9, .inl (fun j => nI ((va_up f k ((f k) + q)) j))))]) rfl ?_
  refine V_aload_n hC dX9_learns_20 rfl 0 rfl ?_
  refine V_get (ci := 9) (v := .int (nI (tt + q))) hC in_X9 0 rfl cls_X9 4 (by decide) fl_X9_38 rfl dX9_learns_21 ?_
  refine V_aload_n hC dX9_learns_24 rfl 0 rfl ?_
  refine V_get (ci := 9) (v := .ref al) hC in_X9 0 rfl cls_X9 0 (by decide) fl_X9_7 rfl dX9_learns_25 ?_
  refine V_iconst (v := nI 1) hC dX9_learns_28 (by decide) ?_
  refine V_iald hC 1 0 rfl rfl (by omega) (by decide) dX9_learns_29 ?_
  refine V_st (st2 := [.int (nI b), .int (nI (tt + q))]) (by rw [show ((allF g n e p b) 1) = (b) from rfl]) ?_
  refine V_icmp_le (tgt := 93) hC (by omega) (by omega) dX9_learns_30 (by decide) (fun c30 => ?_) (fun c30 => ?_)
  · refine V_ws (ws2 := [(m9, .inr (9, [.ref al, .ref hs, .int (nI hL), .ref ct, .int (nI (lrT q b f tt k)), .int (nI (lrH q b tt hv)), .int (nI lo), .int (nI hi), .int (nI wt), .ref bt, .int (nI bL), .ref cs, .ref gv, .int (nI gL), .int (nI tk), .int (nI vv), .ref rd, .int (nI rM), .ref tx, .int (nI tL), .int (nI pl)])), (al, .inl (cI, 44, .inl (fun j => nI ((allF g n e p b) j)))), (ct, .inl (cI, 9, .inl (fun j => nI ((lrF q b f tt k) j))))]) (by simp only [lrF, lrT, lrH, if_neg (show ¬ b < tt + q by omega)]) ?_
    subst hQ
    exact V_vret hC hr hlk (by decide) (by decide) dX9_learns_93 (()) [0, 1, 2] rfl (by decide) (trivial)
  · refine V_aload_n hC dX9_learns_33 rfl 0 rfl ?_
    refine V_iconst (v := nI 0) hC dX9_learns_34 (by decide) ?_
    refine V_put (ci := 9) (v := .int (nI 0)) hC tyX9 tyX9_ok nmX9 in_X9 0 rfl cls_X9 4 (by decide) fl_X9_38 rfl rfl rfl (Nat.le_of_ble_eq_true rfl) dX9_learns_35 (ws2 := [(m9, .inr (9, [.ref al, .ref hs, .int (nI hL), .ref ct, .int (nI 0), .int (nI hv), .int (nI lo), .int (nI hi), .int (nI wt), .ref bt, .int (nI bL), .ref cs, .ref gv, .int (nI gL), .int (nI tk), .int (nI vv), .ref rd, .int (nI rM), .ref tx, .int (nI tL), .int (nI pl)])), (al, .inl (cI, 44, .inl (fun j => nI ((allF g n e p b) j)))), (ct, .inl (cI, 9, .inl (fun j => nI ((va_up f k ((f k) + q)) j))))]) rfl ?_
    refine V_aload_n hC dX9_learns_38 rfl 0 rfl ?_
    refine V_dup hC dX9_learns_39 rfl ?_
    refine V_get (ci := 9) (v := .int (nI hv)) hC in_X9 0 rfl cls_X9 5 (by decide) fl_X9_41 rfl dX9_learns_40 ?_
    refine V_iconst (v := nI 1) hC dX9_learns_43 (by decide) ?_
    refine V_iadd hC dX9_learns_44 ?_
    refine V_put (ci := 9) (v := .int (nI (hv + 1))) hC tyX9 tyX9_ok nmX9 in_X9 0 rfl cls_X9 5 (by decide) fl_X9_41 rfl rfl rfl (Nat.le_of_ble_eq_true rfl) dX9_learns_45 (ws2 := [(m9, .inr (9, [.ref al, .ref hs, .int (nI hL), .ref ct, .int (nI 0), .int (nI (hv + 1)), .int (nI lo), .int (nI hi), .int (nI wt), .ref bt, .int (nI bL), .ref cs, .ref gv, .int (nI gL), .int (nI tk), .int (nI vv), .ref rd, .int (nI rM), .ref tx, .int (nI tL), .int (nI pl)])), (al, .inl (cI, 44, .inl (fun j => nI ((allF g n e p b) j)))), (ct, .inl (cI, 9, .inl (fun j => nI ((va_up f k ((f k) + q)) j))))]) rfl ?_
    refine V_iconst (v := nI 0) hC dX9_learns_48 (by decide) ?_
    refine V_istore_n (lv2 := [(0, .ref m9), (1, .int (nI k)), (2, .int (nI q)), (3, .int (nI 0))]) hC dX9_learns_49 rfl (by decide) [1, 2, 3, 0] rfl ?_
    have L50 : ∀ (n9 : Nat) (i : Nat) (t2 : Nat) (f2 : Nat → Nat), (i ≤ 9) → (t2 = cB (fun j => (va_up f k (f k + q) j + 1) / 2) i) → (∀ j, j < 9 → f2 j = if j < i then (va_up f k (f k + q) j + 1) / 2 else va_up f k (f k + q) j) → 9 - i < n9 → V pp9 l ee9 rm_X9_learns ss9 mm9 args9 below9 meth9 co9 D A9 ss9.heap 4 Q9 [(m9, .inr (9, [.ref al, .ref hs, .int (nI hL), .ref ct, .int (nI t2), .int (nI (hv + 1)), .int (nI lo), .int (nI hi), .int (nI wt), .ref bt, .int (nI bL), .ref cs, .ref gv, .int (nI gL), .int (nI tk), .int (nI vv), .ref rd, .int (nI rM), .ref tx, .int (nI tL), .int (nI pl)])), (al, .inl (cI, 44, .inl (fun j => nI ((allF g n e p b) j)))), (ct, .inl (cI, 9, .inl (fun j => nI (f2 j))))] [(0, .ref m9), (1, .int (nI k)), (2, .int (nI q)), (3, .int (nI i))] 0 0 50 [] := by
      intro n9
      induction n9 with
      | zero => intro i t2 f2 h1 h2 h3 h9; exact absurd h9 (Nat.not_lt_zero _)
      | succ n9 ih50 =>
        intro i t2 f2 h1 h2 h3 h9
        refine V_iload_n hC dX9_learns_50 rfl 3 rfl ?_
        refine V_bipush (v := nI 8) hC dX9_learns_51 (by decide) ?_
        refine V_icmp_gt (tgt := 93) hC (by omega) (by omega) dX9_learns_53 (by decide) (fun c53 => ?_) (fun c53 => ?_)
        · have ei9 : i = 9 := by omega
          subst ei9
          have hcg : ∀ j, j < 9 → f2 j = (fun j => (va_up f k (f k + q) j + 1) / 2) j := fun j hj => by rw [h3 j hj, if_pos hj]
          refine V_cong (k := 2) (g := fun j => nI ((fun j => (va_up f k (f k + q) j + 1) / 2) j)) rfl (fun j hj => congrArg nI (hcg j hj)) (ws2 := [(m9, .inr (9, [.ref al, .ref hs, .int (nI hL), .ref ct, .int (nI t2), .int (nI (hv + 1)), .int (nI lo), .int (nI hi), .int (nI wt), .ref bt, .int (nI bL), .ref cs, .ref gv, .int (nI gL), .int (nI tk), .int (nI vv), .ref rd, .int (nI rM), .ref tx, .int (nI tL), .int (nI pl)])), (al, .inl (cI, 44, .inl (fun j => nI ((allF g n e p b) j)))), (ct, .inl (cI, 9, .inl (fun j => nI ((fun j => (va_up f k (f k + q) j + 1) / 2) j))))]) rfl ?_
          clear hcg
          subst h2
          refine V_ws (ws2 := [(m9, .inr (9, [.ref al, .ref hs, .int (nI hL), .ref ct, .int (nI (lrT q b f tt k)), .int (nI (lrH q b tt hv)), .int (nI lo), .int (nI hi), .int (nI wt), .ref bt, .int (nI bL), .ref cs, .ref gv, .int (nI gL), .int (nI tk), .int (nI vv), .ref rd, .int (nI rM), .ref tx, .int (nI tL), .int (nI pl)])), (al, .inl (cI, 44, .inl (fun j => nI ((allF g n e p b) j)))), (ct, .inl (cI, 9, .inl (fun j => nI ((lrF q b f tt k) j))))]) (by simp only [lrF, lrT, lrH, if_pos (show b < tt + q by omega)]) ?_
          subst hQ
          exact V_vret hC hr hlk (by decide) (by decide) dX9_learns_93 (()) [0, 1, 2] rfl (by decide) (trivial)
        · have hfi : f2 i = va_up f k (f k + q) i := by rw [h3 i (by omega), if_neg (Nat.lt_irrefl i)]
          have hfj := hfl i (by omega)
          rw [← hfi] at hfj
          refine V_aload_n hC dX9_learns_56 rfl 0 rfl ?_
          refine V_get (ci := 9) (v := .ref ct) hC in_X9 0 rfl cls_X9 3 (by decide) fl_X9_16 rfl dX9_learns_57 ?_
          refine V_iload_n hC dX9_learns_60 rfl 3 rfl ?_
          refine V_aload_n hC dX9_learns_61 rfl 0 rfl ?_
          refine V_get (ci := 9) (v := .ref ct) hC in_X9 0 rfl cls_X9 3 (by decide) fl_X9_16 rfl dX9_learns_62 ?_
          refine V_iload_n hC dX9_learns_65 rfl 3 rfl ?_
          refine V_iald hC 2 0 rfl rfl (by omega) (by decide) dX9_learns_66 ?_
          refine V_iconst (v := nI 1) hC dX9_learns_67 (by decide) ?_
          refine V_iadd hC dX9_learns_68 ?_
          refine V_iconst (v := nI 2) hC dX9_learns_69 (by decide) ?_
          refine V_idiv hC dX9_learns_70 (by omega) (by omega) (by omega) ?_
          refine V_iast hC 2 0 rfl rfl (by omega) (by decide) dX9_learns_71 (ws2 := [(m9, .inr (9, [.ref al, .ref hs, .int (nI hL), .ref ct, .int (nI t2), .int (nI (hv + 1)), .int (nI lo), .int (nI hi), .int (nI wt), .ref bt, .int (nI bL), .ref cs, .ref gv, .int (nI gL), .int (nI tk), .int (nI vv), .ref rd, .int (nI rM), .ref tx, .int (nI tL), .int (nI pl)])), (al, .inl (cI, 44, .inl (fun j => nI ((allF g n e p b) j)))), (ct, .inl (cI, 9, .inl (fun j => nI ((va_up f2 i (((f2 i) + 1) / 2)) j))))]) rfl ?_
          refine V_aload_n hC dX9_learns_72 rfl 0 rfl ?_
          refine V_dup hC dX9_learns_73 rfl ?_
          refine V_get (ci := 9) (v := .int (nI t2)) hC in_X9 0 rfl cls_X9 4 (by decide) fl_X9_38 rfl dX9_learns_74 ?_
          refine V_aload_n hC dX9_learns_77 rfl 0 rfl ?_
          refine V_get (ci := 9) (v := .ref ct) hC in_X9 0 rfl cls_X9 3 (by decide) fl_X9_16 rfl dX9_learns_78 ?_
          refine V_iload_n hC dX9_learns_81 rfl 3 rfl ?_
          refine V_iald hC 2 0 rfl rfl (by omega) (by decide) dX9_learns_82 ?_
          refine V_iadd hC dX9_learns_83 ?_
          refine V_put (ci := 9) (v := .int (nI (t2 + ((va_up f2 i (((f2 i) + 1) / 2)) i)))) hC tyX9 tyX9_ok nmX9 in_X9 0 rfl cls_X9 4 (by decide) fl_X9_38 rfl rfl rfl (Nat.le_of_ble_eq_true rfl) dX9_learns_84 (ws2 := [(m9, .inr (9, [.ref al, .ref hs, .int (nI hL), .ref ct, .int (nI (t2 + ((va_up f2 i (((f2 i) + 1) / 2)) i))), .int (nI (hv + 1)), .int (nI lo), .int (nI hi), .int (nI wt), .ref bt, .int (nI bL), .ref cs, .ref gv, .int (nI gL), .int (nI tk), .int (nI vv), .ref rd, .int (nI rM), .ref tx, .int (nI tL), .int (nI pl)])), (al, .inl (cI, 44, .inl (fun j => nI ((allF g n e p b) j)))), (ct, .inl (cI, 9, .inl (fun j => nI ((va_up f2 i (((f2 i) + 1) / 2)) j))))]) rfl ?_
          refine V_iinc (v := (nI (i + 1))) (lv2 := [(0, .ref m9), (1, .int (nI k)), (2, .int (nI q)), (3, .int (nI (i + 1)))]) (q := 3) hC dX9_learns_87 rfl (nI_add _ _) (by decide) [1, 2, 3, 0] rfl ?_
          refine V_goto (tgt := 50) hC dX9_learns_90 (by decide) ?_
          exact ih50 (i + 1) (t2 + ((va_up f2 i (((f2 i) + 1) / 2)) i)) (va_up f2 i (((f2 i) + 1) / 2)) (by omega) (by rw [h2, cB, va_up_self, hfi]) (fun j hj => by
  by_cases ei9 : j = i
  · subst ei9; rw [va_up_self, if_pos (Nat.lt_succ_self _), hfi]
  · rw [va_up_ne _ _ ei9, h3 j hj]; by_cases q9 : j < i
    · rw [if_pos q9, if_pos (by omega)]
    · rw [if_neg q9, if_neg (by omega)]) (by omega)
    exact L50 _ 0 0 (va_up f k ((f k) + q)) (by omega) (rfl) (fun j _ => by rw [if_neg (Nat.not_lt_zero j)]) (Nat.lt_succ_self _)
abbrev rm_X9_below : Room := { frames := 0, cells := 0, slots := 0, locals := 0 }
set_option maxHeartbeats 4000000 in
set_option maxRecDepth 100000 in
theorem c_X9_below (l : Launch) (D : va_G) (cI cQ : ClassId) (m9 al hs hL ct tt hv lo hi wt bt bL cs gv gL tk vv rd rM tx tL pl k : Nat) (f : Nat → Nat) (hk : k ≤ 9) : MI l yX9_below cX9_below 4 (some .int) rm_X9_below D (TY cI cQ) [.ref m9, .int (nI k)] [(m9, .inr (9, [.ref al, .ref hs, .int (nI hL), .ref ct, .int (nI tt), .int (nI hv), .int (nI lo), .int (nI hi), .int (nI wt), .ref bt, .int (nI bL), .ref cs, .ref gv, .int (nI gL), .int (nI tk), .int (nI vv), .ref rd, .int (nI rM), .ref tx, .int (nI tL), .int (nI pl)])), (ct, .inl (cI, 9, .inl (fun j => nI (f j))))] (fun (r9 : Int32) (u : Unit) => r9 = (nI (cB f k)) ∧ (True)) (fun (u : Unit) => [(m9, .inr (9, [.ref al, .ref hs, .int (nI hL), .ref ct, .int (nI tt), .int (nI hv), .int (nI lo), .int (nI hi), .int (nI wt), .ref bt, .int (nI bL), .ref cs, .ref gv, .int (nI gL), .int (nI tk), .int (nI vv), .ref rd, .int (nI rM), .ref tx, .int (nI tL), .int (nI pl)])), (ct, .inl (cI, 9, .inl (fun j => nI (f j))))]) 0 0 := by
  refine MI.start (by decide) (Nat.le_of_ble_eq_true rfl) (lv0 := [(0, .ref m9), (1, .int (nI k))]) rfl ?_
  intro pp9 ee9 ss9 mm9 args9 below9 meth9 co9 A9 Q9 hQ hC hr hlk hnm
  refine V_iconst (v := nI 0) hC dX9_below_0 (by decide) ?_
  refine V_istore_n (lv2 := [(0, .ref m9), (1, .int (nI k)), (2, .int (nI 0))]) hC dX9_below_1 rfl (by decide) [1, 2, 0] rfl ?_
  refine V_iconst (v := nI 0) hC dX9_below_2 (by decide) ?_
  refine V_istore_n (lv2 := [(0, .ref m9), (1, .int (nI k)), (2, .int (nI 0)), (3, .int (nI 0))]) hC dX9_below_3 rfl (by decide) [1, 2, 3, 0] rfl ?_
  have L4 : ∀ (n9 : Nat) (i : Nat) (s2 : Nat), (i ≤ k) → (s2 = cB f i) → k - i < n9 → V pp9 l ee9 rm_X9_below ss9 mm9 args9 below9 meth9 co9 D A9 ss9.heap 4 Q9 [(m9, .inr (9, [.ref al, .ref hs, .int (nI hL), .ref ct, .int (nI tt), .int (nI hv), .int (nI lo), .int (nI hi), .int (nI wt), .ref bt, .int (nI bL), .ref cs, .ref gv, .int (nI gL), .int (nI tk), .int (nI vv), .ref rd, .int (nI rM), .ref tx, .int (nI tL), .int (nI pl)])), (ct, .inl (cI, 9, .inl (fun j => nI (f j))))] [(0, .ref m9), (1, .int (nI k)), (2, .int (nI s2)), (3, .int (nI i))] 0 0 4 [] := by
    intro n9
    induction n9 with
    | zero => intro i s2 h1 h2 h9; exact absurd h9 (Nat.not_lt_zero _)
    | succ n9 ih4 =>
      intro i s2 h1 h2 h9
      refine V_iload_n hC dX9_below_4 rfl 3 rfl ?_
      refine V_iload_n hC dX9_below_5 rfl 1 rfl ?_
      refine V_icmp_ge (tgt := 24) hC (by omega) (by omega) dX9_below_6 (by decide) (fun c6 => ?_) (fun c6 => ?_)
      · refine V_iload_n hC dX9_below_24 rfl 2 rfl ?_
        subst hQ
        exact V_iret hC hr hlk rfl (by decide) (by decide) dX9_below_25 (()) [0, 1] rfl (by decide) (⟨by rw [h2, show i = k by omega], trivial⟩)
      · refine V_iload_n hC dX9_below_9 rfl 2 rfl ?_
        refine V_aload_n hC dX9_below_10 rfl 0 rfl ?_
        refine V_get (ci := 9) (v := .ref ct) hC in_X9 0 rfl cls_X9 3 (by decide) fl_X9_16 rfl dX9_below_11 ?_
        refine V_iload_n hC dX9_below_14 rfl 3 rfl ?_
        refine V_iald hC 1 0 rfl rfl (by omega) (by decide) dX9_below_15 ?_
        refine V_iadd hC dX9_below_16 ?_
        refine V_istore_n (lv2 := [(0, .ref m9), (1, .int (nI k)), (2, .int (nI (s2 + (f i)))), (3, .int (nI i))]) hC dX9_below_17 rfl (by decide) [1, 2, 0, 3] rfl ?_
        refine V_iinc (v := (nI (i + 1))) (lv2 := [(0, .ref m9), (1, .int (nI k)), (2, .int (nI (s2 + (f i)))), (3, .int (nI (i + 1)))]) (q := 3) hC dX9_below_18 rfl (nI_add _ _) (by decide) [1, 2, 3, 0] rfl ?_
        refine V_goto (tgt := 4) hC dX9_below_21 (by decide) ?_
        exact ih4 (i + 1) (s2 + (f i)) (by omega) (by rw [h2, cB]) (by omega)
  exact L4 _ 0 0 (by omega) (rfl) (Nat.lt_succ_self _)
abbrev rm_X9_writes : Room := { frames := 0, cells := 0, slots := 0, locals := 0 }
set_option maxHeartbeats 4000000 in
set_option maxRecDepth 100000 in
theorem c_X9_writes (l : Launch) (D : va_G) (cI cQ : ClassId) (m9 al hs hL ct tt hv lo hi wt bt bL cs gv gL tk vv rd rM tx tL pl x : Nat) (f : Nat → Nat) (bs : List Nat) (hn : bL = bs.length) (hr9 : rep f bs) (hx : x ≤ 1) (hw : bL + 1 + wt ≤ 1400) : MV l yX9_writes cX9_writes 2 none rm_X9_writes D (TY cI cQ) [.ref m9, .int (nI x)] [(m9, .inr (9, [.ref al, .ref hs, .int (nI hL), .ref ct, .int (nI tt), .int (nI hv), .int (nI lo), .int (nI hi), .int (nI wt), .ref bt, .int (nI bL), .ref cs, .ref gv, .int (nI gL), .int (nI tk), .int (nI vv), .ref rd, .int (nI rM), .ref tx, .int (nI tL), .int (nI pl)])), (bt, .inl (cI, 1400, .inl (fun j => nI (f j))))] (fun (u : (Nat → Nat)) => rep u (wB bs wt x)) (fun (u : (Nat → Nat)) => [(m9, .inr (9, [.ref al, .ref hs, .int (nI hL), .ref ct, .int (nI tt), .int (nI hv), .int (nI lo), .int (nI hi), .int (nI 0), .ref bt, .int (nI (bL + 1 + wt)), .ref cs, .ref gv, .int (nI gL), .int (nI tk), .int (nI vv), .ref rd, .int (nI rM), .ref tx, .int (nI tL), .int (nI pl)])), (bt, .inl (cI, 1400, .inl (fun j => nI (u j))))]) 0 0 := by
  refine MV.start (by decide) (Nat.le_of_ble_eq_true rfl) (lv0 := [(0, .ref m9), (1, .int (nI x))]) rfl ?_
  intro pp9 ee9 ss9 mm9 args9 below9 meth9 co9 A9 Q9 hQ hC hr hlk hnm
  refine V_aload_n hC dX9_writes_0 rfl 0 rfl ?_
  refine V_get (ci := 9) (v := .ref bt) hC in_X9 0 rfl cls_X9 9 (by decide) fl_X9_19 rfl dX9_writes_1 ?_
  refine V_aload_n hC dX9_writes_4 rfl 0 rfl ?_
  refine V_get (ci := 9) (v := .int (nI bL)) hC in_X9 0 rfl cls_X9 10 (by decide) fl_X9_44 rfl dX9_writes_5 ?_
  refine V_iload_n hC dX9_writes_8 rfl 1 rfl ?_
  refine V_iast hC 1 0 rfl rfl (by omega) (by decide) dX9_writes_9 (ws2 := [(m9, .inr (9, [.ref al, .ref hs, .int (nI hL), .ref ct, .int (nI tt), .int (nI hv), .int (nI lo), .int (nI hi), .int (nI wt), .ref bt, .int (nI bL), .ref cs, .ref gv, .int (nI gL), .int (nI tk), .int (nI vv), .ref rd, .int (nI rM), .ref tx, .int (nI tL), .int (nI pl)])), (bt, .inl (cI, 1400, .inl (fun j => nI ((va_up f bL x) j))))]) rfl ?_
  refine V_aload_n hC dX9_writes_10 rfl 0 rfl ?_
  refine V_dup hC dX9_writes_11 rfl ?_
  refine V_get (ci := 9) (v := .int (nI bL)) hC in_X9 0 rfl cls_X9 10 (by decide) fl_X9_44 rfl dX9_writes_12 ?_
  refine V_iconst (v := nI 1) hC dX9_writes_15 (by decide) ?_
  refine V_iadd hC dX9_writes_16 ?_
  refine V_put (ci := 9) (v := .int (nI (bL + 1))) hC tyX9 tyX9_ok nmX9 in_X9 0 rfl cls_X9 10 (by decide) fl_X9_44 rfl rfl rfl (Nat.le_of_ble_eq_true rfl) dX9_writes_17 (ws2 := [(m9, .inr (9, [.ref al, .ref hs, .int (nI hL), .ref ct, .int (nI tt), .int (nI hv), .int (nI lo), .int (nI hi), .int (nI wt), .ref bt, .int (nI (bL + 1)), .ref cs, .ref gv, .int (nI gL), .int (nI tk), .int (nI vv), .ref rd, .int (nI rM), .ref tx, .int (nI tL), .int (nI pl)])), (bt, .inl (cI, 1400, .inl (fun j => nI ((va_up f bL x) j))))]) rfl ?_
  have L20 : ∀ (n9 : Nat) (i : Nat) (w2 : Nat) (f2 : Nat → Nat), (i + w2 = wt) → (rep f2 (bs ++ x :: List.replicate i (1 - x))) → w2 < n9 → V pp9 l ee9 rm_X9_writes ss9 mm9 args9 below9 meth9 co9 D A9 ss9.heap 2 Q9 [(m9, .inr (9, [.ref al, .ref hs, .int (nI hL), .ref ct, .int (nI tt), .int (nI hv), .int (nI lo), .int (nI hi), .int (nI w2), .ref bt, .int (nI (bL + 1 + i)), .ref cs, .ref gv, .int (nI gL), .int (nI tk), .int (nI vv), .ref rd, .int (nI rM), .ref tx, .int (nI tL), .int (nI pl)])), (bt, .inl (cI, 1400, .inl (fun j => nI (f2 j))))] [(0, .ref m9), (1, .int (nI x))] 0 0 20 [] := by
    intro n9
    induction n9 with
    | zero => intro i w2 f2 h1 h2 h9; exact absurd h9 (Nat.not_lt_zero _)
    | succ n9 ih20 =>
      intro i w2 f2 h1 h2 h9
      refine V_aload_n hC dX9_writes_20 rfl 0 rfl ?_
      refine V_get (ci := 9) (v := .int (nI w2)) hC in_X9 0 rfl cls_X9 8 (by decide) fl_X9_47 rfl dX9_writes_21 ?_
      refine V_if_le (tgt := 62) hC (by omega) dX9_writes_24 (by decide) (fun c24 => ?_) (fun c24 => ?_)
      · have ei9 : i = wt := by omega
        rw [ei9] at h2
        refine V_ws (ws2 := [(m9, .inr (9, [.ref al, .ref hs, .int (nI hL), .ref ct, .int (nI tt), .int (nI hv), .int (nI lo), .int (nI hi), .int (nI 0), .ref bt, .int (nI (bL + 1 + wt)), .ref cs, .ref gv, .int (nI gL), .int (nI tk), .int (nI vv), .ref rd, .int (nI rM), .ref tx, .int (nI tL), .int (nI pl)])), (bt, .inl (cI, 1400, .inl (fun j => nI (f2 j))))]) (by rw [ei9, show w2 = 0 by omega]) ?_
        subst hQ
        exact V_vret hC hr hlk (by decide) (by decide) dX9_writes_62 (f2) [0, 1] rfl (by decide) (h2)
      · refine V_aload_n hC dX9_writes_27 rfl 0 rfl ?_
        refine V_get (ci := 9) (v := .ref bt) hC in_X9 0 rfl cls_X9 9 (by decide) fl_X9_19 rfl dX9_writes_28 ?_
        refine V_aload_n hC dX9_writes_31 rfl 0 rfl ?_
        refine V_get (ci := 9) (v := .int (nI (bL + 1 + i))) hC in_X9 0 rfl cls_X9 10 (by decide) fl_X9_44 rfl dX9_writes_32 ?_
        refine V_iconst (v := nI 1) hC dX9_writes_35 (by decide) ?_
        refine V_iload_n hC dX9_writes_36 rfl 1 rfl ?_
        refine V_isub hC dX9_writes_37 (by omega) ?_
        refine V_iast hC 1 0 rfl rfl (by omega) (by decide) dX9_writes_38 (ws2 := [(m9, .inr (9, [.ref al, .ref hs, .int (nI hL), .ref ct, .int (nI tt), .int (nI hv), .int (nI lo), .int (nI hi), .int (nI w2), .ref bt, .int (nI (bL + 1 + i)), .ref cs, .ref gv, .int (nI gL), .int (nI tk), .int (nI vv), .ref rd, .int (nI rM), .ref tx, .int (nI tL), .int (nI pl)])), (bt, .inl (cI, 1400, .inl (fun j => nI ((va_up f2 (bL + 1 + i) (1 - x)) j))))]) rfl ?_
        refine V_aload_n hC dX9_writes_39 rfl 0 rfl ?_
        refine V_dup hC dX9_writes_40 rfl ?_
        refine V_get (ci := 9) (v := .int (nI (bL + 1 + i))) hC in_X9 0 rfl cls_X9 10 (by decide) fl_X9_44 rfl dX9_writes_41 ?_
        refine V_iconst (v := nI 1) hC dX9_writes_44 (by decide) ?_
        refine V_iadd hC dX9_writes_45 ?_
        refine V_put (ci := 9) (v := .int (nI ((bL + 1 + i) + 1))) hC tyX9 tyX9_ok nmX9 in_X9 0 rfl cls_X9 10 (by decide) fl_X9_44 rfl rfl rfl (Nat.le_of_ble_eq_true rfl) dX9_writes_46 (ws2 := [(m9, .inr (9, [.ref al, .ref hs, .int (nI hL), .ref ct, .int (nI tt), .int (nI hv), .int (nI lo), .int (nI hi), .int (nI w2), .ref bt, .int (nI ((bL + 1 + i) + 1)), .ref cs, .ref gv, .int (nI gL), .int (nI tk), .int (nI vv), .ref rd, .int (nI rM), .ref tx, .int (nI tL), .int (nI pl)])), (bt, .inl (cI, 1400, .inl (fun j => nI ((va_up f2 (bL + 1 + i) (1 - x)) j))))]) rfl ?_
        refine V_aload_n hC dX9_writes_49 rfl 0 rfl ?_
        refine V_dup hC dX9_writes_50 rfl ?_
        refine V_get (ci := 9) (v := .int (nI w2)) hC in_X9 0 rfl cls_X9 8 (by decide) fl_X9_47 rfl dX9_writes_51 ?_
        refine V_iconst (v := nI 1) hC dX9_writes_54 (by decide) ?_
        refine V_isub hC dX9_writes_55 (by omega) ?_
        refine V_put (ci := 9) (v := .int (nI (w2 - 1))) hC tyX9 tyX9_ok nmX9 in_X9 0 rfl cls_X9 8 (by decide) fl_X9_47 rfl rfl rfl (Nat.le_of_ble_eq_true rfl) dX9_writes_56 (ws2 := [(m9, .inr (9, [.ref al, .ref hs, .int (nI hL), .ref ct, .int (nI tt), .int (nI hv), .int (nI lo), .int (nI hi), .int (nI (w2 - 1)), .ref bt, .int (nI ((bL + 1 + i) + 1)), .ref cs, .ref gv, .int (nI gL), .int (nI tk), .int (nI vv), .ref rd, .int (nI rM), .ref tx, .int (nI tL), .int (nI pl)])), (bt, .inl (cI, 1400, .inl (fun j => nI ((va_up f2 (bL + 1 + i) (1 - x)) j))))]) rfl ?_
        refine V_goto (tgt := 20) hC dX9_writes_59 (by decide) ?_
        exact ih20 (i + 1) (w2 - 1) (va_up f2 (bL + 1 + i) (1 - x)) (by omega) (rep_wait hn h2) (by omega)
  exact L20 _ 0 wt (va_up f bL x) (by omega) (rep_push hr9 hn) (Nat.lt_succ_self _)
abbrev rm_X9_cuts : Room := { frames := 1, cells := 0, slots := 0, locals := 23 }
set_option maxHeartbeats 4000000 in
set_option maxRecDepth 100000 in
theorem c_X9_cuts (l : Launch) (D : va_G) (cI cQ : ClassId) (m9 al hs hL ct tt hv lo hi wt bt bL cs gv gL tk vv rd rM tx tL pl k : Nat) (f : Nat → Nat) (hk : k < 9) (hc : okC f tt) (hs9 : lo ≤ hi ∧ hi ≤ 65535) (hw : tt ≤ hi - lo + 1) : MV l yX9_cuts cX9_cuts 4 none rm_X9_cuts D (TY cI cQ) [.ref m9, .int (nI k)] [(m9, .inr (9, [.ref al, .ref hs, .int (nI hL), .ref ct, .int (nI tt), .int (nI hv), .int (nI lo), .int (nI hi), .int (nI wt), .ref bt, .int (nI bL), .ref cs, .ref gv, .int (nI gL), .int (nI tk), .int (nI vv), .ref rd, .int (nI rM), .ref tx, .int (nI tL), .int (nI pl)])), (ct, .inl (cI, 9, .inl (fun j => nI (f j))))] (fun (u : Unit) => True) (fun (u : Unit) => [(m9, .inr (9, [.ref al, .ref hs, .int (nI hL), .ref ct, .int (nI tt), .int (nI hv), .int (nI (shL f tt k lo hi)), .int (nI (shU f tt k lo hi)), .int (nI wt), .ref bt, .int (nI bL), .ref cs, .ref gv, .int (nI gL), .int (nI tk), .int (nI vv), .ref rd, .int (nI rM), .ref tx, .int (nI tL), .int (nI pl)])), (ct, .inl (cI, 9, .inl (fun j => nI (f j))))]) 0 0 := by
  refine MV.start (by decide) (Nat.le_of_ble_eq_true rfl) (lv0 := [(0, .ref m9), (1, .int (nI k))]) rfl ?_
  intro pp9 ee9 ss9 mm9 args9 below9 meth9 co9 A9 Q9 hQ hC hr hlk hnm
  have ht9 := hc.t9
  have htm := hc.2.2
  have hup := hc.up hk
  have hr1 : (hi - lo + 1) * (cB f k + f k) ≤ 65536 * 2000 := Nat.mul_le_mul (by omega) (by omega)
  have hr2 : (hi - lo + 1) * cB f k ≤ 65536 * 2000 := Nat.mul_le_mul (by omega) (by omega)
  have hr3 := shU_ge hc hk hs9 hw
  refine V_aload_n hC dX9_cuts_0 rfl 0 rfl ?_
  refine V_get (ci := 9) (v := .int (nI hi)) hC in_X9 0 rfl cls_X9 7 (by decide) fl_X9_50 rfl dX9_cuts_1 ?_
  refine V_aload_n hC dX9_cuts_4 rfl 0 rfl ?_
  refine V_get (ci := 9) (v := .int (nI lo)) hC in_X9 0 rfl cls_X9 6 (by decide) fl_X9_53 rfl dX9_cuts_5 ?_
  refine V_isub hC dX9_cuts_8 (by omega) ?_
  refine V_iconst (v := nI 1) hC dX9_cuts_9 (by decide) ?_
  refine V_iadd hC dX9_cuts_10 ?_
  refine V_istore_n (lv2 := [(0, .ref m9), (1, .int (nI k)), (2, .int (nI ((hi - lo) + 1)))]) hC dX9_cuts_11 rfl (by decide) [1, 2, 0] rfl ?_
  refine V_aload_n hC dX9_cuts_12 rfl 0 rfl ?_
  refine V_iload_n hC dX9_cuts_13 rfl 1 rfl ?_
  refine V_calliV (As := [.int (nI k)]) (rest := []) (wr := []) hC (c_X9_below l D cI cQ m9 al hs hL ct tt hv lo hi wt bt bL cs gv gL tk vv rd rM tx tL pl k f (by omega)) mok_X9_below ml_X9_56 (q1 := 0) rfl cls_X9 rfl rfl rfl (by decide) (by decide) (by decide) (Nat.le_of_ble_eq_true rfl) [0, 1] [] rfl (by decide) rfl (by decide) (by decide) dX9_cuts_14 rfl (fun r9 u9 h14 => ?_)
  obtain ⟨rfl, h14⟩ := h14
  clear h14
  refine V_perm (ws2 := [(m9, .inr (9, [.ref al, .ref hs, .int (nI hL), .ref ct, .int (nI tt), .int (nI hv), .int (nI lo), .int (nI hi), .int (nI wt), .ref bt, .int (nI bL), .ref cs, .ref gv, .int (nI gL), .int (nI tk), .int (nI vv), .ref rd, .int (nI rM), .ref tx, .int (nI tL), .int (nI pl)])), (ct, .inl (cI, 9, .inl (fun j => nI (f j))))]) [0, 1] rfl (by decide) ?_
  refine V_istore_n (lv2 := [(0, .ref m9), (1, .int (nI k)), (2, .int (nI ((hi - lo) + 1))), (3, .int (nI (cB f k)))]) hC dX9_cuts_17 rfl (by decide) [1, 2, 3, 0] rfl ?_
  refine V_aload_n hC dX9_cuts_18 rfl 0 rfl ?_
  refine V_aload_n hC dX9_cuts_19 rfl 0 rfl ?_
  refine V_get (ci := 9) (v := .int (nI lo)) hC in_X9 0 rfl cls_X9 6 (by decide) fl_X9_53 rfl dX9_cuts_20 ?_
  refine V_iload_n hC dX9_cuts_23 rfl 2 rfl ?_
  refine V_iload_n hC dX9_cuts_24 rfl 3 rfl ?_
  refine V_aload_n hC dX9_cuts_25 rfl 0 rfl ?_
  refine V_get (ci := 9) (v := .ref ct) hC in_X9 0 rfl cls_X9 3 (by decide) fl_X9_16 rfl dX9_cuts_26 ?_
  refine V_iload_n hC dX9_cuts_29 rfl 1 rfl ?_
  refine V_iald hC 1 0 rfl rfl (by omega) (by decide) dX9_cuts_30 ?_
  refine V_iadd hC dX9_cuts_31 ?_
  refine V_imul hC dX9_cuts_32 ?_
  refine V_aload_n hC dX9_cuts_33 rfl 0 rfl ?_
  refine V_get (ci := 9) (v := .int (nI tt)) hC in_X9 0 rfl cls_X9 4 (by decide) fl_X9_38 rfl dX9_cuts_34 ?_
  refine V_idiv hC dX9_cuts_37 (by omega) (by omega) (by omega) ?_
  refine V_iadd hC dX9_cuts_38 ?_
  refine V_iconst (v := nI 1) hC dX9_cuts_39 (by decide) ?_
  refine V_isub hC dX9_cuts_40 (by omega) ?_
  refine V_put (ci := 9) (v := .int (nI ((lo + ((((hi - lo) + 1) * ((cB f k) + (f k))) / tt)) - 1))) hC tyX9 tyX9_ok nmX9 in_X9 0 rfl cls_X9 7 (by decide) fl_X9_50 rfl rfl rfl (Nat.le_of_ble_eq_true rfl) dX9_cuts_41 (ws2 := [(m9, .inr (9, [.ref al, .ref hs, .int (nI hL), .ref ct, .int (nI tt), .int (nI hv), .int (nI lo), .int (nI ((lo + ((((hi - lo) + 1) * ((cB f k) + (f k))) / tt)) - 1)), .int (nI wt), .ref bt, .int (nI bL), .ref cs, .ref gv, .int (nI gL), .int (nI tk), .int (nI vv), .ref rd, .int (nI rM), .ref tx, .int (nI tL), .int (nI pl)])), (ct, .inl (cI, 9, .inl (fun j => nI (f j))))]) rfl ?_
  refine V_aload_n hC dX9_cuts_44 rfl 0 rfl ?_
  refine V_aload_n hC dX9_cuts_45 rfl 0 rfl ?_
  refine V_get (ci := 9) (v := .int (nI lo)) hC in_X9 0 rfl cls_X9 6 (by decide) fl_X9_53 rfl dX9_cuts_46 ?_
  refine V_iload_n hC dX9_cuts_49 rfl 2 rfl ?_
  refine V_iload_n hC dX9_cuts_50 rfl 3 rfl ?_
  refine V_imul hC dX9_cuts_51 ?_
  refine V_aload_n hC dX9_cuts_52 rfl 0 rfl ?_
  refine V_get (ci := 9) (v := .int (nI tt)) hC in_X9 0 rfl cls_X9 4 (by decide) fl_X9_38 rfl dX9_cuts_53 ?_
  refine V_idiv hC dX9_cuts_56 (by omega) (by omega) (by omega) ?_
  refine V_iadd hC dX9_cuts_57 ?_
  refine V_put (ci := 9) (v := .int (nI (lo + ((((hi - lo) + 1) * (cB f k)) / tt)))) hC tyX9 tyX9_ok nmX9 in_X9 0 rfl cls_X9 6 (by decide) fl_X9_53 rfl rfl rfl (Nat.le_of_ble_eq_true rfl) dX9_cuts_58 (ws2 := [(m9, .inr (9, [.ref al, .ref hs, .int (nI hL), .ref ct, .int (nI tt), .int (nI hv), .int (nI (lo + ((((hi - lo) + 1) * (cB f k)) / tt))), .int (nI ((lo + ((((hi - lo) + 1) * ((cB f k) + (f k))) / tt)) - 1)), .int (nI wt), .ref bt, .int (nI bL), .ref cs, .ref gv, .int (nI gL), .int (nI tk), .int (nI vv), .ref rd, .int (nI rM), .ref tx, .int (nI tL), .int (nI pl)])), (ct, .inl (cI, 9, .inl (fun j => nI (f j))))]) rfl ?_
  subst hQ
  exact V_vret hC hr hlk (by decide) (by decide) dX9_cuts_61 (()) [0, 1] rfl (by decide) (trivial)
abbrev rm_X9_takenOff_go : Room := { frames := 0, cells := 0, slots := 0, locals := 0 }
set_option maxHeartbeats 4000000 in
set_option maxRecDepth 100000 in
theorem c_X9_takenOff_go (l : Launch) (D : va_G) (cI cQ : ClassId) (m9 al hs hL ct tt hv lo hi wt bt bL cs gv gL tk vv rd rM tx tL pl : Nat) (hs9 : lo ≤ hi ∧ hi ≤ 65535) (hw : wO lo hi ≠ 1) : MI l yX9_takenOff cX9_takenOff 1 (some .int) rm_X9_takenOff_go D (TY cI cQ) [.ref m9] [(m9, .inr (9, [.ref al, .ref hs, .int (nI hL), .ref ct, .int (nI tt), .int (nI hv), .int (nI lo), .int (nI hi), .int (nI wt), .ref bt, .int (nI bL), .ref cs, .ref gv, .int (nI gL), .int (nI tk), .int (nI vv), .ref rd, .int (nI rM), .ref tx, .int (nI tL), .int (nI pl)]))] (fun (r9 : Int32) (u : Unit) => r9 = (nI (wO lo hi)) ∧ (True)) (fun (u : Unit) => [(m9, .inr (9, [.ref al, .ref hs, .int (nI hL), .ref ct, .int (nI tt), .int (nI hv), .int (nI lo), .int (nI hi), .int (nI wt), .ref bt, .int (nI bL), .ref cs, .ref gv, .int (nI gL), .int (nI tk), .int (nI vv), .ref rd, .int (nI rM), .ref tx, .int (nI tL), .int (nI pl)]))]) 0 0 := by
  refine MI.start (by decide) (Nat.le_of_ble_eq_true rfl) (lv0 := [(0, .ref m9)]) rfl ?_
  intro pp9 ee9 ss9 mm9 args9 below9 meth9 co9 A9 Q9 hQ hC hr hlk hnm
  have hwc := wO_cases lo hi
  refine V_aload_n hC dX9_takenOff_0 rfl 0 rfl ?_
  refine V_get (ci := 9) (v := .int (nI hi)) hC in_X9 0 rfl cls_X9 7 (by decide) fl_X9_50 rfl dX9_takenOff_1 ?_
  refine V_ldc (v2 := nI 32768) hC dX9_takenOff_4 cst_X9_60 rfl ?_
  refine V_icmp_ge (tgt := 13) hC (by omega) (by omega) dX9_takenOff_6 (by decide) (fun c6 => ?_) (fun c6 => ?_)
  · refine V_aload_n hC dX9_takenOff_13 rfl 0 rfl ?_
    refine V_get (ci := 9) (v := .int (nI lo)) hC in_X9 0 rfl cls_X9 6 (by decide) fl_X9_53 rfl dX9_takenOff_14 ?_
    refine V_ldc (v2 := nI 32768) hC dX9_takenOff_17 cst_X9_60 rfl ?_
    refine V_icmp_lt (tgt := 27) hC (by omega) (by omega) dX9_takenOff_19 (by decide) (fun c19 => ?_) (fun c19 => ?_)
    · refine V_aload_n hC dX9_takenOff_27 rfl 0 rfl ?_
      refine V_get (ci := 9) (v := .int (nI lo)) hC in_X9 0 rfl cls_X9 6 (by decide) fl_X9_53 rfl dX9_takenOff_28 ?_
      refine V_sipush (v := nI 16384) hC dX9_takenOff_31 (by decide) ?_
      refine V_icmp_lt (tgt := 52) hC (by omega) (by omega) dX9_takenOff_34 (by decide) (fun c34 => ?_) (fun c34 => ?_)
      · exact False.elim (by omega)
      · refine V_aload_n hC dX9_takenOff_37 rfl 0 rfl ?_
        refine V_get (ci := 9) (v := .int (nI hi)) hC in_X9 0 rfl cls_X9 7 (by decide) fl_X9_50 rfl dX9_takenOff_38 ?_
        refine V_ldc (v2 := nI 49152) hC dX9_takenOff_41 cst_X9_61 rfl ?_
        refine V_icmp_ge_F (tgt := 52) hC dX9_takenOff_43 (by decide) (nI_ge (by omega) (by omega)) ?_
        refine V_sipush (v := nI 16384) hC dX9_takenOff_46 (by decide) ?_
        refine V_goto (tgt := 53) hC dX9_takenOff_49 (by decide) ?_
        refine V_st (st2 := [.int (nI (wO lo hi))]) (by rw [show (16384) = (wO lo hi) from (by omega)]) ?_
        subst hQ
        exact V_iret hC hr hlk rfl (by decide) (by decide) dX9_takenOff_53 (()) [0] rfl (by decide) (⟨rfl, trivial⟩)
    · refine V_ldc (v2 := nI 32768) hC dX9_takenOff_22 cst_X9_60 rfl ?_
      refine V_goto (tgt := 53) hC dX9_takenOff_24 (by decide) ?_
      refine V_st (st2 := [.int (nI (wO lo hi))]) (by rw [show (32768) = (wO lo hi) from (by omega)]) ?_
      subst hQ
      exact V_iret hC hr hlk rfl (by decide) (by decide) dX9_takenOff_53 (()) [0] rfl (by decide) (⟨rfl, trivial⟩)
  · refine V_iconst (v := nI 0) hC dX9_takenOff_9 (by decide) ?_
    refine V_goto (tgt := 53) hC dX9_takenOff_10 (by decide) ?_
    refine V_st (st2 := [.int (nI (wO lo hi))]) (by rw [show (0) = (wO lo hi) from (by omega)]) ?_
    subst hQ
    exact V_iret hC hr hlk rfl (by decide) (by decide) dX9_takenOff_53 (()) [0] rfl (by decide) (⟨rfl, trivial⟩)
abbrev rm_X9_takenOff_stop : Room := { frames := 0, cells := 0, slots := 0, locals := 0 }
set_option maxHeartbeats 4000000 in
set_option maxRecDepth 100000 in
theorem c_X9_takenOff_stop (l : Launch) (D : va_G) (cI cQ : ClassId) (m9 al hs hL ct tt hv lo hi wt bt bL cs gv gL tk vv rd rM tx tL pl : Nat) (hs9 : lo ≤ hi ∧ hi ≤ 65535) (hw : wO lo hi = 1) : MI l yX9_takenOff cX9_takenOff 1 (some .int) rm_X9_takenOff_stop D (TY cI cQ) [.ref m9] [(m9, .inr (9, [.ref al, .ref hs, .int (nI hL), .ref ct, .int (nI tt), .int (nI hv), .int (nI lo), .int (nI hi), .int (nI wt), .ref bt, .int (nI bL), .ref cs, .ref gv, .int (nI gL), .int (nI tk), .int (nI vv), .ref rd, .int (nI rM), .ref tx, .int (nI tL), .int (nI pl)]))] (fun (r9 : Int32) (u : Unit) => r9 = (-1) ∧ (True)) (fun (u : Unit) => [(m9, .inr (9, [.ref al, .ref hs, .int (nI hL), .ref ct, .int (nI tt), .int (nI hv), .int (nI lo), .int (nI hi), .int (nI wt), .ref bt, .int (nI bL), .ref cs, .ref gv, .int (nI gL), .int (nI tk), .int (nI vv), .ref rd, .int (nI rM), .ref tx, .int (nI tL), .int (nI pl)]))]) 0 0 := by
  refine MI.start (by decide) (Nat.le_of_ble_eq_true rfl) (lv0 := [(0, .ref m9)]) rfl ?_
  intro pp9 ee9 ss9 mm9 args9 below9 meth9 co9 A9 Q9 hQ hC hr hlk hnm
  have hwc := wO_cases lo hi
  refine V_aload_n hC dX9_takenOff_0 rfl 0 rfl ?_
  refine V_get (ci := 9) (v := .int (nI hi)) hC in_X9 0 rfl cls_X9 7 (by decide) fl_X9_50 rfl dX9_takenOff_1 ?_
  refine V_ldc (v2 := nI 32768) hC dX9_takenOff_4 cst_X9_60 rfl ?_
  refine V_icmp_ge_T (tgt := 13) hC dX9_takenOff_6 (by decide) (nI_le (by omega) (by omega)) ?_
  refine V_aload_n hC dX9_takenOff_13 rfl 0 rfl ?_
  refine V_get (ci := 9) (v := .int (nI lo)) hC in_X9 0 rfl cls_X9 6 (by decide) fl_X9_53 rfl dX9_takenOff_14 ?_
  refine V_ldc (v2 := nI 32768) hC dX9_takenOff_17 cst_X9_60 rfl ?_
  refine V_icmp_lt_T (tgt := 27) hC dX9_takenOff_19 (by decide) (nI_lt (by omega) (by omega)) ?_
  refine V_aload_n hC dX9_takenOff_27 rfl 0 rfl ?_
  refine V_get (ci := 9) (v := .int (nI lo)) hC in_X9 0 rfl cls_X9 6 (by decide) fl_X9_53 rfl dX9_takenOff_28 ?_
  refine V_sipush (v := nI 16384) hC dX9_takenOff_31 (by decide) ?_
  refine V_icmp_lt (tgt := 52) hC (by omega) (by omega) dX9_takenOff_34 (by decide) (fun c34 => ?_) (fun c34 => ?_)
  · refine V_iconst (v := -1) hC dX9_takenOff_52 (by decide) ?_
    subst hQ
    exact V_iret hC hr hlk rfl (by decide) (by decide) dX9_takenOff_53 (()) [0] rfl (by decide) (⟨rfl, trivial⟩)
  · refine V_aload_n hC dX9_takenOff_37 rfl 0 rfl ?_
    refine V_get (ci := 9) (v := .int (nI hi)) hC in_X9 0 rfl cls_X9 7 (by decide) fl_X9_50 rfl dX9_takenOff_38 ?_
    refine V_ldc (v2 := nI 49152) hC dX9_takenOff_41 cst_X9_61 rfl ?_
    refine V_icmp_ge_T (tgt := 52) hC dX9_takenOff_43 (by decide) (nI_le (by omega) (by omega)) ?_
    refine V_iconst (v := -1) hC dX9_takenOff_52 (by decide) ?_
    subst hQ
    exact V_iret hC hr hlk rfl (by decide) (by decide) dX9_takenOff_53 (()) [0] rfl (by decide) (⟨rfl, trivial⟩)
abbrev rm_X9_doubles : Room := { frames := 0, cells := 0, slots := 0, locals := 0 }
set_option maxHeartbeats 4000000 in
set_option maxRecDepth 100000 in
theorem c_X9_doubles (l : Launch) (D : va_G) (cI cQ : ClassId) (m9 al hs hL ct tt hv lo hi wt bt bL cs gv gL tk vv rd rM tx tL pl x : Nat) (hx : x ≤ lo ∧ x ≤ hi) : MV l yX9_doubles cX9_doubles 2 none rm_X9_doubles D (TY cI cQ) [.ref m9, .int (nI x)] [(m9, .inr (9, [.ref al, .ref hs, .int (nI hL), .ref ct, .int (nI tt), .int (nI hv), .int (nI lo), .int (nI hi), .int (nI wt), .ref bt, .int (nI bL), .ref cs, .ref gv, .int (nI gL), .int (nI tk), .int (nI vv), .ref rd, .int (nI rM), .ref tx, .int (nI tL), .int (nI pl)]))] (fun (u : Unit) => True) (fun (u : Unit) => [(m9, .inr (9, [.ref al, .ref hs, .int (nI hL), .ref ct, .int (nI tt), .int (nI hv), .int (nI ((lo - x) * 2)), .int (nI ((hi - x) * 2 + 1)), .int (nI wt), .ref bt, .int (nI bL), .ref cs, .ref gv, .int (nI gL), .int (nI tk), .int (nI vv), .ref rd, .int (nI rM), .ref tx, .int (nI tL), .int (nI pl)]))]) 0 0 := by
  refine MV.start (by decide) (Nat.le_of_ble_eq_true rfl) (lv0 := [(0, .ref m9), (1, .int (nI x))]) rfl ?_
  intro pp9 ee9 ss9 mm9 args9 below9 meth9 co9 A9 Q9 hQ hC hr hlk hnm
  refine V_aload_n hC dX9_doubles_0 rfl 0 rfl ?_
  refine V_iconst (v := nI 2) hC dX9_doubles_1 (by decide) ?_
  refine V_aload_n hC dX9_doubles_2 rfl 0 rfl ?_
  refine V_get (ci := 9) (v := .int (nI lo)) hC in_X9 0 rfl cls_X9 6 (by decide) fl_X9_53 rfl dX9_doubles_3 ?_
  refine V_iload_n hC dX9_doubles_6 rfl 1 rfl ?_
  refine V_isub hC dX9_doubles_7 (by omega) ?_
  refine V_imul hC dX9_doubles_8 ?_
  refine V_put (ci := 9) (v := .int (nI (2 * (lo - x)))) hC tyX9 tyX9_ok nmX9 in_X9 0 rfl cls_X9 6 (by decide) fl_X9_53 rfl rfl rfl (Nat.le_of_ble_eq_true rfl) dX9_doubles_9 (ws2 := [(m9, .inr (9, [.ref al, .ref hs, .int (nI hL), .ref ct, .int (nI tt), .int (nI hv), .int (nI (2 * (lo - x))), .int (nI hi), .int (nI wt), .ref bt, .int (nI bL), .ref cs, .ref gv, .int (nI gL), .int (nI tk), .int (nI vv), .ref rd, .int (nI rM), .ref tx, .int (nI tL), .int (nI pl)]))]) rfl ?_
  refine V_aload_n hC dX9_doubles_12 rfl 0 rfl ?_
  refine V_iconst (v := nI 2) hC dX9_doubles_13 (by decide) ?_
  refine V_aload_n hC dX9_doubles_14 rfl 0 rfl ?_
  refine V_get (ci := 9) (v := .int (nI hi)) hC in_X9 0 rfl cls_X9 7 (by decide) fl_X9_50 rfl dX9_doubles_15 ?_
  refine V_iload_n hC dX9_doubles_18 rfl 1 rfl ?_
  refine V_isub hC dX9_doubles_19 (by omega) ?_
  refine V_imul hC dX9_doubles_20 ?_
  refine V_iconst (v := nI 1) hC dX9_doubles_21 (by decide) ?_
  refine V_iadd hC dX9_doubles_22 ?_
  refine V_put (ci := 9) (v := .int (nI ((2 * (hi - x)) + 1))) hC tyX9 tyX9_ok nmX9 in_X9 0 rfl cls_X9 7 (by decide) fl_X9_50 rfl rfl rfl (Nat.le_of_ble_eq_true rfl) dX9_doubles_23 (ws2 := [(m9, .inr (9, [.ref al, .ref hs, .int (nI hL), .ref ct, .int (nI tt), .int (nI hv), .int (nI (2 * (lo - x))), .int (nI ((2 * (hi - x)) + 1)), .int (nI wt), .ref bt, .int (nI bL), .ref cs, .ref gv, .int (nI gL), .int (nI tk), .int (nI vv), .ref rd, .int (nI rM), .ref tx, .int (nI tL), .int (nI pl)]))]) rfl ?_
  refine V_ws (ws2 := [(m9, .inr (9, [.ref al, .ref hs, .int (nI hL), .ref ct, .int (nI tt), .int (nI hv), .int (nI ((lo - x) * 2)), .int (nI ((hi - x) * 2 + 1)), .int (nI wt), .ref bt, .int (nI bL), .ref cs, .ref gv, .int (nI gL), .int (nI tk), .int (nI vv), .ref rd, .int (nI rM), .ref tx, .int (nI tL), .int (nI pl)]))]) (by rw [Nat.mul_comm 2 (lo - x), Nat.mul_comm 2 (hi - x)]) ?_
  subst hQ
  exact V_vret hC hr hlk (by decide) (by decide) dX9_doubles_26 (()) [0] rfl (by decide) (trivial)
abbrev rm_X9_narrows : Room := { frames := 2, cells := 0, slots := 0, locals := 46 }
set_option maxHeartbeats 4000000 in
set_option maxRecDepth 100000 in
theorem c_X9_narrows (l : Launch) (D : va_G) (cI cQ : ClassId) (m9 al hs hL ct tt hv lo hi wt bt bL cs gv gL tk vv rd rM tx tL pl k : Nat) (f fb : Nat → Nat) (bs : List Nat) (hk : k < 9) (hc : okC f tt) (hs9 : lo ≤ hi ∧ hi ≤ 65535) (hw : tt ≤ hi - lo + 1) (hn : bL = bs.length) (hr9 : rep fb bs) (hl : bs.length + wt + 16 ≤ 1400) : MV l yX9_narrows cX9_narrows 3 none rm_X9_narrows D (TY cI cQ) [.ref m9, .int (nI k)] [(m9, .inr (9, [.ref al, .ref hs, .int (nI hL), .ref ct, .int (nI tt), .int (nI hv), .int (nI lo), .int (nI hi), .int (nI wt), .ref bt, .int (nI bL), .ref cs, .ref gv, .int (nI gL), .int (nI tk), .int (nI vv), .ref rd, .int (nI rM), .ref tx, .int (nI tL), .int (nI pl)])), (ct, .inl (cI, 9, .inl (fun j => nI (f j)))), (bt, .inl (cI, 1400, .inl (fun j => nI (fb j))))] (fun (u : (Nat → Nat)) => rep u (nr 16 (shL f tt k lo hi) (shU f tt k lo hi) wt bs).2.2.2) (fun (u : (Nat → Nat)) => [(m9, .inr (9, [.ref al, .ref hs, .int (nI hL), .ref ct, .int (nI tt), .int (nI hv), .int (nI ((nr 16 (shL f tt k lo hi) (shU f tt k lo hi) wt bs).1)), .int (nI ((nr 16 (shL f tt k lo hi) (shU f tt k lo hi) wt bs).2.1)), .int (nI ((nr 16 (shL f tt k lo hi) (shU f tt k lo hi) wt bs).2.2.1)), .ref bt, .int (nI ((nr 16 (shL f tt k lo hi) (shU f tt k lo hi) wt bs).2.2.2.length)), .ref cs, .ref gv, .int (nI gL), .int (nI tk), .int (nI vv), .ref rd, .int (nI rM), .ref tx, .int (nI tL), .int (nI pl)])), (ct, .inl (cI, 9, .inl (fun j => nI (f j)))), (bt, .inl (cI, 1400, .inl (fun j => nI (u j))))]) 0 0 := by
  refine MV.start (by decide) (Nat.le_of_ble_eq_true rfl) (lv0 := [(0, .ref m9), (1, .int (nI k))]) rfl ?_
  intro pp9 ee9 ss9 mm9 args9 below9 meth9 co9 A9 Q9 hQ hC hr hlk hnm
  have hsh := sh_ok hc hk hs9 hw
  subst hn
  refine V_aload_n hC dX9_narrows_0 rfl 0 rfl ?_
  refine V_iload_n hC dX9_narrows_1 rfl 1 rfl ?_
  refine V_callvV (As := [.int (nI k)]) (rest := []) (wr := [(bt, .inl (cI, 1400, .inl (fun j => nI (fb j))))]) hC (c_X9_cuts l D cI cQ m9 al hs hL ct tt hv lo hi wt bt bs.length cs gv gL tk vv rd rM tx tL pl k f (by omega) (hc) (by omega) (by omega)) mok_X9_cuts ml_X9_62 (q1 := 0) rfl cls_X9 rfl rfl rfl (by decide) (by decide) (by decide) (Nat.le_of_ble_eq_true rfl) [0, 1] [2] rfl (by decide) rfl (by decide) (by decide) dX9_narrows_2 rfl (fun u9 h2 => ?_)
  clear h2
  refine V_perm (ws2 := [(m9, .inr (9, [.ref al, .ref hs, .int (nI hL), .ref ct, .int (nI tt), .int (nI hv), .int (nI (shL f tt k lo hi)), .int (nI (shU f tt k lo hi)), .int (nI wt), .ref bt, .int (nI (bs.length)), .ref cs, .ref gv, .int (nI gL), .int (nI tk), .int (nI vv), .ref rd, .int (nI rM), .ref tx, .int (nI tL), .int (nI pl)])), (ct, .inl (cI, 9, .inl (fun j => nI (f j)))), (bt, .inl (cI, 1400, .inl (fun j => nI (fb j))))]) [1, 2, 0] rfl (by decide) ?_
  refine V_aload_n hC dX9_narrows_5 rfl 0 rfl ?_
  by_cases hw1 : wO (shL f tt k lo hi) (shU f tt k lo hi) = 1
  · refine V_calliV (As := []) (rest := []) (wr := [(ct, .inl (cI, 9, .inl (fun j => nI (f j)))), (bt, .inl (cI, 1400, .inl (fun j => nI (fb j))))]) hC (c_X9_takenOff_stop l D cI cQ m9 al hs hL ct tt hv (shL f tt k lo hi) (shU f tt k lo hi) wt bt bs.length cs gv gL tk vv rd rM tx tL pl (by omega) (hw1)) mok_X9_takenOff ml_X9_66 (q1 := 0) rfl cls_X9 rfl rfl rfl (by decide) (by decide) (by decide) (Nat.le_of_ble_eq_true rfl) [0] [1, 2] rfl (by decide) rfl (by decide) (by decide) dX9_narrows_6 rfl (fun r9 u9 h6 => ?_)
    obtain ⟨rfl, h6⟩ := h6
    clear h6
    refine V_perm (ws2 := [(m9, .inr (9, [.ref al, .ref hs, .int (nI hL), .ref ct, .int (nI tt), .int (nI hv), .int (nI ((shL f tt k lo hi))), .int (nI ((shU f tt k lo hi))), .int (nI wt), .ref bt, .int (nI (bs.length)), .ref cs, .ref gv, .int (nI gL), .int (nI tk), .int (nI vv), .ref rd, .int (nI rM), .ref tx, .int (nI tL), .int (nI pl)])), (ct, .inl (cI, 9, .inl (fun j => nI (f j)))), (bt, .inl (cI, 1400, .inl (fun j => nI (fb j))))]) [2, 0, 1] rfl (by decide) ?_
    refine V_istore_n (lv2 := [(0, .ref m9), (1, .int (nI k)), (2, .int (-1))]) hC dX9_narrows_9 rfl (by decide) [1, 2, 0] rfl ?_
    refine V_iload_n hC dX9_narrows_10 rfl 2 rfl ?_
    refine V_if_lt_T (tgt := 60) hC dX9_narrows_11 (by decide) (Int32.lt_iff_toInt_lt.mpr (by decide)) ?_
    subst hQ
    rw [show nr 16 (shL f tt k lo hi) (shU f tt k lo hi) wt bs = (shL f tt k lo hi, shU f tt k lo hi, wt, bs) from nr_stop hw1]
    exact V_vret hC hr hlk (by decide) (by decide) dX9_narrows_60 (fb) [0, 1, 2] rfl (by decide) (hr9)
  · refine V_calliV (As := []) (rest := []) (wr := [(ct, .inl (cI, 9, .inl (fun j => nI (f j)))), (bt, .inl (cI, 1400, .inl (fun j => nI (fb j))))]) hC (c_X9_takenOff_go l D cI cQ m9 al hs hL ct tt hv (shL f tt k lo hi) (shU f tt k lo hi) wt bt bs.length cs gv gL tk vv rd rM tx tL pl (by omega) (hw1)) mok_X9_takenOff ml_X9_66 (q1 := 0) rfl cls_X9 rfl rfl rfl (by decide) (by decide) (by decide) (Nat.le_of_ble_eq_true rfl) [0] [1, 2] rfl (by decide) rfl (by decide) (by decide) dX9_narrows_6 rfl (fun r9 u9 h6 => ?_)
    obtain ⟨rfl, h6⟩ := h6
    clear h6
    refine V_perm (ws2 := [(m9, .inr (9, [.ref al, .ref hs, .int (nI hL), .ref ct, .int (nI tt), .int (nI hv), .int (nI ((shL f tt k lo hi))), .int (nI ((shU f tt k lo hi))), .int (nI wt), .ref bt, .int (nI (bs.length)), .ref cs, .ref gv, .int (nI gL), .int (nI tk), .int (nI vv), .ref rd, .int (nI rM), .ref tx, .int (nI tL), .int (nI pl)])), (ct, .inl (cI, 9, .inl (fun j => nI (f j)))), (bt, .inl (cI, 1400, .inl (fun j => nI (fb j))))]) [2, 0, 1] rfl (by decide) ?_
    refine V_istore_n (lv2 := [(0, .ref m9), (1, .int (nI k)), (2, .int (nI (wO (shL f tt k lo hi) (shU f tt k lo hi))))]) hC dX9_narrows_9 rfl (by decide) [1, 2, 0] rfl ?_
    have L10 : ∀ (n9 : Nat) (i : Nat) (lo2 : Nat) (hi2 : Nat) (w2 : Nat) (bs2 : List Nat) (fb2 : Nat → Nat), (lo2 ≤ hi2 ∧ hi2 ≤ 65535) → (nr (16 - i) lo2 hi2 w2 bs2 = nr 16 (shL f tt k lo hi) (shU f tt k lo hi) wt bs) → (rep fb2 bs2) → (bs2.length + w2 + (16 - i) ≤ 1400) → (2 ^ i ≤ hi2 - lo2 + 1) → (wO lo2 hi2 ≠ 1) → 16 - i < n9 → V pp9 l ee9 rm_X9_narrows ss9 mm9 args9 below9 meth9 co9 D A9 ss9.heap 3 Q9 [(m9, .inr (9, [.ref al, .ref hs, .int (nI hL), .ref ct, .int (nI tt), .int (nI hv), .int (nI lo2), .int (nI hi2), .int (nI w2), .ref bt, .int (nI (bs2.length)), .ref cs, .ref gv, .int (nI gL), .int (nI tk), .int (nI vv), .ref rd, .int (nI rM), .ref tx, .int (nI tL), .int (nI pl)])), (ct, .inl (cI, 9, .inl (fun j => nI (f j)))), (bt, .inl (cI, 1400, .inl (fun j => nI (fb2 j))))] [(0, .ref m9), (1, .int (nI k)), (2, .int (nI (wO lo2 hi2)))] 0 0 10 [] := by
      intro n9
      induction n9 with
      | zero => intro i lo2 hi2 w2 bs2 fb2 h2 h3 h4 h5 hR hw1 h9; exact absurd h9 (Nat.not_lt_zero _)
      | succ n9 ih10 =>
        intro i lo2 hi2 w2 bs2 fb2 h2 h3 h4 h5 hR hw1 h9
        have hwc := wO_cases lo2 hi2
        have hi16 := wO_lt h2 hR hw1
        refine V_iload_n hC dX9_narrows_10 rfl 2 rfl ?_
        refine V_if_lt_F (tgt := 60) hC dX9_narrows_11 (by decide) (nI_pos (by omega)) ?_
        refine V_iload_n hC dX9_narrows_14 rfl 2 rfl ?_
        refine V_sipush (v := nI 16384) hC dX9_narrows_15 (by decide) ?_
        refine V_icmp_ne (tgt := 34) hC (by omega) (by omega) dX9_narrows_18 (by decide) (fun c18 => ?_) (fun c18 => ?_)
        · refine V_aload_n hC dX9_narrows_34 rfl 0 rfl ?_
          refine V_iload_n hC dX9_narrows_35 rfl 2 rfl ?_
          refine V_if_ne (tgt := 43) hC (by omega) dX9_narrows_36 (by decide) (fun c36 => ?_) (fun c36 => ?_)
          · refine V_iconst (v := nI 1) hC dX9_narrows_43 (by decide) ?_
            refine V_callvV (As := [.int (nI 1)]) (rest := []) (wr := [(ct, .inl (cI, 9, .inl (fun j => nI (f j))))]) hC (c_X9_writes l D cI cQ m9 al hs hL ct tt hv lo2 hi2 w2 bt bs2.length cs gv gL tk vv rd rM tx tL pl 1 fb2 bs2 (rfl) (h4) (by omega) (by omega)) mok_X9_writes ml_X9_70 (q1 := 0) rfl cls_X9 rfl rfl rfl (by decide) (by decide) (by decide) (Nat.le_of_ble_eq_true rfl) [0, 2] [1] rfl (by decide) rfl (by decide) (by decide) dX9_narrows_44 rfl (fun u9 h44 => ?_)
            obtain ⟨f2_1, rfl⟩ : ∃ z, z = u9 := ⟨_, rfl⟩
            have h44 : rep f2_1 (wB bs2 w2 1) := h44
            refine V_perm (ws2 := [(m9, .inr (9, [.ref al, .ref hs, .int (nI hL), .ref ct, .int (nI tt), .int (nI hv), .int (nI lo2), .int (nI hi2), .int (nI 0), .ref bt, .int (nI (bs2.length + 1 + w2)), .ref cs, .ref gv, .int (nI gL), .int (nI tk), .int (nI vv), .ref rd, .int (nI rM), .ref tx, .int (nI tL), .int (nI pl)])), (ct, .inl (cI, 9, .inl (fun j => nI (f j)))), (bt, .inl (cI, 1400, .inl (fun j => nI (f2_1 j))))]) [1, 0, 2] rfl (by decide) ?_
            refine V_aload_n hC dX9_narrows_47 rfl 0 rfl ?_
            refine V_iload_n hC dX9_narrows_48 rfl 2 rfl ?_
            refine V_callvV (As := [.int (nI (wO lo2 hi2))]) (rest := []) (wr := [(ct, .inl (cI, 9, .inl (fun j => nI (f j)))), (bt, .inl (cI, 1400, .inl (fun j => nI (f2_1 j))))]) hC (c_X9_doubles l D cI cQ m9 al hs hL ct tt hv lo2 hi2 0 bt (bs2.length + 1 + w2) cs gv gL tk vv rd rM tx tL pl (wO lo2 hi2) (by omega)) mok_X9_doubles ml_X9_73 (q1 := 0) rfl cls_X9 rfl rfl rfl (by decide) (by decide) (by decide) (Nat.le_of_ble_eq_true rfl) [0] [1, 2] rfl (by decide) rfl (by decide) (by decide) dX9_narrows_49 rfl (fun u9 h49 => ?_)
            clear h49
            refine V_perm (ws2 := [(m9, .inr (9, [.ref al, .ref hs, .int (nI hL), .ref ct, .int (nI tt), .int (nI hv), .int (nI ((lo2 - (wO lo2 hi2)) * 2)), .int (nI ((hi2 - (wO lo2 hi2)) * 2 + 1)), .int (nI 0), .ref bt, .int (nI ((bs2.length + 1 + w2))), .ref cs, .ref gv, .int (nI gL), .int (nI tk), .int (nI vv), .ref rd, .int (nI rM), .ref tx, .int (nI tL), .int (nI pl)])), (ct, .inl (cI, 9, .inl (fun j => nI (f j)))), (bt, .inl (cI, 1400, .inl (fun j => nI (f2_1 j))))]) [2, 0, 1] rfl (by decide) ?_
            refine V_aload_n hC dX9_narrows_52 rfl 0 rfl ?_
            by_cases hw2 : wO ((lo2 - wO lo2 hi2) * 2) ((hi2 - wO lo2 hi2) * 2 + 1) = 1
            · refine V_calliV (As := []) (rest := []) (wr := [(ct, .inl (cI, 9, .inl (fun j => nI (f j)))), (bt, .inl (cI, 1400, .inl (fun j => nI (f2_1 j))))]) hC (c_X9_takenOff_stop l D cI cQ m9 al hs hL ct tt hv ((lo2 - (wO lo2 hi2)) * 2) ((hi2 - (wO lo2 hi2)) * 2 + 1) 0 bt ((bs2.length + 1 + w2)) cs gv gL tk vv rd rM tx tL pl (by omega) (hw2)) mok_X9_takenOff ml_X9_66 (q1 := 0) rfl cls_X9 rfl rfl rfl (by decide) (by decide) (by decide) (Nat.le_of_ble_eq_true rfl) [0] [1, 2] rfl (by decide) rfl (by decide) (by decide) dX9_narrows_53 rfl (fun r9 u9 h53 => ?_)
              obtain ⟨rfl, h53⟩ := h53
              clear h53
              refine V_perm (ws2 := [(m9, .inr (9, [.ref al, .ref hs, .int (nI hL), .ref ct, .int (nI tt), .int (nI hv), .int (nI (((lo2 - (wO lo2 hi2)) * 2))), .int (nI (((hi2 - (wO lo2 hi2)) * 2 + 1))), .int (nI 0), .ref bt, .int (nI (((bs2.length + 1 + w2)))), .ref cs, .ref gv, .int (nI gL), .int (nI tk), .int (nI vv), .ref rd, .int (nI rM), .ref tx, .int (nI tL), .int (nI pl)])), (ct, .inl (cI, 9, .inl (fun j => nI (f j)))), (bt, .inl (cI, 1400, .inl (fun j => nI (f2_1 j))))]) [2, 0, 1] rfl (by decide) ?_
              refine V_istore_n (lv2 := [(0, .ref m9), (1, .int (nI k)), (2, .int (-1))]) hC dX9_narrows_56 rfl (by decide) [1, 2, 0] rfl ?_
              refine V_goto (tgt := 10) hC dX9_narrows_57 (by decide) ?_
              refine V_iload_n hC dX9_narrows_10 rfl 2 rfl ?_
              refine V_if_lt_T (tgt := 60) hC dX9_narrows_11 (by decide) (Int32.lt_iff_toInt_lt.mpr (by decide)) ?_
              subst hQ
              rw [show 16 - i = (16 - (i + 1)) + 1 by omega, nr_bit hw1 c18, if_pos (by omega), nr_stop hw2] at h3
              rw [← h3]
              rw [wB_len]
              exact V_vret hC hr hlk (by decide) (by decide) dX9_narrows_60 (f2_1) [0, 1, 2] rfl (by decide) (h44)
            · refine V_calliV (As := []) (rest := []) (wr := [(ct, .inl (cI, 9, .inl (fun j => nI (f j)))), (bt, .inl (cI, 1400, .inl (fun j => nI (f2_1 j))))]) hC (c_X9_takenOff_go l D cI cQ m9 al hs hL ct tt hv ((lo2 - (wO lo2 hi2)) * 2) ((hi2 - (wO lo2 hi2)) * 2 + 1) 0 bt ((bs2.length + 1 + w2)) cs gv gL tk vv rd rM tx tL pl (by omega) (hw2)) mok_X9_takenOff ml_X9_66 (q1 := 0) rfl cls_X9 rfl rfl rfl (by decide) (by decide) (by decide) (Nat.le_of_ble_eq_true rfl) [0] [1, 2] rfl (by decide) rfl (by decide) (by decide) dX9_narrows_53 rfl (fun r9 u9 h53 => ?_)
              obtain ⟨rfl, h53⟩ := h53
              clear h53
              refine V_perm (ws2 := [(m9, .inr (9, [.ref al, .ref hs, .int (nI hL), .ref ct, .int (nI tt), .int (nI hv), .int (nI (((lo2 - (wO lo2 hi2)) * 2))), .int (nI (((hi2 - (wO lo2 hi2)) * 2 + 1))), .int (nI 0), .ref bt, .int (nI (((bs2.length + 1 + w2)))), .ref cs, .ref gv, .int (nI gL), .int (nI tk), .int (nI vv), .ref rd, .int (nI rM), .ref tx, .int (nI tL), .int (nI pl)])), (ct, .inl (cI, 9, .inl (fun j => nI (f j)))), (bt, .inl (cI, 1400, .inl (fun j => nI (f2_1 j))))]) [2, 0, 1] rfl (by decide) ?_
              refine V_istore_n (lv2 := [(0, .ref m9), (1, .int (nI k)), (2, .int (nI (wO ((lo2 - (wO lo2 hi2)) * 2) ((hi2 - (wO lo2 hi2)) * 2 + 1))))]) hC dX9_narrows_56 rfl (by decide) [1, 2, 0] rfl ?_
              refine V_goto (tgt := 10) hC dX9_narrows_57 (by decide) ?_
              refine V_ws (ws2 := [(m9, .inr (9, [.ref al, .ref hs, .int (nI hL), .ref ct, .int (nI tt), .int (nI hv), .int (nI (((lo2 - (wO lo2 hi2)) * 2))), .int (nI (((hi2 - (wO lo2 hi2)) * 2 + 1))), .int (nI 0), .ref bt, .int (nI ((wB bs2 w2 1).length)), .ref cs, .ref gv, .int (nI gL), .int (nI tk), .int (nI vv), .ref rd, .int (nI rM), .ref tx, .int (nI tL), .int (nI pl)])), (ct, .inl (cI, 9, .inl (fun j => nI (f j)))), (bt, .inl (cI, 1400, .inl (fun j => nI (f2_1 j))))]) (by rw [wB_len]) ?_
              exact ih10 (i + 1) (((lo2 - (wO lo2 hi2)) * 2)) (((hi2 - (wO lo2 hi2)) * 2 + 1)) 0 (wB bs2 w2 1) f2_1 (⟨by omega, by omega⟩) (by rw [← h3, show 16 - i = (16 - (i + 1)) + 1 by omega, nr_bit hw1 c18, if_pos (by omega)]) (by first | assumption | omega) (by rw [wB_len]; omega) (dbl2 h2.1 (wO_le hw1) hR) (hw2) (by omega)
          · refine V_iconst (v := nI 0) hC dX9_narrows_39 (by decide) ?_
            refine V_goto (tgt := 44) hC dX9_narrows_40 (by decide) ?_
            refine V_callvV (As := [.int (nI 0)]) (rest := []) (wr := [(ct, .inl (cI, 9, .inl (fun j => nI (f j))))]) hC (c_X9_writes l D cI cQ m9 al hs hL ct tt hv lo2 hi2 w2 bt bs2.length cs gv gL tk vv rd rM tx tL pl 0 fb2 bs2 (rfl) (h4) (by omega) (by omega)) mok_X9_writes ml_X9_70 (q1 := 0) rfl cls_X9 rfl rfl rfl (by decide) (by decide) (by decide) (Nat.le_of_ble_eq_true rfl) [0, 2] [1] rfl (by decide) rfl (by decide) (by decide) dX9_narrows_44 rfl (fun u9 h44 => ?_)
            obtain ⟨f2_2, rfl⟩ : ∃ z, z = u9 := ⟨_, rfl⟩
            have h44 : rep f2_2 (wB bs2 w2 0) := h44
            refine V_perm (ws2 := [(m9, .inr (9, [.ref al, .ref hs, .int (nI hL), .ref ct, .int (nI tt), .int (nI hv), .int (nI lo2), .int (nI hi2), .int (nI 0), .ref bt, .int (nI (bs2.length + 1 + w2)), .ref cs, .ref gv, .int (nI gL), .int (nI tk), .int (nI vv), .ref rd, .int (nI rM), .ref tx, .int (nI tL), .int (nI pl)])), (ct, .inl (cI, 9, .inl (fun j => nI (f j)))), (bt, .inl (cI, 1400, .inl (fun j => nI (f2_2 j))))]) [1, 0, 2] rfl (by decide) ?_
            refine V_aload_n hC dX9_narrows_47 rfl 0 rfl ?_
            refine V_iload_n hC dX9_narrows_48 rfl 2 rfl ?_
            refine V_callvV (As := [.int (nI (wO lo2 hi2))]) (rest := []) (wr := [(ct, .inl (cI, 9, .inl (fun j => nI (f j)))), (bt, .inl (cI, 1400, .inl (fun j => nI (f2_2 j))))]) hC (c_X9_doubles l D cI cQ m9 al hs hL ct tt hv lo2 hi2 0 bt (bs2.length + 1 + w2) cs gv gL tk vv rd rM tx tL pl (wO lo2 hi2) (by omega)) mok_X9_doubles ml_X9_73 (q1 := 0) rfl cls_X9 rfl rfl rfl (by decide) (by decide) (by decide) (Nat.le_of_ble_eq_true rfl) [0] [1, 2] rfl (by decide) rfl (by decide) (by decide) dX9_narrows_49 rfl (fun u9 h49 => ?_)
            clear h49
            refine V_perm (ws2 := [(m9, .inr (9, [.ref al, .ref hs, .int (nI hL), .ref ct, .int (nI tt), .int (nI hv), .int (nI ((lo2 - (wO lo2 hi2)) * 2)), .int (nI ((hi2 - (wO lo2 hi2)) * 2 + 1)), .int (nI 0), .ref bt, .int (nI ((bs2.length + 1 + w2))), .ref cs, .ref gv, .int (nI gL), .int (nI tk), .int (nI vv), .ref rd, .int (nI rM), .ref tx, .int (nI tL), .int (nI pl)])), (ct, .inl (cI, 9, .inl (fun j => nI (f j)))), (bt, .inl (cI, 1400, .inl (fun j => nI (f2_2 j))))]) [2, 0, 1] rfl (by decide) ?_
            refine V_aload_n hC dX9_narrows_52 rfl 0 rfl ?_
            by_cases hw2 : wO ((lo2 - wO lo2 hi2) * 2) ((hi2 - wO lo2 hi2) * 2 + 1) = 1
            · refine V_calliV (As := []) (rest := []) (wr := [(ct, .inl (cI, 9, .inl (fun j => nI (f j)))), (bt, .inl (cI, 1400, .inl (fun j => nI (f2_2 j))))]) hC (c_X9_takenOff_stop l D cI cQ m9 al hs hL ct tt hv ((lo2 - (wO lo2 hi2)) * 2) ((hi2 - (wO lo2 hi2)) * 2 + 1) 0 bt ((bs2.length + 1 + w2)) cs gv gL tk vv rd rM tx tL pl (by omega) (hw2)) mok_X9_takenOff ml_X9_66 (q1 := 0) rfl cls_X9 rfl rfl rfl (by decide) (by decide) (by decide) (Nat.le_of_ble_eq_true rfl) [0] [1, 2] rfl (by decide) rfl (by decide) (by decide) dX9_narrows_53 rfl (fun r9 u9 h53 => ?_)
              obtain ⟨rfl, h53⟩ := h53
              clear h53
              refine V_perm (ws2 := [(m9, .inr (9, [.ref al, .ref hs, .int (nI hL), .ref ct, .int (nI tt), .int (nI hv), .int (nI (((lo2 - (wO lo2 hi2)) * 2))), .int (nI (((hi2 - (wO lo2 hi2)) * 2 + 1))), .int (nI 0), .ref bt, .int (nI (((bs2.length + 1 + w2)))), .ref cs, .ref gv, .int (nI gL), .int (nI tk), .int (nI vv), .ref rd, .int (nI rM), .ref tx, .int (nI tL), .int (nI pl)])), (ct, .inl (cI, 9, .inl (fun j => nI (f j)))), (bt, .inl (cI, 1400, .inl (fun j => nI (f2_2 j))))]) [2, 0, 1] rfl (by decide) ?_
              refine V_istore_n (lv2 := [(0, .ref m9), (1, .int (nI k)), (2, .int (-1))]) hC dX9_narrows_56 rfl (by decide) [1, 2, 0] rfl ?_
              refine V_goto (tgt := 10) hC dX9_narrows_57 (by decide) ?_
              refine V_iload_n hC dX9_narrows_10 rfl 2 rfl ?_
              refine V_if_lt_T (tgt := 60) hC dX9_narrows_11 (by decide) (Int32.lt_iff_toInt_lt.mpr (by decide)) ?_
              subst hQ
              rw [show 16 - i = (16 - (i + 1)) + 1 by omega, nr_bit hw1 c18, if_neg (by omega), nr_stop hw2] at h3
              rw [← h3]
              rw [wB_len]
              exact V_vret hC hr hlk (by decide) (by decide) dX9_narrows_60 (f2_2) [0, 1, 2] rfl (by decide) (h44)
            · refine V_calliV (As := []) (rest := []) (wr := [(ct, .inl (cI, 9, .inl (fun j => nI (f j)))), (bt, .inl (cI, 1400, .inl (fun j => nI (f2_2 j))))]) hC (c_X9_takenOff_go l D cI cQ m9 al hs hL ct tt hv ((lo2 - (wO lo2 hi2)) * 2) ((hi2 - (wO lo2 hi2)) * 2 + 1) 0 bt ((bs2.length + 1 + w2)) cs gv gL tk vv rd rM tx tL pl (by omega) (hw2)) mok_X9_takenOff ml_X9_66 (q1 := 0) rfl cls_X9 rfl rfl rfl (by decide) (by decide) (by decide) (Nat.le_of_ble_eq_true rfl) [0] [1, 2] rfl (by decide) rfl (by decide) (by decide) dX9_narrows_53 rfl (fun r9 u9 h53 => ?_)
              obtain ⟨rfl, h53⟩ := h53
              clear h53
              refine V_perm (ws2 := [(m9, .inr (9, [.ref al, .ref hs, .int (nI hL), .ref ct, .int (nI tt), .int (nI hv), .int (nI (((lo2 - (wO lo2 hi2)) * 2))), .int (nI (((hi2 - (wO lo2 hi2)) * 2 + 1))), .int (nI 0), .ref bt, .int (nI (((bs2.length + 1 + w2)))), .ref cs, .ref gv, .int (nI gL), .int (nI tk), .int (nI vv), .ref rd, .int (nI rM), .ref tx, .int (nI tL), .int (nI pl)])), (ct, .inl (cI, 9, .inl (fun j => nI (f j)))), (bt, .inl (cI, 1400, .inl (fun j => nI (f2_2 j))))]) [2, 0, 1] rfl (by decide) ?_
              refine V_istore_n (lv2 := [(0, .ref m9), (1, .int (nI k)), (2, .int (nI (wO ((lo2 - (wO lo2 hi2)) * 2) ((hi2 - (wO lo2 hi2)) * 2 + 1))))]) hC dX9_narrows_56 rfl (by decide) [1, 2, 0] rfl ?_
              refine V_goto (tgt := 10) hC dX9_narrows_57 (by decide) ?_
              refine V_ws (ws2 := [(m9, .inr (9, [.ref al, .ref hs, .int (nI hL), .ref ct, .int (nI tt), .int (nI hv), .int (nI (((lo2 - (wO lo2 hi2)) * 2))), .int (nI (((hi2 - (wO lo2 hi2)) * 2 + 1))), .int (nI 0), .ref bt, .int (nI ((wB bs2 w2 0).length)), .ref cs, .ref gv, .int (nI gL), .int (nI tk), .int (nI vv), .ref rd, .int (nI rM), .ref tx, .int (nI tL), .int (nI pl)])), (ct, .inl (cI, 9, .inl (fun j => nI (f j)))), (bt, .inl (cI, 1400, .inl (fun j => nI (f2_2 j))))]) (by rw [wB_len]) ?_
              exact ih10 (i + 1) (((lo2 - (wO lo2 hi2)) * 2)) (((hi2 - (wO lo2 hi2)) * 2 + 1)) 0 (wB bs2 w2 0) f2_2 (⟨by omega, by omega⟩) (by rw [← h3, show 16 - i = (16 - (i + 1)) + 1 by omega, nr_bit hw1 c18, if_neg (by omega)]) (by first | assumption | omega) (by rw [wB_len]; omega) (dbl2 h2.1 (wO_le hw1) hR) (hw2) (by omega)
        · refine V_aload_n hC dX9_narrows_21 rfl 0 rfl ?_
          refine V_dup hC dX9_narrows_22 rfl ?_
          refine V_get (ci := 9) (v := .int (nI w2)) hC in_X9 0 rfl cls_X9 8 (by decide) fl_X9_47 rfl dX9_narrows_23 ?_
          refine V_iconst (v := nI 1) hC dX9_narrows_26 (by decide) ?_
          refine V_iadd hC dX9_narrows_27 ?_
          refine V_put (ci := 9) (v := .int (nI (w2 + 1))) hC tyX9 tyX9_ok nmX9 in_X9 0 rfl cls_X9 8 (by decide) fl_X9_47 rfl rfl rfl (Nat.le_of_ble_eq_true rfl) dX9_narrows_28 (ws2 := [(m9, .inr (9, [.ref al, .ref hs, .int (nI hL), .ref ct, .int (nI tt), .int (nI hv), .int (nI lo2), .int (nI hi2), .int (nI (w2 + 1)), .ref bt, .int (nI (bs2.length)), .ref cs, .ref gv, .int (nI gL), .int (nI tk), .int (nI vv), .ref rd, .int (nI rM), .ref tx, .int (nI tL), .int (nI pl)])), (ct, .inl (cI, 9, .inl (fun j => nI (f j)))), (bt, .inl (cI, 1400, .inl (fun j => nI (fb2 j))))]) rfl ?_
          refine V_goto (tgt := 47) hC dX9_narrows_31 (by decide) ?_
          refine V_aload_n hC dX9_narrows_47 rfl 0 rfl ?_
          refine V_iload_n hC dX9_narrows_48 rfl 2 rfl ?_
          refine V_callvV (As := [.int (nI (wO lo2 hi2))]) (rest := []) (wr := [(ct, .inl (cI, 9, .inl (fun j => nI (f j)))), (bt, .inl (cI, 1400, .inl (fun j => nI (fb2 j))))]) hC (c_X9_doubles l D cI cQ m9 al hs hL ct tt hv lo2 hi2 (w2 + 1) bt bs2.length cs gv gL tk vv rd rM tx tL pl (wO lo2 hi2) (by omega)) mok_X9_doubles ml_X9_73 (q1 := 0) rfl cls_X9 rfl rfl rfl (by decide) (by decide) (by decide) (Nat.le_of_ble_eq_true rfl) [0] [1, 2] rfl (by decide) rfl (by decide) (by decide) dX9_narrows_49 rfl (fun u9 h49 => ?_)
          clear h49
          refine V_perm (ws2 := [(m9, .inr (9, [.ref al, .ref hs, .int (nI hL), .ref ct, .int (nI tt), .int (nI hv), .int (nI ((lo2 - (wO lo2 hi2)) * 2)), .int (nI ((hi2 - (wO lo2 hi2)) * 2 + 1)), .int (nI ((w2 + 1))), .ref bt, .int (nI (bs2.length)), .ref cs, .ref gv, .int (nI gL), .int (nI tk), .int (nI vv), .ref rd, .int (nI rM), .ref tx, .int (nI tL), .int (nI pl)])), (ct, .inl (cI, 9, .inl (fun j => nI (f j)))), (bt, .inl (cI, 1400, .inl (fun j => nI (fb2 j))))]) [2, 0, 1] rfl (by decide) ?_
          refine V_aload_n hC dX9_narrows_52 rfl 0 rfl ?_
          by_cases hw2 : wO ((lo2 - wO lo2 hi2) * 2) ((hi2 - wO lo2 hi2) * 2 + 1) = 1
          · refine V_calliV (As := []) (rest := []) (wr := [(ct, .inl (cI, 9, .inl (fun j => nI (f j)))), (bt, .inl (cI, 1400, .inl (fun j => nI (fb2 j))))]) hC (c_X9_takenOff_stop l D cI cQ m9 al hs hL ct tt hv ((lo2 - (wO lo2 hi2)) * 2) ((hi2 - (wO lo2 hi2)) * 2 + 1) ((w2 + 1)) bt bs2.length cs gv gL tk vv rd rM tx tL pl (by omega) (hw2)) mok_X9_takenOff ml_X9_66 (q1 := 0) rfl cls_X9 rfl rfl rfl (by decide) (by decide) (by decide) (Nat.le_of_ble_eq_true rfl) [0] [1, 2] rfl (by decide) rfl (by decide) (by decide) dX9_narrows_53 rfl (fun r9 u9 h53 => ?_)
            obtain ⟨rfl, h53⟩ := h53
            clear h53
            refine V_perm (ws2 := [(m9, .inr (9, [.ref al, .ref hs, .int (nI hL), .ref ct, .int (nI tt), .int (nI hv), .int (nI (((lo2 - (wO lo2 hi2)) * 2))), .int (nI (((hi2 - (wO lo2 hi2)) * 2 + 1))), .int (nI (((w2 + 1)))), .ref bt, .int (nI (bs2.length)), .ref cs, .ref gv, .int (nI gL), .int (nI tk), .int (nI vv), .ref rd, .int (nI rM), .ref tx, .int (nI tL), .int (nI pl)])), (ct, .inl (cI, 9, .inl (fun j => nI (f j)))), (bt, .inl (cI, 1400, .inl (fun j => nI (fb2 j))))]) [2, 0, 1] rfl (by decide) ?_
            refine V_istore_n (lv2 := [(0, .ref m9), (1, .int (nI k)), (2, .int (-1))]) hC dX9_narrows_56 rfl (by decide) [1, 2, 0] rfl ?_
            refine V_goto (tgt := 10) hC dX9_narrows_57 (by decide) ?_
            refine V_iload_n hC dX9_narrows_10 rfl 2 rfl ?_
            refine V_if_lt_T (tgt := 60) hC dX9_narrows_11 (by decide) (Int32.lt_iff_toInt_lt.mpr (by decide)) ?_
            subst hQ
            rw [show 16 - i = (16 - (i + 1)) + 1 by omega, nr_wait c18, nr_stop hw2] at h3
            rw [← h3]
            exact V_vret hC hr hlk (by decide) (by decide) dX9_narrows_60 (fb2) [0, 1, 2] rfl (by decide) (h4)
          · refine V_calliV (As := []) (rest := []) (wr := [(ct, .inl (cI, 9, .inl (fun j => nI (f j)))), (bt, .inl (cI, 1400, .inl (fun j => nI (fb2 j))))]) hC (c_X9_takenOff_go l D cI cQ m9 al hs hL ct tt hv ((lo2 - (wO lo2 hi2)) * 2) ((hi2 - (wO lo2 hi2)) * 2 + 1) ((w2 + 1)) bt bs2.length cs gv gL tk vv rd rM tx tL pl (by omega) (hw2)) mok_X9_takenOff ml_X9_66 (q1 := 0) rfl cls_X9 rfl rfl rfl (by decide) (by decide) (by decide) (Nat.le_of_ble_eq_true rfl) [0] [1, 2] rfl (by decide) rfl (by decide) (by decide) dX9_narrows_53 rfl (fun r9 u9 h53 => ?_)
            obtain ⟨rfl, h53⟩ := h53
            clear h53
            refine V_perm (ws2 := [(m9, .inr (9, [.ref al, .ref hs, .int (nI hL), .ref ct, .int (nI tt), .int (nI hv), .int (nI (((lo2 - (wO lo2 hi2)) * 2))), .int (nI (((hi2 - (wO lo2 hi2)) * 2 + 1))), .int (nI (((w2 + 1)))), .ref bt, .int (nI (bs2.length)), .ref cs, .ref gv, .int (nI gL), .int (nI tk), .int (nI vv), .ref rd, .int (nI rM), .ref tx, .int (nI tL), .int (nI pl)])), (ct, .inl (cI, 9, .inl (fun j => nI (f j)))), (bt, .inl (cI, 1400, .inl (fun j => nI (fb2 j))))]) [2, 0, 1] rfl (by decide) ?_
            refine V_istore_n (lv2 := [(0, .ref m9), (1, .int (nI k)), (2, .int (nI (wO ((lo2 - (wO lo2 hi2)) * 2) ((hi2 - (wO lo2 hi2)) * 2 + 1))))]) hC dX9_narrows_56 rfl (by decide) [1, 2, 0] rfl ?_
            refine V_goto (tgt := 10) hC dX9_narrows_57 (by decide) ?_
            exact ih10 (i + 1) (((lo2 - (wO lo2 hi2)) * 2)) (((hi2 - (wO lo2 hi2)) * 2 + 1)) (((w2 + 1))) bs2 fb2 (⟨by omega, by omega⟩) (by rw [← h3, show 16 - i = (16 - (i + 1)) + 1 by omega, nr_wait c18]) (by first | assumption | omega) (by first | assumption | omega) (dbl2 h2.1 (wO_le hw1) hR) (hw2) (by omega)
    exact L10 _ 0 ((shL f tt k lo hi)) ((shU f tt k lo hi)) wt bs fb (by omega) (rfl) (hr9) (by omega) (Nat.le_add_left _ _) (hw1) (Nat.lt_succ_self _)
