abbrev rm_L_up : Room := { frames := 0, cells := 0, slots := 0, locals := 0 }
set_option maxHeartbeats 4000000 in
set_option maxRecDepth 100000 in
theorem c_L_up (l : Launch) (D : va_G) (cI cQ : ClassId) (x : Int32) (n : Nat) (hn : 1 ≤ n ∧ n < 2147483648) : MI l yL_up cL_up 2 (some .int) rm_L_up D (TY cI cQ) [.int (x), .int (nI n)] [] (fun (r9 : Int32) (u : Unit) => r9 = (nI (upF x n)) ∧ (upF x n < n)) (fun (u : Unit) => []) 0 0 := by
  refine MI.start (by decide) (Nat.le_of_ble_eq_true rfl) (lv0 := [(0, .int (x)), (1, .int (nI n))]) rfl ?_
  intro pp9 ee9 ss9 mm9 args9 below9 meth9 co9 A9 Q9 hQ hC hr hlk hnm
  have hb9 := b31_lt x
  refine V_iload_n hC dL_up_0 rfl 0 rfl ?_
  refine V_ldc (v2 := nI 2147483647) hC dL_up_1 cst_L_8 rfl ?_
  refine V_and31 hC dL_up_3 ?_
  refine V_iload_n hC dL_up_4 rfl 1 rfl ?_
  refine V_irem hC (by omega) (by omega) (by omega) dL_up_5 ?_
  refine V_st (st2 := [.int (nI (upF x n))]) (by rw [show ((b31 x) % n) = (upF x n) from rfl]) ?_
  subst hQ
  exact V_iret hC hr hlk rfl (by decide) (by decide) dL_up_6 (()) [] rfl (by decide) (⟨rfl, upF_lt (by omega)⟩)
abbrev rm_L_cell : Room := { frames := 0, cells := 0, slots := 0, locals := 0 }
set_option maxHeartbeats 4000000 in
set_option maxRecDepth 100000 in
theorem c_L_cell (l : Launch) (D : va_G) (cI cQ : ClassId) {b9 L9 : Nat} {xs9 : Nat → Int32} (k : Nat) (hL : L9 < 2147483648) (hk : k < 1000) : MX l yL_cell cL_cell 2 (some .int) rm_L_cell D (TY cI cQ) b9 L9 xs9 [.ref b9, .int (nI k)] (fun r _ => r = cellF xs9 L9 k) := by
  refine MX.start (by decide) (Nat.le_of_ble_eq_true rfl) (lv0 := [(0, .ref b9), (1, .int (nI k))]) rfl ?_
  intro pp9 ee9 ss9 mm9 args9 below9 meth9 co9 A9 Q9 hQ hC hr hlk hnm hX hbl hbA
  refine V_iload_n hC dL_cell_0 rfl 1 rfl ?_
  refine V_aload_n hC dL_cell_1 rfl 0 rfl ?_
  refine V_slen hC hX hbl hbA dL_cell_2 ?_
  refine V_icmp_ge (tgt := 12) hC (by omega) (by omega) dL_cell_3 (by decide) (fun c3 => ?_) (fun c3 => ?_)
  · refine V_ldc (v2 := nI 1831565813) hC dL_cell_12 cst_L_7 rfl ?_
    refine V_iload_n hC dL_cell_14 rfl 1 rfl ?_
    refine V_sipush (v := nI 911) hC dL_cell_15 (by decide) ?_
    refine V_iadd hC dL_cell_18 ?_
    refine V_imul hC dL_cell_19 ?_
    subst hQ
    exact V_iret hC hr hlk rfl (by decide) (by decide) dL_cell_20 () [] rfl (by decide) ((if_neg (by omega) : cellF xs9 L9 k = _).symm)
  · refine V_aload_n hC dL_cell_6 rfl 0 rfl ?_
    refine V_iload_n hC dL_cell_7 rfl 1 rfl ?_
    refine V_sld (v := xs9 k) hC hX hbl hbA (by omega) (by omega) rfl dL_cell_8 ?_
    refine V_goto (tgt := 20) hC dL_cell_9 (by decide) ?_
    subst hQ
    exact V_iret hC hr hlk rfl (by decide) (by decide) dL_cell_20 () [] rfl (by decide) ((if_pos (by omega) : cellF xs9 L9 k = _).symm)
