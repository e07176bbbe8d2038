abbrev rm_X9_put_neg : Room := { frames := 1, cells := 0, slots := 0, locals := 25 }
set_option maxHeartbeats 4000000 in
set_option maxRecDepth 100000 in
theorem c_X9_put_neg (l : Launch) (D : va_G) (cI cQ : ClassId) (m9 al hs hL ct tt hv lo hi wt bt bL cs gv gL tk vv rd rM tx tL pl : Nat) (x : Int32) (hx : x.toInt < 0) : MI l yX9_put cX9_put 2 (some .int) rm_X9_put_neg D (TY cI cQ) [.ref m9, .int (x)] [(m9, .inr (9, [.ref al, .ref hs, .int (nI hL), .ref ct, .int (nI tt), .int (nI hv), .int (nI lo), .int (nI hi), .int (nI wt), .ref bt, .int (nI bL), .ref cs, .ref gv, .int (nI gL), .int (nI tk), .int (nI vv), .ref rd, .int (nI rM), .ref tx, .int (nI tL), .int (nI pl)]))] (fun (r9 : Int32) (u : Unit) => r9 = (-1) ∧ (True)) (fun (u : Unit) => [(m9, .inr (9, [.ref al, .ref hs, .int (nI hL), .ref ct, .int (nI tt), .int (nI hv), .int (nI lo), .int (nI hi), .int (nI wt), .ref bt, .int (nI bL), .ref cs, .ref gv, .int (nI gL), .int (nI tk), .int (nI vv), .ref rd, .int (nI rM), .ref tx, .int (nI tL), .int (nI pl)]))]) 0 0 := by
  refine MI.start (by decide) (Nat.le_of_ble_eq_true rfl) (lv0 := [(0, .ref m9), (1, .int (x))]) rfl ?_
  intro pp9 ee9 ss9 mm9 args9 below9 meth9 co9 A9 Q9 hQ hC hr hlk hnm
  refine V_iload_n hC dX9_put_0 rfl 1 rfl ?_
  refine V_i2l (v := (x).toInt64) hC dX9_put_1 rfl ?_
  refine V_lconst (v := lN 0) hC dX9_put_2 rfl ?_
  refine V_ldc2 (v2 := lN 7) hC dX9_put_3 cstl_X9_100 rfl ?_
  refine V_calliS (As := [.long ((x).toInt64), .long (lN 0), .long (lN 7)]) (rest := []) (wr := [(m9, .inr (9, [.ref al, .ref hs, .int (nI hL), .ref ct, .int (nI tt), .int (nI hv), .int (nI lo), .int (nI hi), .int (nI wt), .ref bt, .int (nI bL), .ref cs, .ref gv, .int (nI gL), .int (nI tk), .int (nI vv), .ref rd, .int (nI rM), .ref tx, .int (nI tL), .int (nI pl)]))]) hC (c_X9_in_neg l D cI cQ x 0 7 (hx) (by omega)) mok_X9_in ml_X9_102 rfl rfl rfl (by decide) (by decide) (by decide) (Nat.le_of_ble_eq_true rfl) [] [0] rfl (by decide) rfl (by decide) (by decide) dX9_put_6 rfl (fun r9 u9 h6 => ?_)
  obtain ⟨rfl, h6⟩ := h6
  clear h6
  refine V_perm (ws2 := [(m9, .inr (9, [.ref al, .ref hs, .int (nI hL), .ref ct, .int (nI tt), .int (nI hv), .int (nI lo), .int (nI hi), .int (nI wt), .ref bt, .int (nI bL), .ref cs, .ref gv, .int (nI gL), .int (nI tk), .int (nI vv), .ref rd, .int (nI rM), .ref tx, .int (nI tL), .int (nI pl)]))]) [0] rfl (by decide) ?_
  refine V_if_ne_F (tgt := 14) hC dX9_put_9 (by decide) ((congrArg nI (show 0 = 0 by omega)).trans nI_0) ?_
  refine V_iconst (v := -1) hC dX9_put_12 (by decide) ?_
  subst hQ
  exact V_iret hC hr hlk rfl (by decide) (by decide) dX9_put_13 (()) [0] rfl (by decide) (⟨rfl, trivial⟩)
abbrev rm_X9_put_bad : Room := { frames := 1, cells := 0, slots := 0, locals := 25 }
set_option maxHeartbeats 4000000 in
set_option maxRecDepth 100000 in
theorem c_X9_put_bad (l : Launch) (D : va_G) (cI cQ : ClassId) (m9 al hs hL ct tt hv lo hi wt bt bL cs gv gL tk vv rd rM tx tL pl x : Nat) (hx : 8 ≤ x ∧ x < 2147483648) : MI l yX9_put cX9_put 2 (some .int) rm_X9_put_bad D (TY cI cQ) [.ref m9, .int (nI x)] [(m9, .inr (9, [.ref al, .ref hs, .int (nI hL), .ref ct, .int (nI tt), .int (nI hv), .int (nI lo), .int (nI hi), .int (nI wt), .ref bt, .int (nI bL), .ref cs, .ref gv, .int (nI gL), .int (nI tk), .int (nI vv), .ref rd, .int (nI rM), .ref tx, .int (nI tL), .int (nI pl)]))] (fun (r9 : Int32) (u : Unit) => r9 = (-1) ∧ (True)) (fun (u : Unit) => [(m9, .inr (9, [.ref al, .ref hs, .int (nI hL), .ref ct, .int (nI tt), .int (nI hv), .int (nI lo), .int (nI hi), .int (nI wt), .ref bt, .int (nI bL), .ref cs, .ref gv, .int (nI gL), .int (nI tk), .int (nI vv), .ref rd, .int (nI rM), .ref tx, .int (nI tL), .int (nI pl)]))]) 0 0 := by
  refine MI.start (by decide) (Nat.le_of_ble_eq_true rfl) (lv0 := [(0, .ref m9), (1, .int (nI x))]) rfl ?_
  intro pp9 ee9 ss9 mm9 args9 below9 meth9 co9 A9 Q9 hQ hC hr hlk hnm
  refine V_iload_n hC dX9_put_0 rfl 1 rfl ?_
  refine V_i2l (v := lN x) hC dX9_put_1 (nI_l (by omega)) ?_
  refine V_lconst (v := lN 0) hC dX9_put_2 rfl ?_
  refine V_ldc2 (v2 := lN 7) hC dX9_put_3 cstl_X9_100 rfl ?_
  refine V_calliS (As := [.long (lN x), .long (lN 0), .long (lN 7)]) (rest := []) (wr := [(m9, .inr (9, [.ref al, .ref hs, .int (nI hL), .ref ct, .int (nI tt), .int (nI hv), .int (nI lo), .int (nI hi), .int (nI wt), .ref bt, .int (nI bL), .ref cs, .ref gv, .int (nI gL), .int (nI tk), .int (nI vv), .ref rd, .int (nI rM), .ref tx, .int (nI tL), .int (nI pl)]))]) hC (c_X9_in l D cI cQ x 0 7 (by omega) (by omega) (by omega)) mok_X9_in ml_X9_102 rfl rfl rfl (by decide) (by decide) (by decide) (Nat.le_of_ble_eq_true rfl) [] [0] rfl (by decide) rfl (by decide) (by decide) dX9_put_6 rfl (fun r9 u9 h6 => ?_)
  obtain ⟨u_1, rfl⟩ : ∃ z, z = u9 := ⟨_, rfl⟩
  obtain ⟨rfl, h6⟩ := h6
  have h6 : (u_1 = 1 ∧ 0 ≤ x ∧ x ≤ 7) ∨ (u_1 = 0 ∧ (x < 0 ∨ 7 < x)) := h6
  refine V_perm (ws2 := [(m9, .inr (9, [.ref al, .ref hs, .int (nI hL), .ref ct, .int (nI tt), .int (nI hv), .int (nI lo), .int (nI hi), .int (nI wt), .ref bt, .int (nI bL), .ref cs, .ref gv, .int (nI gL), .int (nI tk), .int (nI vv), .ref rd, .int (nI rM), .ref tx, .int (nI tL), .int (nI pl)]))]) [0] rfl (by decide) ?_
  refine V_if_ne (tgt := 14) hC (by omega) dX9_put_9 (by decide) (fun c9 => ?_) (fun c9 => ?_)
  · exact False.elim (by omega)
  · refine V_iconst (v := -1) hC dX9_put_12 (by decide) ?_
    subst hQ
    exact V_iret hC hr hlk rfl (by decide) (by decide) dX9_put_13 (()) [0] rfl (by decide) (⟨rfl, trivial⟩)
abbrev rm_X9_put_ended : Room := { frames := 1, cells := 0, slots := 0, locals := 25 }
set_option maxHeartbeats 4000000 in
set_option maxRecDepth 100000 in
theorem c_X9_put_ended (l : Launch) (D : va_G) (cI cQ : ClassId) (m9 al hs hL ct tt hv lo hi wt bt bL cs gv gL tk vv rd rM tx tL pl n e p b x : Nat) (g : Nat → Nat) (hx : x < 8) (he : e = 1) : MI l yX9_put cX9_put 2 (some .int) rm_X9_put_ended D (TY cI cQ) [.ref m9, .int (nI x)] [(m9, .inr (9, [.ref al, .ref hs, .int (nI hL), .ref ct, .int (nI tt), .int (nI hv), .int (nI lo), .int (nI hi), .int (nI wt), .ref bt, .int (nI bL), .ref cs, .ref gv, .int (nI gL), .int (nI tk), .int (nI vv), .ref rd, .int (nI rM), .ref tx, .int (nI tL), .int (nI pl)])), (al, .inl (cI, 44, .inl (fun j => nI ((allF g n e p b) j))))] (fun (r9 : Int32) (u : Unit) => r9 = (-2) ∧ (True)) (fun (u : Unit) => [(m9, .inr (9, [.ref al, .ref hs, .int (nI hL), .ref ct, .int (nI tt), .int (nI hv), .int (nI lo), .int (nI hi), .int (nI wt), .ref bt, .int (nI bL), .ref cs, .ref gv, .int (nI gL), .int (nI tk), .int (nI vv), .ref rd, .int (nI rM), .ref tx, .int (nI tL), .int (nI pl)])), (al, .inl (cI, 44, .inl (fun j => nI ((allF g n e p b) j))))]) 0 0 := by
  refine MI.start (by decide) (Nat.le_of_ble_eq_true rfl) (lv0 := [(0, .ref m9), (1, .int (nI x))]) rfl ?_
  intro pp9 ee9 ss9 mm9 args9 below9 meth9 co9 A9 Q9 hQ hC hr hlk hnm
  refine V_iload_n hC dX9_put_0 rfl 1 rfl ?_
  refine V_i2l (v := lN x) hC dX9_put_1 (nI_l (by omega)) ?_
  refine V_lconst (v := lN 0) hC dX9_put_2 rfl ?_
  refine V_ldc2 (v2 := lN 7) hC dX9_put_3 cstl_X9_100 rfl ?_
  refine V_calliS (As := [.long (lN x), .long (lN 0), .long (lN 7)]) (rest := []) (wr := [(m9, .inr (9, [.ref al, .ref hs, .int (nI hL), .ref ct, .int (nI tt), .int (nI hv), .int (nI lo), .int (nI hi), .int (nI wt), .ref bt, .int (nI bL), .ref cs, .ref gv, .int (nI gL), .int (nI tk), .int (nI vv), .ref rd, .int (nI rM), .ref tx, .int (nI tL), .int (nI pl)])), (al, .inl (cI, 44, .inl (fun j => nI ((allF g n e p b) j))))]) hC (c_X9_in l D cI cQ x 0 7 (by omega) (by omega) (by omega)) mok_X9_in ml_X9_102 rfl rfl rfl (by decide) (by decide) (by decide) (Nat.le_of_ble_eq_true rfl) [] [0, 1] rfl (by decide) rfl (by decide) (by decide) dX9_put_6 rfl (fun r9 u9 h6 => ?_)
  obtain ⟨u_1, rfl⟩ : ∃ z, z = u9 := ⟨_, rfl⟩
  obtain ⟨rfl, h6⟩ := h6
  have h6 : (u_1 = 1 ∧ 0 ≤ x ∧ x ≤ 7) ∨ (u_1 = 0 ∧ (x < 0 ∨ 7 < x)) := h6
  refine V_perm (ws2 := [(m9, .inr (9, [.ref al, .ref hs, .int (nI hL), .ref ct, .int (nI tt), .int (nI hv), .int (nI lo), .int (nI hi), .int (nI wt), .ref bt, .int (nI bL), .ref cs, .ref gv, .int (nI gL), .int (nI tk), .int (nI vv), .ref rd, .int (nI rM), .ref tx, .int (nI tL), .int (nI pl)])), (al, .inl (cI, 44, .inl (fun j => nI ((allF g n e p b) j))))]) [0, 1] rfl (by decide) ?_
  refine V_if_ne (tgt := 14) hC (by omega) dX9_put_9 (by decide) (fun c9 => ?_) (fun c9 => ?_)
  · refine V_aload_n hC dX9_put_14 rfl 0 rfl ?_
    refine V_get (ci := 9) (v := .ref al) hC in_X9 0 rfl cls_X9 0 (by decide) fl_X9_7 rfl dX9_put_15 ?_
    refine V_iconst (v := nI 3) hC dX9_put_18 (by decide) ?_
    refine V_iald hC 1 0 rfl rfl (by omega) (by decide) dX9_put_19 ?_
    refine V_st (st2 := [.int (nI e)]) (by rw [show ((allF g n e p b) 3) = (e) from rfl]) ?_
    refine V_iconst (v := nI 1) hC dX9_put_20 (by decide) ?_
    refine V_icmp_ne (tgt := 27) hC (by omega) (by omega) dX9_put_21 (by decide) (fun c21 => ?_) (fun c21 => ?_)
    · exact False.elim (by omega)
    · refine V_bipush (v := -2) hC dX9_put_24 (by decide) ?_
      subst hQ
      exact V_iret hC hr hlk rfl (by decide) (by decide) dX9_put_26 (()) [0, 1] rfl (by decide) (⟨rfl, trivial⟩)
  · exact False.elim (by omega)
abbrev rm_X9_put_full : Room := { frames := 1, cells := 0, slots := 0, locals := 25 }
set_option maxHeartbeats 4000000 in
set_option maxRecDepth 100000 in
theorem c_X9_put_full (l : Launch) (D : va_G) (cI cQ : ClassId) (m9 al hs hL ct tt hv lo hi wt bt bL cs gv gL tk vv rd rM tx tL pl n e p b x : Nat) (g : Nat → Nat) (hx : x < 8) (he : e = 0) (hn : n = 40) : MI l yX9_put cX9_put 2 (some .int) rm_X9_put_full D (TY cI cQ) [.ref m9, .int (nI x)] [(m9, .inr (9, [.ref al, .ref hs, .int (nI hL), .ref ct, .int (nI tt), .int (nI hv), .int (nI lo), .int (nI hi), .int (nI wt), .ref bt, .int (nI bL), .ref cs, .ref gv, .int (nI gL), .int (nI tk), .int (nI vv), .ref rd, .int (nI rM), .ref tx, .int (nI tL), .int (nI pl)])), (al, .inl (cI, 44, .inl (fun j => nI ((allF g n e p b) j))))] (fun (r9 : Int32) (u : Unit) => r9 = (-3) ∧ (True)) (fun (u : Unit) => [(m9, .inr (9, [.ref al, .ref hs, .int (nI hL), .ref ct, .int (nI tt), .int (nI hv), .int (nI lo), .int (nI hi), .int (nI wt), .ref bt, .int (nI bL), .ref cs, .ref gv, .int (nI gL), .int (nI tk), .int (nI vv), .ref rd, .int (nI rM), .ref tx, .int (nI tL), .int (nI pl)])), (al, .inl (cI, 44, .inl (fun j => nI ((allF g n e p b) j))))]) 0 0 := by
  refine MI.start (by decide) (Nat.le_of_ble_eq_true rfl) (lv0 := [(0, .ref m9), (1, .int (nI x))]) rfl ?_
  intro pp9 ee9 ss9 mm9 args9 below9 meth9 co9 A9 Q9 hQ hC hr hlk hnm
  refine V_iload_n hC dX9_put_0 rfl 1 rfl ?_
  refine V_i2l (v := lN x) hC dX9_put_1 (nI_l (by omega)) ?_
  refine V_lconst (v := lN 0) hC dX9_put_2 rfl ?_
  refine V_ldc2 (v2 := lN 7) hC dX9_put_3 cstl_X9_100 rfl ?_
  refine V_calliS (As := [.long (lN x), .long (lN 0), .long (lN 7)]) (rest := []) (wr := [(m9, .inr (9, [.ref al, .ref hs, .int (nI hL), .ref ct, .int (nI tt), .int (nI hv), .int (nI lo), .int (nI hi), .int (nI wt), .ref bt, .int (nI bL), .ref cs, .ref gv, .int (nI gL), .int (nI tk), .int (nI vv), .ref rd, .int (nI rM), .ref tx, .int (nI tL), .int (nI pl)])), (al, .inl (cI, 44, .inl (fun j => nI ((allF g n e p b) j))))]) hC (c_X9_in l D cI cQ x 0 7 (by omega) (by omega) (by omega)) mok_X9_in ml_X9_102 rfl rfl rfl (by decide) (by decide) (by decide) (Nat.le_of_ble_eq_true rfl) [] [0, 1] rfl (by decide) rfl (by decide) (by decide) dX9_put_6 rfl (fun r9 u9 h6 => ?_)
  obtain ⟨u_1, rfl⟩ : ∃ z, z = u9 := ⟨_, rfl⟩
  obtain ⟨rfl, h6⟩ := h6
  have h6 : (u_1 = 1 ∧ 0 ≤ x ∧ x ≤ 7) ∨ (u_1 = 0 ∧ (x < 0 ∨ 7 < x)) := h6
  refine V_perm (ws2 := [(m9, .inr (9, [.ref al, .ref hs, .int (nI hL), .ref ct, .int (nI tt), .int (nI hv), .int (nI lo), .int (nI hi), .int (nI wt), .ref bt, .int (nI bL), .ref cs, .ref gv, .int (nI gL), .int (nI tk), .int (nI vv), .ref rd, .int (nI rM), .ref tx, .int (nI tL), .int (nI pl)])), (al, .inl (cI, 44, .inl (fun j => nI ((allF g n e p b) j))))]) [0, 1] rfl (by decide) ?_
  refine V_if_ne (tgt := 14) hC (by omega) dX9_put_9 (by decide) (fun c9 => ?_) (fun c9 => ?_)
  · refine V_aload_n hC dX9_put_14 rfl 0 rfl ?_
    refine V_get (ci := 9) (v := .ref al) hC in_X9 0 rfl cls_X9 0 (by decide) fl_X9_7 rfl dX9_put_15 ?_
    refine V_iconst (v := nI 3) hC dX9_put_18 (by decide) ?_
    refine V_iald hC 1 0 rfl rfl (by omega) (by decide) dX9_put_19 ?_
    refine V_st (st2 := [.int (nI e)]) (by rw [show ((allF g n e p b) 3) = (e) from rfl]) ?_
    refine V_iconst (v := nI 1) hC dX9_put_20 (by decide) ?_
    refine V_icmp_ne (tgt := 27) hC (by omega) (by omega) dX9_put_21 (by decide) (fun c21 => ?_) (fun c21 => ?_)
    · refine V_aload_n hC dX9_put_27 rfl 0 rfl ?_
      refine V_get (ci := 9) (v := .ref al) hC in_X9 0 rfl cls_X9 0 (by decide) fl_X9_7 rfl dX9_put_28 ?_
      refine V_iconst (v := nI 2) hC dX9_put_31 (by decide) ?_
      refine V_iald hC 1 0 rfl rfl (by omega) (by decide) dX9_put_32 ?_
      refine V_st (st2 := [.int (nI n)]) (by rw [show ((allF g n e p b) 2) = (n) from rfl]) ?_
      refine V_bipush (v := nI 40) hC dX9_put_33 (by decide) ?_
      refine V_icmp_ne (tgt := 41) hC (by omega) (by omega) dX9_put_35 (by decide) (fun c35 => ?_) (fun c35 => ?_)
      · exact False.elim (by omega)
      · refine V_bipush (v := -3) hC dX9_put_38 (by decide) ?_
        subst hQ
        exact V_iret hC hr hlk rfl (by decide) (by decide) dX9_put_40 (()) [0, 1] rfl (by decide) (⟨rfl, trivial⟩)
    · exact False.elim (by omega)
  · exact False.elim (by omega)
abbrev rm_X9_put_ok : Room := { frames := 6, cells := 0, slots := 0, locals := 132 }
set_option maxHeartbeats 4000000 in
set_option maxRecDepth 100000 in
theorem c_X9_put_ok (l : Launch) (D : va_G) (cI cQ : ClassId) (m9 al hs hL ct tt hv lo hi wt bt bL cs gv gL tk vv rd rM tx tL pl n e p b x : Nat) (g f fh fb fc : Nat → Nat) (hx : x < 8) (he : e = 0) (hn : n < 40) (hg : ∀ j, j < n → g j < 8) (hp : p ≤ 64) (hb : b ≤ 2000) (hz : hL ≤ 4) : MI l yX9_put cX9_put 2 (some .int) rm_X9_put_ok D (TY cI cQ) [.ref m9, .int (nI x)] [(m9, .inr (9, [.ref al, .ref hs, .int (nI hL), .ref ct, .int (nI tt), .int (nI hv), .int (nI lo), .int (nI hi), .int (nI wt), .ref bt, .int (nI bL), .ref cs, .ref gv, .int (nI gL), .int (nI tk), .int (nI vv), .ref rd, .int (nI rM), .ref tx, .int (nI tL), .int (nI pl)])), (al, .inl (cI, 44, .inl (fun j => nI ((allF g n e p b) j)))), (hs, .inl (cI, 176, .inl (fun j => nI (fh j)))), (ct, .inl (cI, 9, .inl (fun j => nI (f j)))), (bt, .inl (cI, 1400, .inl (fun j => nI (fb j)))), (cs, .inl (cI, 40, .inl (fun j => nI (fc j))))] (fun (r9 : Int32) (u : (Nat → Nat) × (Nat → Nat) × (Nat → Nat)) => r9 = (nI (cost p b (va_up g n x) n)) ∧ (∀ k, k < hsz hL → ∀ j, j < 44 → HB u.1 k j = hup (HB fh) hL (allF g n 0 p b) k j)) (fun (u : (Nat → Nat) × (Nat → Nat) × (Nat → Nat)) => [(m9, .inr (9, [.ref al, .ref hs, .int (nI (hsz hL)), .ref ct, .int (nI (sT (cM p b (va_up g n x) (n + 1) 0))), .int (nI (sH (cM p b (va_up g n x) (n + 1) 0))), .int (nI (sL (cM p b (va_up g n x) (n + 1) 0))), .int (nI (sU (cM p b (va_up g n x) (n + 1) 0))), .int (nI (sW (cM p b (va_up g n x) (n + 1) 0))), .ref bt, .int (nI ((sB (cM p b (va_up g n x) (n + 1) 0)).length)), .ref cs, .ref gv, .int (nI gL), .int (nI tk), .int (nI vv), .ref rd, .int (nI rM), .ref tx, .int (nI tL), .int (nI pl)])), (al, .inl (cI, 44, .inl (fun j => nI ((allF (va_up g n x) (n + 1) 0 p b) j)))), (hs, .inl (cI, 176, .inl (fun j => nI (u.1 j)))), (ct, .inl (cI, 9, .inl (fun j => nI ((sF (cM p b (va_up g n x) (n + 1) 0)) j)))), (bt, .inl (cI, 1400, .inl (fun j => nI (u.2.1 j)))), (cs, .inl (cI, 40, .inl (fun j => nI (u.2.2 j))))]) 0 0 := by
  refine MI.start (by decide) (Nat.le_of_ble_eq_true rfl) (lv0 := [(0, .ref m9), (1, .int (nI x))]) rfl ?_
  intro pp9 ee9 ss9 mm9 args9 below9 meth9 co9 A9 Q9 hQ hC hr hlk hnm
  subst he
  refine V_iload_n hC dX9_put_0 rfl 1 rfl ?_
  refine V_i2l (v := lN x) hC dX9_put_1 (nI_l (by omega)) ?_
  refine V_lconst (v := lN 0) hC dX9_put_2 rfl ?_
  refine V_ldc2 (v2 := lN 7) hC dX9_put_3 cstl_X9_100 rfl ?_
  refine V_calliS (As := [.long (lN x), .long (lN 0), .long (lN 7)]) (rest := []) (wr := [(m9, .inr (9, [.ref al, .ref hs, .int (nI hL), .ref ct, .int (nI tt), .int (nI hv), .int (nI lo), .int (nI hi), .int (nI wt), .ref bt, .int (nI bL), .ref cs, .ref gv, .int (nI gL), .int (nI tk), .int (nI vv), .ref rd, .int (nI rM), .ref tx, .int (nI tL), .int (nI pl)])), (al, .inl (cI, 44, .inl (fun j => nI ((allF g n 0 p b) j)))), (hs, .inl (cI, 176, .inl (fun j => nI (fh j)))), (ct, .inl (cI, 9, .inl (fun j => nI (f j)))), (bt, .inl (cI, 1400, .inl (fun j => nI (fb j)))), (cs, .inl (cI, 40, .inl (fun j => nI (fc j))))]) hC (c_X9_in l D cI cQ x 0 7 (by omega) (by omega) (by omega)) mok_X9_in ml_X9_102 rfl rfl rfl (by decide) (by decide) (by decide) (Nat.le_of_ble_eq_true rfl) [] [0, 1, 2, 3, 4, 5] rfl (by decide) rfl (by decide) (by decide) dX9_put_6 rfl (fun r9 u9 h6 => ?_)
  obtain ⟨u_1, rfl⟩ : ∃ z, z = u9 := ⟨_, rfl⟩
  obtain ⟨rfl, h6⟩ := h6
  have h6 : (u_1 = 1 ∧ 0 ≤ x ∧ x ≤ 7) ∨ (u_1 = 0 ∧ (x < 0 ∨ 7 < x)) := h6
  refine V_perm (ws2 := [(m9, .inr (9, [.ref al, .ref hs, .int (nI hL), .ref ct, .int (nI tt), .int (nI hv), .int (nI lo), .int (nI hi), .int (nI wt), .ref bt, .int (nI bL), .ref cs, .ref gv, .int (nI gL), .int (nI tk), .int (nI vv), .ref rd, .int (nI rM), .ref tx, .int (nI tL), .int (nI pl)])), (al, .inl (cI, 44, .inl (fun j => nI ((allF g n 0 p b) j)))), (hs, .inl (cI, 176, .inl (fun j => nI (fh j)))), (ct, .inl (cI, 9, .inl (fun j => nI (f j)))), (bt, .inl (cI, 1400, .inl (fun j => nI (fb j)))), (cs, .inl (cI, 40, .inl (fun j => nI (fc j))))]) [0, 1, 2, 3, 4, 5] rfl (by decide) ?_
  refine V_if_ne (tgt := 14) hC (by omega) dX9_put_9 (by decide) (fun c9 => ?_) (fun c9 => ?_)
  · refine V_aload_n hC dX9_put_14 rfl 0 rfl ?_
    refine V_get (ci := 9) (v := .ref al) hC in_X9 0 rfl cls_X9 0 (by decide) fl_X9_7 rfl dX9_put_15 ?_
    refine V_iconst (v := nI 3) hC dX9_put_18 (by decide) ?_
    refine V_iald hC 1 0 rfl rfl (by omega) (by decide) dX9_put_19 ?_
    refine V_st (st2 := [.int (nI 0)]) (by rw [show ((allF g n 0 p b) 3) = (0) from rfl]) ?_
    refine V_iconst (v := nI 1) hC dX9_put_20 (by decide) ?_
    refine V_icmp_ne_T (tgt := 27) hC dX9_put_21 (by decide) (fun z => absurd ((nI_eq (by omega) (by omega)).mp z) (show ¬ 0 = 1 by omega)) ?_
    refine V_aload_n hC dX9_put_27 rfl 0 rfl ?_
    refine V_get (ci := 9) (v := .ref al) hC in_X9 0 rfl cls_X9 0 (by decide) fl_X9_7 rfl dX9_put_28 ?_
    refine V_iconst (v := nI 2) hC dX9_put_31 (by decide) ?_
    refine V_iald hC 1 0 rfl rfl (by omega) (by decide) dX9_put_32 ?_
    refine V_st (st2 := [.int (nI n)]) (by rw [show ((allF g n 0 p b) 2) = (n) from rfl]) ?_
    refine V_bipush (v := nI 40) hC dX9_put_33 (by decide) ?_
    refine V_icmp_ne (tgt := 41) hC (by omega) (by omega) dX9_put_35 (by decide) (fun c35 => ?_) (fun c35 => ?_)
    · refine V_aload_n hC dX9_put_41 rfl 0 rfl ?_
      refine V_callvV (As := []) (rest := []) (wr := [(ct, .inl (cI, 9, .inl (fun j => nI (f j)))), (bt, .inl (cI, 1400, .inl (fun j => nI (fb j)))), (cs, .inl (cI, 40, .inl (fun j => nI (fc j))))]) hC (c_X9_record l D cI cQ m9 al hs hL ct tt hv lo hi wt bt bL cs gv gL tk vv rd rM tx tL pl n 0 p b g fh (by omega)) mok_X9_record ml_X9_106 (q1 := 0) rfl cls_X9 rfl rfl rfl (by decide) (by decide) (by decide) (Nat.le_of_ble_eq_true rfl) [0, 1, 2] [3, 4, 5] rfl (by decide) rfl (by decide) (by decide) dX9_put_42 rfl (fun u9 h42 => ?_)
      obtain ⟨fh2_2, rfl⟩ : ∃ z, z = u9 := ⟨_, rfl⟩
      have h42 : ∀ k, k < hsz hL → ∀ j, j < 44 → HB fh2_2 k j = hup (HB fh) hL (allF g n 0 p b) k j := h42
      refine V_perm (ws2 := [(m9, .inr (9, [.ref al, .ref hs, .int (nI (hsz hL)), .ref ct, .int (nI tt), .int (nI hv), .int (nI lo), .int (nI hi), .int (nI wt), .ref bt, .int (nI bL), .ref cs, .ref gv, .int (nI gL), .int (nI tk), .int (nI vv), .ref rd, .int (nI rM), .ref tx, .int (nI tL), .int (nI pl)])), (al, .inl (cI, 44, .inl (fun j => nI ((allF g n 0 p b) j)))), (hs, .inl (cI, 176, .inl (fun j => nI (fh2_2 j)))), (ct, .inl (cI, 9, .inl (fun j => nI (f j)))), (bt, .inl (cI, 1400, .inl (fun j => nI (fb j)))), (cs, .inl (cI, 40, .inl (fun j => nI (fc j))))]) [3, 4, 5, 0, 1, 2] rfl (by decide) ?_
      refine V_aload_n hC dX9_put_45 rfl 0 rfl ?_
      refine V_get (ci := 9) (v := .ref al) hC in_X9 0 rfl cls_X9 0 (by decide) fl_X9_7 rfl dX9_put_46 ?_
      refine V_iconst (v := nI 4) hC dX9_put_49 (by decide) ?_
      refine V_aload_n hC dX9_put_50 rfl 0 rfl ?_
      refine V_get (ci := 9) (v := .ref al) hC in_X9 0 rfl cls_X9 0 (by decide) fl_X9_7 rfl dX9_put_51 ?_
      refine V_iconst (v := nI 2) hC dX9_put_54 (by decide) ?_
      refine V_iald hC 1 0 rfl rfl (by omega) (by decide) dX9_put_55 ?_
      refine V_st (st2 := [.int (nI n), .int (nI 4), .ref al]) (by rw [show ((allF g n 0 p b) 2) = (n) from rfl]) ?_
      refine V_iadd hC dX9_put_56 ?_
      refine V_iload_n hC dX9_put_57 rfl 1 rfl ?_
      refine V_iast hC 1 0 rfl rfl (by omega) (by decide) dX9_put_58 (ws2 := [(m9, .inr (9, [.ref al, .ref hs, .int (nI (hsz hL)), .ref ct, .int (nI tt), .int (nI hv), .int (nI lo), .int (nI hi), .int (nI wt), .ref bt, .int (nI bL), .ref cs, .ref gv, .int (nI gL), .int (nI tk), .int (nI vv), .ref rd, .int (nI rM), .ref tx, .int (nI tL), .int (nI pl)])), (al, .inl (cI, 44, .inl (fun j => nI ((va_up (allF g n 0 p b) (4 + n) x) j)))), (hs, .inl (cI, 176, .inl (fun j => nI (fh2_2 j)))), (ct, .inl (cI, 9, .inl (fun j => nI (f j)))), (bt, .inl (cI, 1400, .inl (fun j => nI (fb j)))), (cs, .inl (cI, 40, .inl (fun j => nI (fc j))))]) rfl ?_
      refine V_ws (ws2 := [(m9, .inr (9, [.ref al, .ref hs, .int (nI (hsz hL)), .ref ct, .int (nI tt), .int (nI hv), .int (nI lo), .int (nI hi), .int (nI wt), .ref bt, .int (nI bL), .ref cs, .ref gv, .int (nI gL), .int (nI tk), .int (nI vv), .ref rd, .int (nI rM), .ref tx, .int (nI tL), .int (nI pl)])), (al, .inl (cI, 44, .inl (fun j => nI ((allF (va_up g n x) n 0 p b) j)))), (hs, .inl (cI, 176, .inl (fun j => nI (fh2_2 j)))), (ct, .inl (cI, 9, .inl (fun j => nI (f j)))), (bt, .inl (cI, 1400, .inl (fun j => nI (fb j)))), (cs, .inl (cI, 40, .inl (fun j => nI (fc j))))]) (by rw [show va_up (allF g n 0 p b) (4 + n) x = allF (va_up g n x) n 0 p b from allF_up4 _ _ _ _ _ _ _]) ?_
      refine V_aload_n hC dX9_put_59 rfl 0 rfl ?_
      refine V_get (ci := 9) (v := .ref al) hC in_X9 0 rfl cls_X9 0 (by decide) fl_X9_7 rfl dX9_put_60 ?_
      refine V_iconst (v := nI 2) hC dX9_put_63 (by decide) ?_
      refine V_dup2 hC dX9_put_64 rfl rfl ?_
      refine V_iald hC 1 0 rfl rfl (by omega) (by decide) dX9_put_65 ?_
      refine V_st (st2 := [.int (nI n), .int (nI 2), .ref al]) (by rw [show ((allF (va_up g n x) n 0 p b) 2) = (n) from rfl]) ?_
      refine V_iconst (v := nI 1) hC dX9_put_66 (by decide) ?_
      refine V_iadd hC dX9_put_67 ?_
      refine V_iast hC 1 0 rfl rfl (by omega) (by decide) dX9_put_68 (ws2 := [(m9, .inr (9, [.ref al, .ref hs, .int (nI (hsz hL)), .ref ct, .int (nI tt), .int (nI hv), .int (nI lo), .int (nI hi), .int (nI wt), .ref bt, .int (nI bL), .ref cs, .ref gv, .int (nI gL), .int (nI tk), .int (nI vv), .ref rd, .int (nI rM), .ref tx, .int (nI tL), .int (nI pl)])), (al, .inl (cI, 44, .inl (fun j => nI ((va_up (allF (va_up g n x) n 0 p b) 2 (n + 1)) j)))), (hs, .inl (cI, 176, .inl (fun j => nI (fh2_2 j)))), (ct, .inl (cI, 9, .inl (fun j => nI (f j)))), (bt, .inl (cI, 1400, .inl (fun j => nI (fb j)))), (cs, .inl (cI, 40, .inl (fun j => nI (fc j))))]) rfl ?_
      refine V_ws (ws2 := [(m9, .inr (9, [.ref al, .ref hs, .int (nI (hsz hL)), .ref ct, .int (nI tt), .int (nI hv), .int (nI lo), .int (nI hi), .int (nI wt), .ref bt, .int (nI bL), .ref cs, .ref gv, .int (nI gL), .int (nI tk), .int (nI vv), .ref rd, .int (nI rM), .ref tx, .int (nI tL), .int (nI pl)])), (al, .inl (cI, 44, .inl (fun j => nI ((allF (va_up g n x) (n + 1) 0 p b) j)))), (hs, .inl (cI, 176, .inl (fun j => nI (fh2_2 j)))), (ct, .inl (cI, 9, .inl (fun j => nI (f j)))), (bt, .inl (cI, 1400, .inl (fun j => nI (fb j)))), (cs, .inl (cI, 40, .inl (fun j => nI (fc j))))]) (by rw [show va_up (allF (va_up g n x) n 0 p b) 2 (n + 1) = allF (va_up g n x) (n + 1) 0 p b from allF_up2 _ _ _ _ _ _]) ?_
      refine V_aload_n hC dX9_put_69 rfl 0 rfl ?_
      refine V_callvV (As := []) (rest := []) (wr := [(hs, .inl (cI, 176, .inl (fun j => nI (fh2_2 j))))]) hC (c_X9_putsNow l D cI cQ m9 al hs (hsz hL) ct tt hv lo hi wt bt bL cs gv gL tk vv rd rM tx tL pl (n + 1) 0 p b (va_up g n x) f fb fc (by omega) (up8s hg hx) (by omega) (by omega) (by omega)) mok_X9_putsNow ml_X9_97 (q1 := 0) rfl cls_X9 rfl rfl rfl (by decide) (by decide) (by decide) (Nat.le_of_ble_eq_true rfl) [0, 1, 3, 4, 5] [2] rfl (by decide) rfl (by decide) (by decide) dX9_put_70 rfl (fun u9 h70 => ?_)
      obtain ⟨fb2_3, fc2_4⟩ := u9
      have h70 : rep fb2_3 (sB (cM p b (va_up g n x) (n + 1) 0)) ∧ ∀ j, j < (n + 1) → fc2_4 j = cost p b (va_up g n x) j := h70
      refine V_perm (ws2 := [(m9, .inr (9, [.ref al, .ref hs, .int (nI ((hsz hL))), .ref ct, .int (nI (sT (cM p b (va_up g n x) (n + 1) 0))), .int (nI (sH (cM p b (va_up g n x) (n + 1) 0))), .int (nI (sL (cM p b (va_up g n x) (n + 1) 0))), .int (nI (sU (cM p b (va_up g n x) (n + 1) 0))), .int (nI (sW (cM p b (va_up g n x) (n + 1) 0))), .ref bt, .int (nI ((sB (cM p b (va_up g n x) (n + 1) 0)).length)), .ref cs, .ref gv, .int (nI gL), .int (nI tk), .int (nI vv), .ref rd, .int (nI rM), .ref tx, .int (nI tL), .int (nI pl)])), (al, .inl (cI, 44, .inl (fun j => nI ((allF (va_up g n x) (n + 1) 0 p b) j)))), (hs, .inl (cI, 176, .inl (fun j => nI (fh2_2 j)))), (ct, .inl (cI, 9, .inl (fun j => nI ((sF (cM p b (va_up g n x) (n + 1) 0)) j)))), (bt, .inl (cI, 1400, .inl (fun j => nI (fb2_3 j)))), (cs, .inl (cI, 40, .inl (fun j => nI (fc2_4 j))))]) [1, 2, 0, 3, 4, 5] rfl (by decide) ?_
      refine V_aload_n hC dX9_put_73 rfl 0 rfl ?_
      refine V_get (ci := 9) (v := .ref cs) hC in_X9 0 rfl cls_X9 11 (by decide) fl_X9_22 rfl dX9_put_74 ?_
      refine V_aload_n hC dX9_put_77 rfl 0 rfl ?_
      refine V_get (ci := 9) (v := .ref al) hC in_X9 0 rfl cls_X9 0 (by decide) fl_X9_7 rfl dX9_put_78 ?_
      refine V_iconst (v := nI 2) hC dX9_put_81 (by decide) ?_
      refine V_iald hC 1 0 rfl rfl (by omega) (by decide) dX9_put_82 ?_
      refine V_st (st2 := [.int (nI ((n + 1))), .ref cs]) (by rw [show ((allF (va_up g n x) (n + 1) 0 p b) 2) = ((n + 1)) from rfl]) ?_
      refine V_iconst (v := nI 1) hC dX9_put_83 (by decide) ?_
      refine V_isub hC dX9_put_84 (by omega) ?_
      refine V_iald hC 5 0 rfl rfl (by omega) (by decide) dX9_put_85 ?_
      refine V_st (st2 := [.int (nI (cost p b (va_up g n x) n))]) (by rw [show (fc2_4 (((n + 1)) - 1)) = (cost p b (va_up g n x) n) from h70.2 n (Nat.lt_succ_self n)]) ?_
      subst hQ
      exact V_iret hC hr hlk rfl (by decide) (by decide) dX9_put_86 ((fh2_2, fb2_3, fc2_4)) [0, 1, 2, 3, 4, 5] rfl (by decide) (⟨rfl, h42⟩)
    · exact False.elim (by omega)
  · exact False.elim (by omega)
abbrev rm_X9_end_ended : Room := { frames := 0, cells := 0, slots := 0, locals := 0 }
set_option maxHeartbeats 4000000 in
set_option maxRecDepth 100000 in
theorem c_X9_end_ended (l : Launch) (D : va_G) (cI cQ : ClassId) (m9 al hs hL ct tt hv lo hi wt bt bL cs gv gL tk vv rd rM tx tL pl n e p b : Nat) (g : Nat → Nat) (he : e = 1) : MI l yX9_end cX9_end 1 (some .int) rm_X9_end_ended D (TY cI cQ) [.ref m9] [(m9, .inr (9, [.ref al, .ref hs, .int (nI hL), .ref ct, .int (nI tt), .int (nI hv), .int (nI lo), .int (nI hi), .int (nI wt), .ref bt, .int (nI bL), .ref cs, .ref gv, .int (nI gL), .int (nI tk), .int (nI vv), .ref rd, .int (nI rM), .ref tx, .int (nI tL), .int (nI pl)])), (al, .inl (cI, 44, .inl (fun j => nI ((allF g n e p b) j))))] (fun (r9 : Int32) (u : Unit) => r9 = (-2) ∧ (True)) (fun (u : Unit) => [(m9, .inr (9, [.ref al, .ref hs, .int (nI hL), .ref ct, .int (nI tt), .int (nI hv), .int (nI lo), .int (nI hi), .int (nI wt), .ref bt, .int (nI bL), .ref cs, .ref gv, .int (nI gL), .int (nI tk), .int (nI vv), .ref rd, .int (nI rM), .ref tx, .int (nI tL), .int (nI pl)])), (al, .inl (cI, 44, .inl (fun j => nI ((allF g n e p b) j))))]) 0 0 := by
  refine MI.start (by decide) (Nat.le_of_ble_eq_true rfl) (lv0 := [(0, .ref m9)]) rfl ?_
  intro pp9 ee9 ss9 mm9 args9 below9 meth9 co9 A9 Q9 hQ hC hr hlk hnm
  refine V_aload_n hC dX9_end_0 rfl 0 rfl ?_
  refine V_get (ci := 9) (v := .ref al) hC in_X9 0 rfl cls_X9 0 (by decide) fl_X9_7 rfl dX9_end_1 ?_
  refine V_iconst (v := nI 3) hC dX9_end_4 (by decide) ?_
  refine V_iald hC 1 0 rfl rfl (by omega) (by decide) dX9_end_5 ?_
  refine V_st (st2 := [.int (nI e)]) (by rw [show ((allF g n e p b) 3) = (e) from rfl]) ?_
  refine V_iconst (v := nI 1) hC dX9_end_6 (by decide) ?_
  refine V_icmp_ne (tgt := 13) hC (by omega) (by omega) dX9_end_7 (by decide) (fun c7 => ?_) (fun c7 => ?_)
  · exact False.elim (by omega)
  · refine V_bipush (v := -2) hC dX9_end_10 (by decide) ?_
    subst hQ
    exact V_iret hC hr hlk rfl (by decide) (by decide) dX9_end_12 (()) [0, 1] rfl (by decide) (⟨rfl, trivial⟩)
abbrev rm_X9_end_ok : Room := { frames := 7, cells := 0, slots := 0, locals := 152 }
set_option maxHeartbeats 4000000 in
set_option maxRecDepth 100000 in
theorem c_X9_end_ok (l : Launch) (D : va_G) (cI cQ : ClassId) (m9 al hs hL ct tt hv lo hi wt bt bL cs gv gL tk vv rd rM tx tL pl n e p b : Nat) (g f fh fb fc : Nat → Nat) (he : e = 0) (hn : n ≤ 40) (hg : ∀ j, j < n → g j < 8) (hb : b ≤ 2000) (hp : p ≤ 64) (hz : hL ≤ 4) : MI l yX9_end cX9_end 1 (some .int) rm_X9_end_ok D (TY cI cQ) [.ref m9] [(m9, .inr (9, [.ref al, .ref hs, .int (nI hL), .ref ct, .int (nI tt), .int (nI hv), .int (nI lo), .int (nI hi), .int (nI wt), .ref bt, .int (nI bL), .ref cs, .ref gv, .int (nI gL), .int (nI tk), .int (nI vv), .ref rd, .int (nI rM), .ref tx, .int (nI tL), .int (nI pl)])), (al, .inl (cI, 44, .inl (fun j => nI ((allF g n e p b) j)))), (hs, .inl (cI, 176, .inl (fun j => nI (fh j)))), (ct, .inl (cI, 9, .inl (fun j => nI (f j)))), (bt, .inl (cI, 1400, .inl (fun j => nI (fb j)))), (cs, .inl (cI, 40, .inl (fun j => nI (fc j))))] (fun (r9 : Int32) (u : (Nat → Nat) × (Nat → Nat) × (Nat → Nat)) => r9 = (nI ((sB (cM p b g n 1)).length)) ∧ (∀ k, k < hsz hL → ∀ j, j < 44 → HB u.1 k j = hup (HB fh) hL (allF g n 0 p b) k j)) (fun (u : (Nat → Nat) × (Nat → Nat) × (Nat → Nat)) => [(m9, .inr (9, [.ref al, .ref hs, .int (nI (hsz hL)), .ref ct, .int (nI (sT (cM p b g n 1))), .int (nI (sH (cM p b g n 1))), .int (nI (sL (cM p b g n 1))), .int (nI (sU (cM p b g n 1))), .int (nI (sW (cM p b g n 1))), .ref bt, .int (nI ((sB (cM p b g n 1)).length)), .ref cs, .ref gv, .int (nI gL), .int (nI tk), .int (nI vv), .ref rd, .int (nI rM), .ref tx, .int (nI tL), .int (nI pl)])), (al, .inl (cI, 44, .inl (fun j => nI ((allF g n 1 p b) j)))), (hs, .inl (cI, 176, .inl (fun j => nI (u.1 j)))), (ct, .inl (cI, 9, .inl (fun j => nI ((sF (cM p b g n 1)) j)))), (bt, .inl (cI, 1400, .inl (fun j => nI (u.2.1 j)))), (cs, .inl (cI, 40, .inl (fun j => nI (u.2.2 j))))]) 0 0 := by
  refine MI.start (by decide) (Nat.le_of_ble_eq_true rfl) (lv0 := [(0, .ref m9)]) rfl ?_
  intro pp9 ee9 ss9 mm9 args9 below9 meth9 co9 A9 Q9 hQ hC hr hlk hnm
  subst he
  refine V_aload_n hC dX9_end_0 rfl 0 rfl ?_
  refine V_get (ci := 9) (v := .ref al) hC in_X9 0 rfl cls_X9 0 (by decide) fl_X9_7 rfl dX9_end_1 ?_
  refine V_iconst (v := nI 3) hC dX9_end_4 (by decide) ?_
  refine V_iald hC 1 0 rfl rfl (by omega) (by decide) dX9_end_5 ?_
  refine V_st (st2 := [.int (nI 0)]) (by rw [show ((allF g n 0 p b) 3) = (0) from rfl]) ?_
  refine V_iconst (v := nI 1) hC dX9_end_6 (by decide) ?_
  refine V_icmp_ne_T (tgt := 13) hC dX9_end_7 (by decide) (fun z => absurd ((nI_eq (by omega) (by omega)).mp z) (show ¬ 0 = 1 by omega)) ?_
  refine V_aload_n hC dX9_end_13 rfl 0 rfl ?_
  refine V_callvV (As := []) (rest := []) (wr := [(ct, .inl (cI, 9, .inl (fun j => nI (f j)))), (bt, .inl (cI, 1400, .inl (fun j => nI (fb j)))), (cs, .inl (cI, 40, .inl (fun j => nI (fc j))))]) hC (c_X9_record l D cI cQ m9 al hs hL ct tt hv lo hi wt bt bL cs gv gL tk vv rd rM tx tL pl n 0 p b g fh (by omega)) mok_X9_record ml_X9_106 (q1 := 0) rfl cls_X9 rfl rfl rfl (by decide) (by decide) (by decide) (Nat.le_of_ble_eq_true rfl) [0, 1, 2] [3, 4, 5] rfl (by decide) rfl (by decide) (by decide) dX9_end_14 rfl (fun u9 h14 => ?_)
  obtain ⟨fh2_1, rfl⟩ : ∃ z, z = u9 := ⟨_, rfl⟩
  have h14 : ∀ k, k < hsz hL → ∀ j, j < 44 → HB fh2_1 k j = hup (HB fh) hL (allF g n 0 p b) k j := h14
  refine V_perm (ws2 := [(m9, .inr (9, [.ref al, .ref hs, .int (nI (hsz hL)), .ref ct, .int (nI tt), .int (nI hv), .int (nI lo), .int (nI hi), .int (nI wt), .ref bt, .int (nI bL), .ref cs, .ref gv, .int (nI gL), .int (nI tk), .int (nI vv), .ref rd, .int (nI rM), .ref tx, .int (nI tL), .int (nI pl)])), (al, .inl (cI, 44, .inl (fun j => nI ((allF g n 0 p b) j)))), (hs, .inl (cI, 176, .inl (fun j => nI (fh2_1 j)))), (ct, .inl (cI, 9, .inl (fun j => nI (f j)))), (bt, .inl (cI, 1400, .inl (fun j => nI (fb j)))), (cs, .inl (cI, 40, .inl (fun j => nI (fc j))))]) [3, 4, 5, 0, 1, 2] rfl (by decide) ?_
  refine V_aload_n hC dX9_end_17 rfl 0 rfl ?_
  refine V_get (ci := 9) (v := .ref al) hC in_X9 0 rfl cls_X9 0 (by decide) fl_X9_7 rfl dX9_end_18 ?_
  refine V_iconst (v := nI 3) hC dX9_end_21 (by decide) ?_
  refine V_iconst (v := nI 1) hC dX9_end_22 (by decide) ?_
  refine V_iast hC 1 0 rfl rfl (by omega) (by decide) dX9_end_23 (ws2 := [(m9, .inr (9, [.ref al, .ref hs, .int (nI (hsz hL)), .ref ct, .int (nI tt), .int (nI hv), .int (nI lo), .int (nI hi), .int (nI wt), .ref bt, .int (nI bL), .ref cs, .ref gv, .int (nI gL), .int (nI tk), .int (nI vv), .ref rd, .int (nI rM), .ref tx, .int (nI tL), .int (nI pl)])), (al, .inl (cI, 44, .inl (fun j => nI ((va_up (allF g n 0 p b) 3 1) j)))), (hs, .inl (cI, 176, .inl (fun j => nI (fh2_1 j)))), (ct, .inl (cI, 9, .inl (fun j => nI (f j)))), (bt, .inl (cI, 1400, .inl (fun j => nI (fb j)))), (cs, .inl (cI, 40, .inl (fun j => nI (fc j))))]) rfl ?_
  refine V_ws (ws2 := [(m9, .inr (9, [.ref al, .ref hs, .int (nI (hsz hL)), .ref ct, .int (nI tt), .int (nI hv), .int (nI lo), .int (nI hi), .int (nI wt), .ref bt, .int (nI bL), .ref cs, .ref gv, .int (nI gL), .int (nI tk), .int (nI vv), .ref rd, .int (nI rM), .ref tx, .int (nI tL), .int (nI pl)])), (al, .inl (cI, 44, .inl (fun j => nI ((allF g n 1 p b) j)))), (hs, .inl (cI, 176, .inl (fun j => nI (fh2_1 j)))), (ct, .inl (cI, 9, .inl (fun j => nI (f j)))), (bt, .inl (cI, 1400, .inl (fun j => nI (fb j)))), (cs, .inl (cI, 40, .inl (fun j => nI (fc j))))]) (by rw [show va_up (allF g n 0 p b) 3 1 = allF g n 1 p b from allF_up3 _ _ _ _ _ _]) ?_
  refine V_aload_n hC dX9_end_24 rfl 0 rfl ?_
  refine V_calliV (As := []) (rest := []) (wr := [(hs, .inl (cI, 176, .inl (fun j => nI (fh2_1 j))))]) hC (c_X9_bitsNow l D cI cQ m9 al hs (hsz hL) ct tt hv lo hi wt bt bL cs gv gL tk vv rd rM tx tL pl n 1 p b g f fb fc (by omega) (hg) (by omega) (by omega) (by omega)) mok_X9_bitsNow ml_X9_109 (q1 := 0) rfl cls_X9 rfl rfl rfl (by decide) (by decide) (by decide) (Nat.le_of_ble_eq_true rfl) [0, 1, 3, 4, 5] [2] rfl (by decide) rfl (by decide) (by decide) dX9_end_25 rfl (fun r9 u9 h25 => ?_)
  obtain ⟨fb2_2, fc2_3⟩ := u9
  obtain ⟨rfl, h25⟩ := h25
  have h25 : rep fb2_2 (sB (cM p b g n 1)) ∧ ∀ j, j < n → fc2_3 j = cost p b g j := h25
  refine V_perm (ws2 := [(m9, .inr (9, [.ref al, .ref hs, .int (nI ((hsz hL))), .ref ct, .int (nI (sT (cM p b g n 1))), .int (nI (sH (cM p b g n 1))), .int (nI (sL (cM p b g n 1))), .int (nI (sU (cM p b g n 1))), .int (nI (sW (cM p b g n 1))), .ref bt, .int (nI ((sB (cM p b g n 1)).length)), .ref cs, .ref gv, .int (nI gL), .int (nI tk), .int (nI vv), .ref rd, .int (nI rM), .ref tx, .int (nI tL), .int (nI pl)])), (al, .inl (cI, 44, .inl (fun j => nI ((allF g n 1 p b) j)))), (hs, .inl (cI, 176, .inl (fun j => nI (fh2_1 j)))), (ct, .inl (cI, 9, .inl (fun j => nI ((sF (cM p b g n 1)) j)))), (bt, .inl (cI, 1400, .inl (fun j => nI (fb2_2 j)))), (cs, .inl (cI, 40, .inl (fun j => nI (fc2_3 j))))]) [1, 2, 0, 3, 4, 5] rfl (by decide) ?_
  subst hQ
  exact V_iret hC hr hlk rfl (by decide) (by decide) dX9_end_28 ((fh2_1, fb2_2, fc2_3)) [0, 1, 2, 3, 4, 5] rfl (by decide) (⟨rfl, h14⟩)
abbrev rm_X9_begin : Room := { frames := 1, cells := 0, slots := 0, locals := 21 }
set_option maxHeartbeats 4000000 in
set_option maxRecDepth 100000 in
theorem c_X9_begin (l : Launch) (D : va_G) (cI cQ : ClassId) (m9 al hs hL ct tt hv lo hi wt bt bL cs gv gL tk vv rd rM tx tL pl n e p b : Nat) (g fh : Nat → Nat) (hz : hL ≤ 4) : MI l yX9_begin cX9_begin 1 (some .int) rm_X9_begin D (TY cI cQ) [.ref m9] [(m9, .inr (9, [.ref al, .ref hs, .int (nI hL), .ref ct, .int (nI tt), .int (nI hv), .int (nI lo), .int (nI hi), .int (nI wt), .ref bt, .int (nI bL), .ref cs, .ref gv, .int (nI gL), .int (nI tk), .int (nI vv), .ref rd, .int (nI rM), .ref tx, .int (nI tL), .int (nI pl)])), (al, .inl (cI, 44, .inl (fun j => nI ((allF g n e p b) j)))), (hs, .inl (cI, 176, .inl (fun j => nI (fh j))))] (fun (r9 : Int32) (u : (Nat → Nat)) => r9 = (nI n) ∧ (∀ k, k < hsz hL → ∀ j, j < 44 → HB u k j = hup (HB fh) hL (allF g n e p b) k j)) (fun (u : (Nat → Nat)) => [(m9, .inr (9, [.ref al, .ref hs, .int (nI (hsz hL)), .ref ct, .int (nI tt), .int (nI hv), .int (nI lo), .int (nI hi), .int (nI wt), .ref bt, .int (nI bL), .ref cs, .ref gv, .int (nI gL), .int (nI tk), .int (nI vv), .ref rd, .int (nI rM), .ref tx, .int (nI tL), .int (nI pl)])), (al, .inl (cI, 44, .inl (fun j => nI ((allF g 0 0 p b) j)))), (hs, .inl (cI, 176, .inl (fun j => nI (u j))))]) 0 0 := by
  refine MI.start (by decide) (Nat.le_of_ble_eq_true rfl) (lv0 := [(0, .ref m9)]) rfl ?_
  intro pp9 ee9 ss9 mm9 args9 below9 meth9 co9 A9 Q9 hQ hC hr hlk hnm
  refine V_aload_n hC dX9_begin_0 rfl 0 rfl ?_
  refine V_callvV (As := []) (rest := []) (wr := []) hC (c_X9_record l D cI cQ m9 al hs hL ct tt hv lo hi wt bt bL cs gv gL tk vv rd rM tx tL pl n e p b g fh (by omega)) mok_X9_record ml_X9_106 (q1 := 0) rfl cls_X9 rfl rfl rfl (by decide) (by decide) (by decide) (Nat.le_of_ble_eq_true rfl) [0, 1, 2] [] rfl (by decide) rfl (by decide) (by decide) dX9_begin_1 rfl (fun u9 h1 => ?_)
  obtain ⟨fh2_1, rfl⟩ : ∃ z, z = u9 := ⟨_, rfl⟩
  have h1 : ∀ k, k < hsz hL → ∀ j, j < 44 → HB fh2_1 k j = hup (HB fh) hL (allF g n e p b) k j := h1
  refine V_perm (ws2 := [(m9, .inr (9, [.ref al, .ref hs, .int (nI (hsz hL)), .ref ct, .int (nI tt), .int (nI hv), .int (nI lo), .int (nI hi), .int (nI wt), .ref bt, .int (nI bL), .ref cs, .ref gv, .int (nI gL), .int (nI tk), .int (nI vv), .ref rd, .int (nI rM), .ref tx, .int (nI tL), .int (nI pl)])), (al, .inl (cI, 44, .inl (fun j => nI ((allF g n e p b) j)))), (hs, .inl (cI, 176, .inl (fun j => nI (fh2_1 j))))]) [0, 1, 2] rfl (by decide) ?_
  refine V_aload_n hC dX9_begin_4 rfl 0 rfl ?_
  refine V_calliV (As := []) (rest := []) (wr := [(hs, .inl (cI, 176, .inl (fun j => nI (fh2_1 j))))]) hC (c_X9_begins l D cI cQ m9 al hs (hsz hL) ct tt hv lo hi wt bt bL cs gv gL tk vv rd rM tx tL pl n e p b g ) mok_X9_begins ml_X9_112 (q1 := 0) rfl cls_X9 rfl rfl rfl (by decide) (by decide) (by decide) (Nat.le_of_ble_eq_true rfl) [0, 1] [2] rfl (by decide) rfl (by decide) (by decide) dX9_begin_5 rfl (fun r9 u9 h5 => ?_)
  obtain ⟨rfl, h5⟩ := h5
  clear h5
  refine V_perm (ws2 := [(m9, .inr (9, [.ref al, .ref hs, .int (nI ((hsz hL))), .ref ct, .int (nI tt), .int (nI hv), .int (nI lo), .int (nI hi), .int (nI wt), .ref bt, .int (nI bL), .ref cs, .ref gv, .int (nI gL), .int (nI tk), .int (nI vv), .ref rd, .int (nI rM), .ref tx, .int (nI tL), .int (nI pl)])), (al, .inl (cI, 44, .inl (fun j => nI ((allF g 0 0 p b) j)))), (hs, .inl (cI, 176, .inl (fun j => nI (fh2_1 j))))]) [1, 2, 0] rfl (by decide) ?_
  subst hQ
  exact V_iret hC hr hlk rfl (by decide) (by decide) dX9_begin_8 (fh2_1) [0, 1, 2] rfl (by decide) (⟨rfl, h1⟩)
abbrev rm_X9_drop_neg : Room := { frames := 1, cells := 0, slots := 0, locals := 25 }
set_option maxHeartbeats 4000000 in
set_option maxRecDepth 100000 in
theorem c_X9_drop_neg (l : Launch) (D : va_G) (cI cQ : ClassId) (m9 al hs hL ct tt hv lo hi wt bt bL cs gv gL tk vv rd rM tx tL pl : Nat) (x : Int32) (hx : x.toInt < 0) : MI l yX9_drop cX9_drop 2 (some .int) rm_X9_drop_neg D (TY cI cQ) [.ref m9, .int (x)] [(m9, .inr (9, [.ref al, .ref hs, .int (nI hL), .ref ct, .int (nI tt), .int (nI hv), .int (nI lo), .int (nI hi), .int (nI wt), .ref bt, .int (nI bL), .ref cs, .ref gv, .int (nI gL), .int (nI tk), .int (nI vv), .ref rd, .int (nI rM), .ref tx, .int (nI tL), .int (nI pl)]))] (fun (r9 : Int32) (u : Unit) => r9 = (-1) ∧ (True)) (fun (u : Unit) => [(m9, .inr (9, [.ref al, .ref hs, .int (nI hL), .ref ct, .int (nI tt), .int (nI hv), .int (nI lo), .int (nI hi), .int (nI wt), .ref bt, .int (nI bL), .ref cs, .ref gv, .int (nI gL), .int (nI tk), .int (nI vv), .ref rd, .int (nI rM), .ref tx, .int (nI tL), .int (nI pl)]))]) 0 0 := by
  refine MI.start (by decide) (Nat.le_of_ble_eq_true rfl) (lv0 := [(0, .ref m9), (1, .int (x))]) rfl ?_
  intro pp9 ee9 ss9 mm9 args9 below9 meth9 co9 A9 Q9 hQ hC hr hlk hnm
  refine V_iload_n hC dX9_drop_0 rfl 1 rfl ?_
  refine V_i2l (v := (x).toInt64) hC dX9_drop_1 rfl ?_
  refine V_lconst (v := lN 1) hC dX9_drop_2 rfl ?_
  refine V_ldc2 (v2 := lN 40) hC dX9_drop_3 cstl_X9_115 rfl ?_
  refine V_calliS (As := [.long ((x).toInt64), .long (lN 1), .long (lN 40)]) (rest := []) (wr := [(m9, .inr (9, [.ref al, .ref hs, .int (nI hL), .ref ct, .int (nI tt), .int (nI hv), .int (nI lo), .int (nI hi), .int (nI wt), .ref bt, .int (nI bL), .ref cs, .ref gv, .int (nI gL), .int (nI tk), .int (nI vv), .ref rd, .int (nI rM), .ref tx, .int (nI tL), .int (nI pl)]))]) hC (c_X9_in_neg l D cI cQ x 1 40 (hx) (by omega)) mok_X9_in ml_X9_102 rfl rfl rfl (by decide) (by decide) (by decide) (Nat.le_of_ble_eq_true rfl) [] [0] rfl (by decide) rfl (by decide) (by decide) dX9_drop_6 rfl (fun r9 u9 h6 => ?_)
  obtain ⟨rfl, h6⟩ := h6
  clear h6
  refine V_perm (ws2 := [(m9, .inr (9, [.ref al, .ref hs, .int (nI hL), .ref ct, .int (nI tt), .int (nI hv), .int (nI lo), .int (nI hi), .int (nI wt), .ref bt, .int (nI bL), .ref cs, .ref gv, .int (nI gL), .int (nI tk), .int (nI vv), .ref rd, .int (nI rM), .ref tx, .int (nI tL), .int (nI pl)]))]) [0] rfl (by decide) ?_
  refine V_if_ne_F (tgt := 14) hC dX9_drop_9 (by decide) ((congrArg nI (show 0 = 0 by omega)).trans nI_0) ?_
  refine V_iconst (v := -1) hC dX9_drop_12 (by decide) ?_
  subst hQ
  exact V_iret hC hr hlk rfl (by decide) (by decide) dX9_drop_13 (()) [0] rfl (by decide) (⟨rfl, trivial⟩)
abbrev rm_X9_drop_bad : Room := { frames := 1, cells := 0, slots := 0, locals := 25 }
set_option maxHeartbeats 4000000 in
set_option maxRecDepth 100000 in
theorem c_X9_drop_bad (l : Launch) (D : va_G) (cI cQ : ClassId) (m9 al hs hL ct tt hv lo hi wt bt bL cs gv gL tk vv rd rM tx tL pl x : Nat) (hx : (x < 1 ∨ 40 < x) ∧ x < 2147483648) : MI l yX9_drop cX9_drop 2 (some .int) rm_X9_drop_bad D (TY cI cQ) [.ref m9, .int (nI x)] [(m9, .inr (9, [.ref al, .ref hs, .int (nI hL), .ref ct, .int (nI tt), .int (nI hv), .int (nI lo), .int (nI hi), .int (nI wt), .ref bt, .int (nI bL), .ref cs, .ref gv, .int (nI gL), .int (nI tk), .int (nI vv), .ref rd, .int (nI rM), .ref tx, .int (nI tL), .int (nI pl)]))] (fun (r9 : Int32) (u : Unit) => r9 = (-1) ∧ (True)) (fun (u : Unit) => [(m9, .inr (9, [.ref al, .ref hs, .int (nI hL), .ref ct, .int (nI tt), .int (nI hv), .int (nI lo), .int (nI hi), .int (nI wt), .ref bt, .int (nI bL), .ref cs, .ref gv, .int (nI gL), .int (nI tk), .int (nI vv), .ref rd, .int (nI rM), .ref tx, .int (nI tL), .int (nI pl)]))]) 0 0 := by
  refine MI.start (by decide) (Nat.le_of_ble_eq_true rfl) (lv0 := [(0, .ref m9), (1, .int (nI x))]) rfl ?_
  intro pp9 ee9 ss9 mm9 args9 below9 meth9 co9 A9 Q9 hQ hC hr hlk hnm
  refine V_iload_n hC dX9_drop_0 rfl 1 rfl ?_
  refine V_i2l (v := lN x) hC dX9_drop_1 (nI_l (by omega)) ?_
  refine V_lconst (v := lN 1) hC dX9_drop_2 rfl ?_
  refine V_ldc2 (v2 := lN 40) hC dX9_drop_3 cstl_X9_115 rfl ?_
  refine V_calliS (As := [.long (lN x), .long (lN 1), .long (lN 40)]) (rest := []) (wr := [(m9, .inr (9, [.ref al, .ref hs, .int (nI hL), .ref ct, .int (nI tt), .int (nI hv), .int (nI lo), .int (nI hi), .int (nI wt), .ref bt, .int (nI bL), .ref cs, .ref gv, .int (nI gL), .int (nI tk), .int (nI vv), .ref rd, .int (nI rM), .ref tx, .int (nI tL), .int (nI pl)]))]) hC (c_X9_in l D cI cQ x 1 40 (by omega) (by omega) (by omega)) mok_X9_in ml_X9_102 rfl rfl rfl (by decide) (by decide) (by decide) (Nat.le_of_ble_eq_true rfl) [] [0] rfl (by decide) rfl (by decide) (by decide) dX9_drop_6 rfl (fun r9 u9 h6 => ?_)
  obtain ⟨u_1, rfl⟩ : ∃ z, z = u9 := ⟨_, rfl⟩
  obtain ⟨rfl, h6⟩ := h6
  have h6 : (u_1 = 1 ∧ 1 ≤ x ∧ x ≤ 40) ∨ (u_1 = 0 ∧ (x < 1 ∨ 40 < x)) := h6
  refine V_perm (ws2 := [(m9, .inr (9, [.ref al, .ref hs, .int (nI hL), .ref ct, .int (nI tt), .int (nI hv), .int (nI lo), .int (nI hi), .int (nI wt), .ref bt, .int (nI bL), .ref cs, .ref gv, .int (nI gL), .int (nI tk), .int (nI vv), .ref rd, .int (nI rM), .ref tx, .int (nI tL), .int (nI pl)]))]) [0] rfl (by decide) ?_
  refine V_if_ne (tgt := 14) hC (by omega) dX9_drop_9 (by decide) (fun c9 => ?_) (fun c9 => ?_)
  · exact False.elim (by omega)
  · refine V_iconst (v := -1) hC dX9_drop_12 (by decide) ?_
    subst hQ
    exact V_iret hC hr hlk rfl (by decide) (by decide) dX9_drop_13 (()) [0] rfl (by decide) (⟨rfl, trivial⟩)
abbrev rm_X9_drop_not : Room := { frames := 1, cells := 0, slots := 0, locals := 25 }
set_option maxHeartbeats 4000000 in
set_option maxRecDepth 100000 in
theorem c_X9_drop_not (l : Launch) (D : va_G) (cI cQ : ClassId) (m9 al hs hL ct tt hv lo hi wt bt bL cs gv gL tk vv rd rM tx tL pl n e p b x : Nat) (g : Nat → Nat) (hx : 1 ≤ x ∧ x ≤ 40) (hn : n < x) : MI l yX9_drop cX9_drop 2 (some .int) rm_X9_drop_not D (TY cI cQ) [.ref m9, .int (nI x)] [(m9, .inr (9, [.ref al, .ref hs, .int (nI hL), .ref ct, .int (nI tt), .int (nI hv), .int (nI lo), .int (nI hi), .int (nI wt), .ref bt, .int (nI bL), .ref cs, .ref gv, .int (nI gL), .int (nI tk), .int (nI vv), .ref rd, .int (nI rM), .ref tx, .int (nI tL), .int (nI pl)])), (al, .inl (cI, 44, .inl (fun j => nI ((allF g n e p b) j))))] (fun (r9 : Int32) (u : Unit) => r9 = (-2) ∧ (True)) (fun (u : Unit) => [(m9, .inr (9, [.ref al, .ref hs, .int (nI hL), .ref ct, .int (nI tt), .int (nI hv), .int (nI lo), .int (nI hi), .int (nI wt), .ref bt, .int (nI bL), .ref cs, .ref gv, .int (nI gL), .int (nI tk), .int (nI vv), .ref rd, .int (nI rM), .ref tx, .int (nI tL), .int (nI pl)])), (al, .inl (cI, 44, .inl (fun j => nI ((allF g n e p b) j))))]) 0 0 := by
  refine MI.start (by decide) (Nat.le_of_ble_eq_true rfl) (lv0 := [(0, .ref m9), (1, .int (nI x))]) rfl ?_
  intro pp9 ee9 ss9 mm9 args9 below9 meth9 co9 A9 Q9 hQ hC hr hlk hnm
  refine V_iload_n hC dX9_drop_0 rfl 1 rfl ?_
  refine V_i2l (v := lN x) hC dX9_drop_1 (nI_l (by omega)) ?_
  refine V_lconst (v := lN 1) hC dX9_drop_2 rfl ?_
  refine V_ldc2 (v2 := lN 40) hC dX9_drop_3 cstl_X9_115 rfl ?_
  refine V_calliS (As := [.long (lN x), .long (lN 1), .long (lN 40)]) (rest := []) (wr := [(m9, .inr (9, [.ref al, .ref hs, .int (nI hL), .ref ct, .int (nI tt), .int (nI hv), .int (nI lo), .int (nI hi), .int (nI wt), .ref bt, .int (nI bL), .ref cs, .ref gv, .int (nI gL), .int (nI tk), .int (nI vv), .ref rd, .int (nI rM), .ref tx, .int (nI tL), .int (nI pl)])), (al, .inl (cI, 44, .inl (fun j => nI ((allF g n e p b) j))))]) hC (c_X9_in l D cI cQ x 1 40 (by omega) (by omega) (by omega)) mok_X9_in ml_X9_102 rfl rfl rfl (by decide) (by decide) (by decide) (Nat.le_of_ble_eq_true rfl) [] [0, 1] rfl (by decide) rfl (by decide) (by decide) dX9_drop_6 rfl (fun r9 u9 h6 => ?_)
  obtain ⟨u_1, rfl⟩ : ∃ z, z = u9 := ⟨_, rfl⟩
  obtain ⟨rfl, h6⟩ := h6
  have h6 : (u_1 = 1 ∧ 1 ≤ x ∧ x ≤ 40) ∨ (u_1 = 0 ∧ (x < 1 ∨ 40 < x)) := h6
  refine V_perm (ws2 := [(m9, .inr (9, [.ref al, .ref hs, .int (nI hL), .ref ct, .int (nI tt), .int (nI hv), .int (nI lo), .int (nI hi), .int (nI wt), .ref bt, .int (nI bL), .ref cs, .ref gv, .int (nI gL), .int (nI tk), .int (nI vv), .ref rd, .int (nI rM), .ref tx, .int (nI tL), .int (nI pl)])), (al, .inl (cI, 44, .inl (fun j => nI ((allF g n e p b) j))))]) [0, 1] rfl (by decide) ?_
  refine V_if_ne (tgt := 14) hC (by omega) dX9_drop_9 (by decide) (fun c9 => ?_) (fun c9 => ?_)
  · refine V_iload_n hC dX9_drop_14 rfl 1 rfl ?_
    refine V_aload_n hC dX9_drop_15 rfl 0 rfl ?_
    refine V_get (ci := 9) (v := .ref al) hC in_X9 0 rfl cls_X9 0 (by decide) fl_X9_7 rfl dX9_drop_16 ?_
    refine V_iconst (v := nI 2) hC dX9_drop_19 (by decide) ?_
    refine V_iald hC 1 0 rfl rfl (by omega) (by decide) dX9_drop_20 ?_
    refine V_st (st2 := [.int (nI n), .int (nI x)]) (by rw [show ((allF g n e p b) 2) = (n) from rfl]) ?_
    refine V_icmp_le (tgt := 27) hC (by omega) (by omega) dX9_drop_21 (by decide) (fun c21 => ?_) (fun c21 => ?_)
    · exact False.elim (by omega)
    · refine V_bipush (v := -2) hC dX9_drop_24 (by decide) ?_
      subst hQ
      exact V_iret hC hr hlk rfl (by decide) (by decide) dX9_drop_26 (()) [0, 1] rfl (by decide) (⟨rfl, trivial⟩)
  · exact False.elim (by omega)
abbrev rm_X9_drop_ok : Room := { frames := 7, cells := 0, slots := 0, locals := 152 }
set_option maxHeartbeats 4000000 in
set_option maxRecDepth 100000 in
theorem c_X9_drop_ok (l : Launch) (D : va_G) (cI cQ : ClassId) (m9 al hs hL ct tt hv lo hi wt bt bL cs gv gL tk vv rd rM tx tL pl n e p b x : Nat) (g f fh fb fc : Nat → Nat) (hx : 1 ≤ x ∧ x ≤ n) (hn : n ≤ 40) (hg : ∀ j, j < n → g j < 8) (he : e < 2) (hp : p ≤ 64) (hb : b ≤ 2000) (hz : hL ≤ 4) : MI l yX9_drop cX9_drop 2 (some .int) rm_X9_drop_ok D (TY cI cQ) [.ref m9, .int (nI x)] [(m9, .inr (9, [.ref al, .ref hs, .int (nI hL), .ref ct, .int (nI tt), .int (nI hv), .int (nI lo), .int (nI hi), .int (nI wt), .ref bt, .int (nI bL), .ref cs, .ref gv, .int (nI gL), .int (nI tk), .int (nI vv), .ref rd, .int (nI rM), .ref tx, .int (nI tL), .int (nI pl)])), (al, .inl (cI, 44, .inl (fun j => nI ((allF g n e p b) j)))), (hs, .inl (cI, 176, .inl (fun j => nI (fh j)))), (ct, .inl (cI, 9, .inl (fun j => nI (f j)))), (bt, .inl (cI, 1400, .inl (fun j => nI (fb j)))), (cs, .inl (cI, 40, .inl (fun j => nI (fc j))))] (fun (r9 : Int32) (u : (Nat → Nat) × (Nat → Nat) × (Nat → Nat)) => r9 = (nI ((sB (cM p b g (n - x) 0)).length)) ∧ (∀ k, k < hsz hL → ∀ j, j < 44 → HB u.1 k j = hup (HB fh) hL (allF g n e p b) k j)) (fun (u : (Nat → Nat) × (Nat → Nat) × (Nat → Nat)) => [(m9, .inr (9, [.ref al, .ref hs, .int (nI (hsz hL)), .ref ct, .int (nI (sT (cM p b g (n - x) 0))), .int (nI (sH (cM p b g (n - x) 0))), .int (nI (sL (cM p b g (n - x) 0))), .int (nI (sU (cM p b g (n - x) 0))), .int (nI (sW (cM p b g (n - x) 0))), .ref bt, .int (nI ((sB (cM p b g (n - x) 0)).length)), .ref cs, .ref gv, .int (nI gL), .int (nI tk), .int (nI vv), .ref rd, .int (nI rM), .ref tx, .int (nI tL), .int (nI pl)])), (al, .inl (cI, 44, .inl (fun j => nI ((allF g (n - x) 0 p b) j)))), (hs, .inl (cI, 176, .inl (fun j => nI (u.1 j)))), (ct, .inl (cI, 9, .inl (fun j => nI ((sF (cM p b g (n - x) 0)) j)))), (bt, .inl (cI, 1400, .inl (fun j => nI (u.2.1 j)))), (cs, .inl (cI, 40, .inl (fun j => nI (u.2.2 j))))]) 0 0 := by
  refine MI.start (by decide) (Nat.le_of_ble_eq_true rfl) (lv0 := [(0, .ref m9), (1, .int (nI x))]) rfl ?_
  intro pp9 ee9 ss9 mm9 args9 below9 meth9 co9 A9 Q9 hQ hC hr hlk hnm
  refine V_iload_n hC dX9_drop_0 rfl 1 rfl ?_
  refine V_i2l (v := lN x) hC dX9_drop_1 (nI_l (by omega)) ?_
  refine V_lconst (v := lN 1) hC dX9_drop_2 rfl ?_
  refine V_ldc2 (v2 := lN 40) hC dX9_drop_3 cstl_X9_115 rfl ?_
  refine V_calliS (As := [.long (lN x), .long (lN 1), .long (lN 40)]) (rest := []) (wr := [(m9, .inr (9, [.ref al, .ref hs, .int (nI hL), .ref ct, .int (nI tt), .int (nI hv), .int (nI lo), .int (nI hi), .int (nI wt), .ref bt, .int (nI bL), .ref cs, .ref gv, .int (nI gL), .int (nI tk), .int (nI vv), .ref rd, .int (nI rM), .ref tx, .int (nI tL), .int (nI pl)])), (al, .inl (cI, 44, .inl (fun j => nI ((allF g n e p b) j)))), (hs, .inl (cI, 176, .inl (fun j => nI (fh j)))), (ct, .inl (cI, 9, .inl (fun j => nI (f j)))), (bt, .inl (cI, 1400, .inl (fun j => nI (fb j)))), (cs, .inl (cI, 40, .inl (fun j => nI (fc j))))]) hC (c_X9_in l D cI cQ x 1 40 (by omega) (by omega) (by omega)) mok_X9_in ml_X9_102 rfl rfl rfl (by decide) (by decide) (by decide) (Nat.le_of_ble_eq_true rfl) [] [0, 1, 2, 3, 4, 5] rfl (by decide) rfl (by decide) (by decide) dX9_drop_6 rfl (fun r9 u9 h6 => ?_)
  obtain ⟨u_1, rfl⟩ : ∃ z, z = u9 := ⟨_, rfl⟩
  obtain ⟨rfl, h6⟩ := h6
  have h6 : (u_1 = 1 ∧ 1 ≤ x ∧ x ≤ 40) ∨ (u_1 = 0 ∧ (x < 1 ∨ 40 < x)) := h6
  refine V_perm (ws2 := [(m9, .inr (9, [.ref al, .ref hs, .int (nI hL), .ref ct, .int (nI tt), .int (nI hv), .int (nI lo), .int (nI hi), .int (nI wt), .ref bt, .int (nI bL), .ref cs, .ref gv, .int (nI gL), .int (nI tk), .int (nI vv), .ref rd, .int (nI rM), .ref tx, .int (nI tL), .int (nI pl)])), (al, .inl (cI, 44, .inl (fun j => nI ((allF g n e p b) j)))), (hs, .inl (cI, 176, .inl (fun j => nI (fh j)))), (ct, .inl (cI, 9, .inl (fun j => nI (f j)))), (bt, .inl (cI, 1400, .inl (fun j => nI (fb j)))), (cs, .inl (cI, 40, .inl (fun j => nI (fc j))))]) [0, 1, 2, 3, 4, 5] rfl (by decide) ?_
  refine V_if_ne (tgt := 14) hC (by omega) dX9_drop_9 (by decide) (fun c9 => ?_) (fun c9 => ?_)
  · refine V_iload_n hC dX9_drop_14 rfl 1 rfl ?_
    refine V_aload_n hC dX9_drop_15 rfl 0 rfl ?_
    refine V_get (ci := 9) (v := .ref al) hC in_X9 0 rfl cls_X9 0 (by decide) fl_X9_7 rfl dX9_drop_16 ?_
    refine V_iconst (v := nI 2) hC dX9_drop_19 (by decide) ?_
    refine V_iald hC 1 0 rfl rfl (by omega) (by decide) dX9_drop_20 ?_
    refine V_st (st2 := [.int (nI n), .int (nI x)]) (by rw [show ((allF g n e p b) 2) = (n) from rfl]) ?_
    refine V_icmp_le (tgt := 27) hC (by omega) (by omega) dX9_drop_21 (by decide) (fun c21 => ?_) (fun c21 => ?_)
    · refine V_aload_n hC dX9_drop_27 rfl 0 rfl ?_
      refine V_callvV (As := []) (rest := []) (wr := [(ct, .inl (cI, 9, .inl (fun j => nI (f j)))), (bt, .inl (cI, 1400, .inl (fun j => nI (fb j)))), (cs, .inl (cI, 40, .inl (fun j => nI (fc j))))]) hC (c_X9_record l D cI cQ m9 al hs hL ct tt hv lo hi wt bt bL cs gv gL tk vv rd rM tx tL pl n e p b g fh (by omega)) mok_X9_record ml_X9_106 (q1 := 0) rfl cls_X9 rfl rfl rfl (by decide) (by decide) (by decide) (Nat.le_of_ble_eq_true rfl) [0, 1, 2] [3, 4, 5] rfl (by decide) rfl (by decide) (by decide) dX9_drop_28 rfl (fun u9 h28 => ?_)
      obtain ⟨fh2_2, rfl⟩ : ∃ z, z = u9 := ⟨_, rfl⟩
      have h28 : ∀ k, k < hsz hL → ∀ j, j < 44 → HB fh2_2 k j = hup (HB fh) hL (allF g n e p b) k j := h28
      refine V_perm (ws2 := [(m9, .inr (9, [.ref al, .ref hs, .int (nI (hsz hL)), .ref ct, .int (nI tt), .int (nI hv), .int (nI lo), .int (nI hi), .int (nI wt), .ref bt, .int (nI bL), .ref cs, .ref gv, .int (nI gL), .int (nI tk), .int (nI vv), .ref rd, .int (nI rM), .ref tx, .int (nI tL), .int (nI pl)])), (al, .inl (cI, 44, .inl (fun j => nI ((allF g n e p b) j)))), (hs, .inl (cI, 176, .inl (fun j => nI (fh2_2 j)))), (ct, .inl (cI, 9, .inl (fun j => nI (f j)))), (bt, .inl (cI, 1400, .inl (fun j => nI (fb j)))), (cs, .inl (cI, 40, .inl (fun j => nI (fc j))))]) [3, 4, 5, 0, 1, 2] rfl (by decide) ?_
      refine V_aload_n hC dX9_drop_31 rfl 0 rfl ?_
      refine V_get (ci := 9) (v := .ref al) hC in_X9 0 rfl cls_X9 0 (by decide) fl_X9_7 rfl dX9_drop_32 ?_
      refine V_iconst (v := nI 2) hC dX9_drop_35 (by decide) ?_
      refine V_dup2 hC dX9_drop_36 rfl rfl ?_
      refine V_iald hC 1 0 rfl rfl (by omega) (by decide) dX9_drop_37 ?_
      refine V_st (st2 := [.int (nI n), .int (nI 2), .ref al]) (by rw [show ((allF g n e p b) 2) = (n) from rfl]) ?_
      refine V_iload_n hC dX9_drop_38 rfl 1 rfl ?_
      refine V_isub hC dX9_drop_39 (by omega) ?_
      refine V_iast hC 1 0 rfl rfl (by omega) (by decide) dX9_drop_40 (ws2 := [(m9, .inr (9, [.ref al, .ref hs, .int (nI (hsz hL)), .ref ct, .int (nI tt), .int (nI hv), .int (nI lo), .int (nI hi), .int (nI wt), .ref bt, .int (nI bL), .ref cs, .ref gv, .int (nI gL), .int (nI tk), .int (nI vv), .ref rd, .int (nI rM), .ref tx, .int (nI tL), .int (nI pl)])), (al, .inl (cI, 44, .inl (fun j => nI ((va_up (allF g n e p b) 2 (n - x)) j)))), (hs, .inl (cI, 176, .inl (fun j => nI (fh2_2 j)))), (ct, .inl (cI, 9, .inl (fun j => nI (f j)))), (bt, .inl (cI, 1400, .inl (fun j => nI (fb j)))), (cs, .inl (cI, 40, .inl (fun j => nI (fc j))))]) rfl ?_
      refine V_ws (ws2 := [(m9, .inr (9, [.ref al, .ref hs, .int (nI (hsz hL)), .ref ct, .int (nI tt), .int (nI hv), .int (nI lo), .int (nI hi), .int (nI wt), .ref bt, .int (nI bL), .ref cs, .ref gv, .int (nI gL), .int (nI tk), .int (nI vv), .ref rd, .int (nI rM), .ref tx, .int (nI tL), .int (nI pl)])), (al, .inl (cI, 44, .inl (fun j => nI ((allF g (n - x) e p b) j)))), (hs, .inl (cI, 176, .inl (fun j => nI (fh2_2 j)))), (ct, .inl (cI, 9, .inl (fun j => nI (f j)))), (bt, .inl (cI, 1400, .inl (fun j => nI (fb j)))), (cs, .inl (cI, 40, .inl (fun j => nI (fc j))))]) (by rw [show va_up (allF g n e p b) 2 (n - x) = allF g (n - x) e p b from allF_up2 _ _ _ _ _ _]) ?_
      refine V_aload_n hC dX9_drop_41 rfl 0 rfl ?_
      refine V_get (ci := 9) (v := .ref al) hC in_X9 0 rfl cls_X9 0 (by decide) fl_X9_7 rfl dX9_drop_42 ?_
      refine V_iconst (v := nI 3) hC dX9_drop_45 (by decide) ?_
      refine V_iconst (v := nI 0) hC dX9_drop_46 (by decide) ?_
      refine V_iast hC 1 0 rfl rfl (by omega) (by decide) dX9_drop_47 (ws2 := [(m9, .inr (9, [.ref al, .ref hs, .int (nI (hsz hL)), .ref ct, .int (nI tt), .int (nI hv), .int (nI lo), .int (nI hi), .int (nI wt), .ref bt, .int (nI bL), .ref cs, .ref gv, .int (nI gL), .int (nI tk), .int (nI vv), .ref rd, .int (nI rM), .ref tx, .int (nI tL), .int (nI pl)])), (al, .inl (cI, 44, .inl (fun j => nI ((va_up (allF g (n - x) e p b) 3 0) j)))), (hs, .inl (cI, 176, .inl (fun j => nI (fh2_2 j)))), (ct, .inl (cI, 9, .inl (fun j => nI (f j)))), (bt, .inl (cI, 1400, .inl (fun j => nI (fb j)))), (cs, .inl (cI, 40, .inl (fun j => nI (fc j))))]) rfl ?_
      refine V_ws (ws2 := [(m9, .inr (9, [.ref al, .ref hs, .int (nI (hsz hL)), .ref ct, .int (nI tt), .int (nI hv), .int (nI lo), .int (nI hi), .int (nI wt), .ref bt, .int (nI bL), .ref cs, .ref gv, .int (nI gL), .int (nI tk), .int (nI vv), .ref rd, .int (nI rM), .ref tx, .int (nI tL), .int (nI pl)])), (al, .inl (cI, 44, .inl (fun j => nI ((allF g (n - x) 0 p b) j)))), (hs, .inl (cI, 176, .inl (fun j => nI (fh2_2 j)))), (ct, .inl (cI, 9, .inl (fun j => nI (f j)))), (bt, .inl (cI, 1400, .inl (fun j => nI (fb j)))), (cs, .inl (cI, 40, .inl (fun j => nI (fc j))))]) (by rw [show va_up (allF g (n - x) e p b) 3 0 = allF g (n - x) 0 p b from allF_up3 _ _ _ _ _ _]) ?_
      refine V_aload_n hC dX9_drop_48 rfl 0 rfl ?_
      refine V_calliV (As := []) (rest := []) (wr := [(hs, .inl (cI, 176, .inl (fun j => nI (fh2_2 j))))]) hC (c_X9_bitsNow l D cI cQ m9 al hs (hsz hL) ct tt hv lo hi wt bt bL cs gv gL tk vv rd rM tx tL pl (n - x) 0 p b g f fb fc (by omega) (fun j hj => hg j (by omega)) (by omega) (by omega) (by omega)) mok_X9_bitsNow ml_X9_109 (q1 := 0) rfl cls_X9 rfl rfl rfl (by decide) (by decide) (by decide) (Nat.le_of_ble_eq_true rfl) [0, 1, 3, 4, 5] [2] rfl (by decide) rfl (by decide) (by decide) dX9_drop_49 rfl (fun r9 u9 h49 => ?_)
      obtain ⟨fb2_3, fc2_4⟩ := u9
      obtain ⟨rfl, h49⟩ := h49
      have h49 : rep fb2_3 (sB (cM p b g (n - x) 0)) ∧ ∀ j, j < (n - x) → fc2_4 j = cost p b g j := h49
      refine V_perm (ws2 := [(m9, .inr (9, [.ref al, .ref hs, .int (nI ((hsz hL))), .ref ct, .int (nI (sT (cM p b g (n - x) 0))), .int (nI (sH (cM p b g (n - x) 0))), .int (nI (sL (cM p b g (n - x) 0))), .int (nI (sU (cM p b g (n - x) 0))), .int (nI (sW (cM p b g (n - x) 0))), .ref bt, .int (nI ((sB (cM p b g (n - x) 0)).length)), .ref cs, .ref gv, .int (nI gL), .int (nI tk), .int (nI vv), .ref rd, .int (nI rM), .ref tx, .int (nI tL), .int (nI pl)])), (al, .inl (cI, 44, .inl (fun j => nI ((allF g (n - x) 0 p b) j)))), (hs, .inl (cI, 176, .inl (fun j => nI (fh2_2 j)))), (ct, .inl (cI, 9, .inl (fun j => nI ((sF (cM p b g (n - x) 0)) j)))), (bt, .inl (cI, 1400, .inl (fun j => nI (fb2_3 j)))), (cs, .inl (cI, 40, .inl (fun j => nI (fc2_4 j))))]) [1, 2, 0, 3, 4, 5] rfl (by decide) ?_
      subst hQ
      exact V_iret hC hr hlk rfl (by decide) (by decide) dX9_drop_52 ((fh2_2, fb2_3, fc2_4)) [0, 1, 2, 3, 4, 5] rfl (by decide) (⟨rfl, h28⟩)
    · exact False.elim (by omega)
  · exact False.elim (by omega)
abbrev rm_X9_mend_ineg : Room := { frames := 0, cells := 0, slots := 0, locals := 0 }
set_option maxHeartbeats 4000000 in
set_option maxRecDepth 100000 in
theorem c_X9_mend_ineg (l : Launch) (D : va_G) (cI cQ : ClassId) (m9 al hs hL ct tt hv lo hi wt bt bL cs gv gL tk vv rd rM tx tL pl : Nat) (i x : Int32) (hi9 : i.toInt < 0) : MI l yX9_mend cX9_mend 3 (some .int) rm_X9_mend_ineg D (TY cI cQ) [.ref m9, .int (i), .int (x)] [(m9, .inr (9, [.ref al, .ref hs, .int (nI hL), .ref ct, .int (nI tt), .int (nI hv), .int (nI lo), .int (nI hi), .int (nI wt), .ref bt, .int (nI bL), .ref cs, .ref gv, .int (nI gL), .int (nI tk), .int (nI vv), .ref rd, .int (nI rM), .ref tx, .int (nI tL), .int (nI pl)]))] (fun (r9 : Int32) (u : Unit) => r9 = (-1) ∧ (True)) (fun (u : Unit) => [(m9, .inr (9, [.ref al, .ref hs, .int (nI hL), .ref ct, .int (nI tt), .int (nI hv), .int (nI lo), .int (nI hi), .int (nI wt), .ref bt, .int (nI bL), .ref cs, .ref gv, .int (nI gL), .int (nI tk), .int (nI vv), .ref rd, .int (nI rM), .ref tx, .int (nI tL), .int (nI pl)]))]) 0 0 := by
  refine MI.start (by decide) (Nat.le_of_ble_eq_true rfl) (lv0 := [(0, .ref m9), (1, .int (i)), (2, .int (x))]) rfl ?_
  intro pp9 ee9 ss9 mm9 args9 below9 meth9 co9 A9 Q9 hQ hC hr hlk hnm
  refine V_iload_n hC dX9_mend_0 rfl 1 rfl ?_
  refine V_if_lt_T (tgt := 16) hC dX9_mend_1 (by decide) (Int32.lt_iff_toInt_lt.mpr hi9) ?_
  refine V_iconst (v := -1) hC dX9_mend_16 (by decide) ?_
  subst hQ
  exact V_iret hC hr hlk rfl (by decide) (by decide) dX9_mend_17 (()) [0] rfl (by decide) (⟨rfl, trivial⟩)
abbrev rm_X9_mend_xneg : Room := { frames := 1, cells := 0, slots := 0, locals := 25 }
set_option maxHeartbeats 4000000 in
set_option maxRecDepth 100000 in
theorem c_X9_mend_xneg (l : Launch) (D : va_G) (cI cQ : ClassId) (m9 al hs hL ct tt hv lo hi wt bt bL cs gv gL tk vv rd rM tx tL pl i : Nat) (x : Int32) (hi9 : i < 2147483648) (hx : x.toInt < 0) : MI l yX9_mend cX9_mend 3 (some .int) rm_X9_mend_xneg D (TY cI cQ) [.ref m9, .int (nI i), .int (x)] [(m9, .inr (9, [.ref al, .ref hs, .int (nI hL), .ref ct, .int (nI tt), .int (nI hv), .int (nI lo), .int (nI hi), .int (nI wt), .ref bt, .int (nI bL), .ref cs, .ref gv, .int (nI gL), .int (nI tk), .int (nI vv), .ref rd, .int (nI rM), .ref tx, .int (nI tL), .int (nI pl)]))] (fun (r9 : Int32) (u : Unit) => r9 = (-1) ∧ (True)) (fun (u : Unit) => [(m9, .inr (9, [.ref al, .ref hs, .int (nI hL), .ref ct, .int (nI tt), .int (nI hv), .int (nI lo), .int (nI hi), .int (nI wt), .ref bt, .int (nI bL), .ref cs, .ref gv, .int (nI gL), .int (nI tk), .int (nI vv), .ref rd, .int (nI rM), .ref tx, .int (nI tL), .int (nI pl)]))]) 0 0 := by
  refine MI.start (by decide) (Nat.le_of_ble_eq_true rfl) (lv0 := [(0, .ref m9), (1, .int (nI i)), (2, .int (x))]) rfl ?_
  intro pp9 ee9 ss9 mm9 args9 below9 meth9 co9 A9 Q9 hQ hC hr hlk hnm
  refine V_iload_n hC dX9_mend_0 rfl 1 rfl ?_
  refine V_if_lt_F (tgt := 16) hC dX9_mend_1 (by decide) (nI_pos (by omega)) ?_
  refine V_iload_n hC dX9_mend_4 rfl 2 rfl ?_
  refine V_i2l (v := (x).toInt64) hC dX9_mend_5 rfl ?_
  refine V_lconst (v := lN 0) hC dX9_mend_6 rfl ?_
  refine V_ldc2 (v2 := lN 7) hC dX9_mend_7 cstl_X9_100 rfl ?_
  refine V_calliS (As := [.long ((x).toInt64), .long (lN 0), .long (lN 7)]) (rest := []) (wr := [(m9, .inr (9, [.ref al, .ref hs, .int (nI hL), .ref ct, .int (nI tt), .int (nI hv), .int (nI lo), .int (nI hi), .int (nI wt), .ref bt, .int (nI bL), .ref cs, .ref gv, .int (nI gL), .int (nI tk), .int (nI vv), .ref rd, .int (nI rM), .ref tx, .int (nI tL), .int (nI pl)]))]) hC (c_X9_in_neg l D cI cQ x 0 7 (hx) (by omega)) mok_X9_in ml_X9_102 rfl rfl rfl (by decide) (by decide) (by decide) (Nat.le_of_ble_eq_true rfl) [] [0] rfl (by decide) rfl (by decide) (by decide) dX9_mend_10 rfl (fun r9 u9 h10 => ?_)
  obtain ⟨rfl, h10⟩ := h10
  clear h10
  refine V_perm (ws2 := [(m9, .inr (9, [.ref al, .ref hs, .int (nI hL), .ref ct, .int (nI tt), .int (nI hv), .int (nI lo), .int (nI hi), .int (nI wt), .ref bt, .int (nI bL), .ref cs, .ref gv, .int (nI gL), .int (nI tk), .int (nI vv), .ref rd, .int (nI rM), .ref tx, .int (nI tL), .int (nI pl)]))]) [0] rfl (by decide) ?_
  refine V_if_ne_F (tgt := 18) hC dX9_mend_13 (by decide) ((congrArg nI (show 0 = 0 by omega)).trans nI_0) ?_
  refine V_iconst (v := -1) hC dX9_mend_16 (by decide) ?_
  subst hQ
  exact V_iret hC hr hlk rfl (by decide) (by decide) dX9_mend_17 (()) [0] rfl (by decide) (⟨rfl, trivial⟩)
abbrev rm_X9_mend_bad : Room := { frames := 1, cells := 0, slots := 0, locals := 25 }
set_option maxHeartbeats 4000000 in
set_option maxRecDepth 100000 in
theorem c_X9_mend_bad (l : Launch) (D : va_G) (cI cQ : ClassId) (m9 al hs hL ct tt hv lo hi wt bt bL cs gv gL tk vv rd rM tx tL pl i x : Nat) (hi9 : i < 2147483648) (hx : 8 ≤ x ∧ x < 2147483648) : MI l yX9_mend cX9_mend 3 (some .int) rm_X9_mend_bad D (TY cI cQ) [.ref m9, .int (nI i), .int (nI x)] [(m9, .inr (9, [.ref al, .ref hs, .int (nI hL), .ref ct, .int (nI tt), .int (nI hv), .int (nI lo), .int (nI hi), .int (nI wt), .ref bt, .int (nI bL), .ref cs, .ref gv, .int (nI gL), .int (nI tk), .int (nI vv), .ref rd, .int (nI rM), .ref tx, .int (nI tL), .int (nI pl)]))] (fun (r9 : Int32) (u : Unit) => r9 = (-1) ∧ (True)) (fun (u : Unit) => [(m9, .inr (9, [.ref al, .ref hs, .int (nI hL), .ref ct, .int (nI tt), .int (nI hv), .int (nI lo), .int (nI hi), .int (nI wt), .ref bt, .int (nI bL), .ref cs, .ref gv, .int (nI gL), .int (nI tk), .int (nI vv), .ref rd, .int (nI rM), .ref tx, .int (nI tL), .int (nI pl)]))]) 0 0 := by
  refine MI.start (by decide) (Nat.le_of_ble_eq_true rfl) (lv0 := [(0, .ref m9), (1, .int (nI i)), (2, .int (nI x))]) rfl ?_
  intro pp9 ee9 ss9 mm9 args9 below9 meth9 co9 A9 Q9 hQ hC hr hlk hnm
  refine V_iload_n hC dX9_mend_0 rfl 1 rfl ?_
  refine V_if_lt_F (tgt := 16) hC dX9_mend_1 (by decide) (nI_pos (by omega)) ?_
  refine V_iload_n hC dX9_mend_4 rfl 2 rfl ?_
  refine V_i2l (v := lN x) hC dX9_mend_5 (nI_l (by omega)) ?_
  refine V_lconst (v := lN 0) hC dX9_mend_6 rfl ?_
  refine V_ldc2 (v2 := lN 7) hC dX9_mend_7 cstl_X9_100 rfl ?_
  refine V_calliS (As := [.long (lN x), .long (lN 0), .long (lN 7)]) (rest := []) (wr := [(m9, .inr (9, [.ref al, .ref hs, .int (nI hL), .ref ct, .int (nI tt), .int (nI hv), .int (nI lo), .int (nI hi), .int (nI wt), .ref bt, .int (nI bL), .ref cs, .ref gv, .int (nI gL), .int (nI tk), .int (nI vv), .ref rd, .int (nI rM), .ref tx, .int (nI tL), .int (nI pl)]))]) hC (c_X9_in l D cI cQ x 0 7 (by omega) (by omega) (by omega)) mok_X9_in ml_X9_102 rfl rfl rfl (by decide) (by decide) (by decide) (Nat.le_of_ble_eq_true rfl) [] [0] rfl (by decide) rfl (by decide) (by decide) dX9_mend_10 rfl (fun r9 u9 h10 => ?_)
  obtain ⟨u_1, rfl⟩ : ∃ z, z = u9 := ⟨_, rfl⟩
  obtain ⟨rfl, h10⟩ := h10
  have h10 : (u_1 = 1 ∧ 0 ≤ x ∧ x ≤ 7) ∨ (u_1 = 0 ∧ (x < 0 ∨ 7 < x)) := h10
  refine V_perm (ws2 := [(m9, .inr (9, [.ref al, .ref hs, .int (nI hL), .ref ct, .int (nI tt), .int (nI hv), .int (nI lo), .int (nI hi), .int (nI wt), .ref bt, .int (nI bL), .ref cs, .ref gv, .int (nI gL), .int (nI tk), .int (nI vv), .ref rd, .int (nI rM), .ref tx, .int (nI tL), .int (nI pl)]))]) [0] rfl (by decide) ?_
  refine V_if_ne (tgt := 18) hC (by omega) dX9_mend_13 (by decide) (fun c13 => ?_) (fun c13 => ?_)
  · exact False.elim (by omega)
  · refine V_iconst (v := -1) hC dX9_mend_16 (by decide) ?_
    subst hQ
    exact V_iret hC hr hlk rfl (by decide) (by decide) dX9_mend_17 (()) [0] rfl (by decide) (⟨rfl, trivial⟩)
abbrev rm_X9_mend_not : Room := { frames := 1, cells := 0, slots := 0, locals := 25 }
set_option maxHeartbeats 4000000 in
set_option maxRecDepth 100000 in
theorem c_X9_mend_not (l : Launch) (D : va_G) (cI cQ : ClassId) (m9 al hs hL ct tt hv lo hi wt bt bL cs gv gL tk vv rd rM tx tL pl n e p b i x : Nat) (g : Nat → Nat) (hi9 : n ≤ i ∧ i < 2147483648) (hx : x < 8) (hn : n ≤ 40) : MI l yX9_mend cX9_mend 3 (some .int) rm_X9_mend_not D (TY cI cQ) [.ref m9, .int (nI i), .int (nI x)] [(m9, .inr (9, [.ref al, .ref hs, .int (nI hL), .ref ct, .int (nI tt), .int (nI hv), .int (nI lo), .int (nI hi), .int (nI wt), .ref bt, .int (nI bL), .ref cs, .ref gv, .int (nI gL), .int (nI tk), .int (nI vv), .ref rd, .int (nI rM), .ref tx, .int (nI tL), .int (nI pl)])), (al, .inl (cI, 44, .inl (fun j => nI ((allF g n e p b) j))))] (fun (r9 : Int32) (u : Unit) => r9 = (-2) ∧ (True)) (fun (u : Unit) => [(m9, .inr (9, [.ref al, .ref hs, .int (nI hL), .ref ct, .int (nI tt), .int (nI hv), .int (nI lo), .int (nI hi), .int (nI wt), .ref bt, .int (nI bL), .ref cs, .ref gv, .int (nI gL), .int (nI tk), .int (nI vv), .ref rd, .int (nI rM), .ref tx, .int (nI tL), .int (nI pl)])), (al, .inl (cI, 44, .inl (fun j => nI ((allF g n e p b) j))))]) 0 0 := by
  refine MI.start (by decide) (Nat.le_of_ble_eq_true rfl) (lv0 := [(0, .ref m9), (1, .int (nI i)), (2, .int (nI x))]) rfl ?_
  intro pp9 ee9 ss9 mm9 args9 below9 meth9 co9 A9 Q9 hQ hC hr hlk hnm
  refine V_iload_n hC dX9_mend_0 rfl 1 rfl ?_
  refine V_if_lt_F (tgt := 16) hC dX9_mend_1 (by decide) (nI_pos (by omega)) ?_
  refine V_iload_n hC dX9_mend_4 rfl 2 rfl ?_
  refine V_i2l (v := lN x) hC dX9_mend_5 (nI_l (by omega)) ?_
  refine V_lconst (v := lN 0) hC dX9_mend_6 rfl ?_
  refine V_ldc2 (v2 := lN 7) hC dX9_mend_7 cstl_X9_100 rfl ?_
  refine V_calliS (As := [.long (lN x), .long (lN 0), .long (lN 7)]) (rest := []) (wr := [(m9, .inr (9, [.ref al, .ref hs, .int (nI hL), .ref ct, .int (nI tt), .int (nI hv), .int (nI lo), .int (nI hi), .int (nI wt), .ref bt, .int (nI bL), .ref cs, .ref gv, .int (nI gL), .int (nI tk), .int (nI vv), .ref rd, .int (nI rM), .ref tx, .int (nI tL), .int (nI pl)])), (al, .inl (cI, 44, .inl (fun j => nI ((allF g n e p b) j))))]) hC (c_X9_in l D cI cQ x 0 7 (by omega) (by omega) (by omega)) mok_X9_in ml_X9_102 rfl rfl rfl (by decide) (by decide) (by decide) (Nat.le_of_ble_eq_true rfl) [] [0, 1] rfl (by decide) rfl (by decide) (by decide) dX9_mend_10 rfl (fun r9 u9 h10 => ?_)
  obtain ⟨u_1, rfl⟩ : ∃ z, z = u9 := ⟨_, rfl⟩
  obtain ⟨rfl, h10⟩ := h10
  have h10 : (u_1 = 1 ∧ 0 ≤ x ∧ x ≤ 7) ∨ (u_1 = 0 ∧ (x < 0 ∨ 7 < x)) := h10
  refine V_perm (ws2 := [(m9, .inr (9, [.ref al, .ref hs, .int (nI hL), .ref ct, .int (nI tt), .int (nI hv), .int (nI lo), .int (nI hi), .int (nI wt), .ref bt, .int (nI bL), .ref cs, .ref gv, .int (nI gL), .int (nI tk), .int (nI vv), .ref rd, .int (nI rM), .ref tx, .int (nI tL), .int (nI pl)])), (al, .inl (cI, 44, .inl (fun j => nI ((allF g n e p b) j))))]) [0, 1] rfl (by decide) ?_
  refine V_if_ne (tgt := 18) hC (by omega) dX9_mend_13 (by decide) (fun c13 => ?_) (fun c13 => ?_)
  · refine V_iload_n hC dX9_mend_18 rfl 1 rfl ?_
    refine V_aload_n hC dX9_mend_19 rfl 0 rfl ?_
    refine V_get (ci := 9) (v := .ref al) hC in_X9 0 rfl cls_X9 0 (by decide) fl_X9_7 rfl dX9_mend_20 ?_
    refine V_iconst (v := nI 2) hC dX9_mend_23 (by decide) ?_
    refine V_iald hC 1 0 rfl rfl (by omega) (by decide) dX9_mend_24 ?_
    refine V_st (st2 := [.int (nI n), .int (nI i)]) (by rw [show ((allF g n e p b) 2) = (n) from rfl]) ?_
    refine V_icmp_lt (tgt := 31) hC (by omega) (by omega) dX9_mend_25 (by decide) (fun c25 => ?_) (fun c25 => ?_)
    · exact False.elim (by omega)
    · refine V_bipush (v := -2) hC dX9_mend_28 (by decide) ?_
      subst hQ
      exact V_iret hC hr hlk rfl (by decide) (by decide) dX9_mend_30 (()) [0, 1] rfl (by decide) (⟨rfl, trivial⟩)
  · exact False.elim (by omega)
abbrev rm_X9_mend_ok : Room := { frames := 7, cells := 0, slots := 0, locals := 152 }
set_option maxHeartbeats 4000000 in
set_option maxRecDepth 100000 in
theorem c_X9_mend_ok (l : Launch) (D : va_G) (cI cQ : ClassId) (m9 al hs hL ct tt hv lo hi wt bt bL cs gv gL tk vv rd rM tx tL pl n e p b i x : Nat) (g f fh fb fc : Nat → Nat) (hi9 : i < n) (hx : x < 8) (hn : n ≤ 40) (hg : ∀ j, j < n → g j < 8) (he : e < 2) (hp : p ≤ 64) (hb : b ≤ 2000) (hz : hL ≤ 4) : MI l yX9_mend cX9_mend 3 (some .int) rm_X9_mend_ok D (TY cI cQ) [.ref m9, .int (nI i), .int (nI x)] [(m9, .inr (9, [.ref al, .ref hs, .int (nI hL), .ref ct, .int (nI tt), .int (nI hv), .int (nI lo), .int (nI hi), .int (nI wt), .ref bt, .int (nI bL), .ref cs, .ref gv, .int (nI gL), .int (nI tk), .int (nI vv), .ref rd, .int (nI rM), .ref tx, .int (nI tL), .int (nI pl)])), (al, .inl (cI, 44, .inl (fun j => nI ((allF g n e p b) j)))), (hs, .inl (cI, 176, .inl (fun j => nI (fh j)))), (ct, .inl (cI, 9, .inl (fun j => nI (f j)))), (bt, .inl (cI, 1400, .inl (fun j => nI (fb j)))), (cs, .inl (cI, 40, .inl (fun j => nI (fc j))))] (fun (r9 : Int32) (u : (Nat → Nat) × (Nat → Nat) × (Nat → Nat)) => r9 = (nI ((sB (cM p b (va_up g i x) n e)).length)) ∧ (∀ k, k < hsz hL → ∀ j, j < 44 → HB u.1 k j = hup (HB fh) hL (allF g n e p b) k j)) (fun (u : (Nat → Nat) × (Nat → Nat) × (Nat → Nat)) => [(m9, .inr (9, [.ref al, .ref hs, .int (nI (hsz hL)), .ref ct, .int (nI (sT (cM p b (va_up g i x) n e))), .int (nI (sH (cM p b (va_up g i x) n e))), .int (nI (sL (cM p b (va_up g i x) n e))), .int (nI (sU (cM p b (va_up g i x) n e))), .int (nI (sW (cM p b (va_up g i x) n e))), .ref bt, .int (nI ((sB (cM p b (va_up g i x) n e)).length)), .ref cs, .ref gv, .int (nI gL), .int (nI tk), .int (nI vv), .ref rd, .int (nI rM), .ref tx, .int (nI tL), .int (nI pl)])), (al, .inl (cI, 44, .inl (fun j => nI ((allF (va_up g i x) n e p b) j)))), (hs, .inl (cI, 176, .inl (fun j => nI (u.1 j)))), (ct, .inl (cI, 9, .inl (fun j => nI ((sF (cM p b (va_up g i x) n e)) j)))), (bt, .inl (cI, 1400, .inl (fun j => nI (u.2.1 j)))), (cs, .inl (cI, 40, .inl (fun j => nI (u.2.2 j))))]) 0 0 := by
  refine MI.start (by decide) (Nat.le_of_ble_eq_true rfl) (lv0 := [(0, .ref m9), (1, .int (nI i)), (2, .int (nI x))]) rfl ?_
  intro pp9 ee9 ss9 mm9 args9 below9 meth9 co9 A9 Q9 hQ hC hr hlk hnm
  refine V_iload_n hC dX9_mend_0 rfl 1 rfl ?_
  refine V_if_lt_F (tgt := 16) hC dX9_mend_1 (by decide) (nI_pos (by omega)) ?_
  refine V_iload_n hC dX9_mend_4 rfl 2 rfl ?_
  refine V_i2l (v := lN x) hC dX9_mend_5 (nI_l (by omega)) ?_
  refine V_lconst (v := lN 0) hC dX9_mend_6 rfl ?_
  refine V_ldc2 (v2 := lN 7) hC dX9_mend_7 cstl_X9_100 rfl ?_
  refine V_calliS (As := [.long (lN x), .long (lN 0), .long (lN 7)]) (rest := []) (wr := [(m9, .inr (9, [.ref al, .ref hs, .int (nI hL), .ref ct, .int (nI tt), .int (nI hv), .int (nI lo), .int (nI hi), .int (nI wt), .ref bt, .int (nI bL), .ref cs, .ref gv, .int (nI gL), .int (nI tk), .int (nI vv), .ref rd, .int (nI rM), .ref tx, .int (nI tL), .int (nI pl)])), (al, .inl (cI, 44, .inl (fun j => nI ((allF g n e p b) j)))), (hs, .inl (cI, 176, .inl (fun j => nI (fh j)))), (ct, .inl (cI, 9, .inl (fun j => nI (f j)))), (bt, .inl (cI, 1400, .inl (fun j => nI (fb j)))), (cs, .inl (cI, 40, .inl (fun j => nI (fc j))))]) hC (c_X9_in l D cI cQ x 0 7 (by omega) (by omega) (by omega)) mok_X9_in ml_X9_102 rfl rfl rfl (by decide) (by decide) (by decide) (Nat.le_of_ble_eq_true rfl) [] [0, 1, 2, 3, 4, 5] rfl (by decide) rfl (by decide) (by decide) dX9_mend_10 rfl (fun r9 u9 h10 => ?_)
  obtain ⟨u_1, rfl⟩ : ∃ z, z = u9 := ⟨_, rfl⟩
  obtain ⟨rfl, h10⟩ := h10
  have h10 : (u_1 = 1 ∧ 0 ≤ x ∧ x ≤ 7) ∨ (u_1 = 0 ∧ (x < 0 ∨ 7 < x)) := h10
  refine V_perm (ws2 := [(m9, .inr (9, [.ref al, .ref hs, .int (nI hL), .ref ct, .int (nI tt), .int (nI hv), .int (nI lo), .int (nI hi), .int (nI wt), .ref bt, .int (nI bL), .ref cs, .ref gv, .int (nI gL), .int (nI tk), .int (nI vv), .ref rd, .int (nI rM), .ref tx, .int (nI tL), .int (nI pl)])), (al, .inl (cI, 44, .inl (fun j => nI ((allF g n e p b) j)))), (hs, .inl (cI, 176, .inl (fun j => nI (fh j)))), (ct, .inl (cI, 9, .inl (fun j => nI (f j)))), (bt, .inl (cI, 1400, .inl (fun j => nI (fb j)))), (cs, .inl (cI, 40, .inl (fun j => nI (fc j))))]) [0, 1, 2, 3, 4, 5] rfl (by decide) ?_
  refine V_if_ne (tgt := 18) hC (by omega) dX9_mend_13 (by decide) (fun c13 => ?_) (fun c13 => ?_)
  · refine V_iload_n hC dX9_mend_18 rfl 1 rfl ?_
    refine V_aload_n hC dX9_mend_19 rfl 0 rfl ?_
    refine V_get (ci := 9) (v := .ref al) hC in_X9 0 rfl cls_X9 0 (by decide) fl_X9_7 rfl dX9_mend_20 ?_
    refine V_iconst (v := nI 2) hC dX9_mend_23 (by decide) ?_
    refine V_iald hC 1 0 rfl rfl (by omega) (by decide) dX9_mend_24 ?_
    refine V_st (st2 := [.int (nI n), .int (nI i)]) (by rw [show ((allF g n e p b) 2) = (n) from rfl]) ?_
    refine V_icmp_lt (tgt := 31) hC (by omega) (by omega) dX9_mend_25 (by decide) (fun c25 => ?_) (fun c25 => ?_)
    · refine V_aload_n hC dX9_mend_31 rfl 0 rfl ?_
      refine V_callvV (As := []) (rest := []) (wr := [(ct, .inl (cI, 9, .inl (fun j => nI (f j)))), (bt, .inl (cI, 1400, .inl (fun j => nI (fb j)))), (cs, .inl (cI, 40, .inl (fun j => nI (fc j))))]) hC (c_X9_record l D cI cQ m9 al hs hL ct tt hv lo hi wt bt bL cs gv gL tk vv rd rM tx tL pl n e p b g fh (by omega)) mok_X9_record ml_X9_106 (q1 := 0) rfl cls_X9 rfl rfl rfl (by decide) (by decide) (by decide) (Nat.le_of_ble_eq_true rfl) [0, 1, 2] [3, 4, 5] rfl (by decide) rfl (by decide) (by decide) dX9_mend_32 rfl (fun u9 h32 => ?_)
      obtain ⟨fh2_2, rfl⟩ : ∃ z, z = u9 := ⟨_, rfl⟩
      have h32 : ∀ k, k < hsz hL → ∀ j, j < 44 → HB fh2_2 k j = hup (HB fh) hL (allF g n e p b) k j := h32
      refine V_perm (ws2 := [(m9, .inr (9, [.ref al, .ref hs, .int (nI (hsz hL)), .ref ct, .int (nI tt), .int (nI hv), .int (nI lo), .int (nI hi), .int (nI wt), .ref bt, .int (nI bL), .ref cs, .ref gv, .int (nI gL), .int (nI tk), .int (nI vv), .ref rd, .int (nI rM), .ref tx, .int (nI tL), .int (nI pl)])), (al, .inl (cI, 44, .inl (fun j => nI ((allF g n e p b) j)))), (hs, .inl (cI, 176, .inl (fun j => nI (fh2_2 j)))), (ct, .inl (cI, 9, .inl (fun j => nI (f j)))), (bt, .inl (cI, 1400, .inl (fun j => nI (fb j)))), (cs, .inl (cI, 40, .inl (fun j => nI (fc j))))]) [3, 4, 5, 0, 1, 2] rfl (by decide) ?_
      refine V_aload_n hC dX9_mend_35 rfl 0 rfl ?_
      refine V_get (ci := 9) (v := .ref al) hC in_X9 0 rfl cls_X9 0 (by decide) fl_X9_7 rfl dX9_mend_36 ?_
      refine V_iconst (v := nI 4) hC dX9_mend_39 (by decide) ?_
      refine V_iload_n hC dX9_mend_40 rfl 1 rfl ?_
      refine V_iadd hC dX9_mend_41 ?_
      refine V_iload_n hC dX9_mend_42 rfl 2 rfl ?_
      refine V_iast hC 1 0 rfl rfl (by omega) (by decide) dX9_mend_43 (ws2 := [(m9, .inr (9, [.ref al, .ref hs, .int (nI (hsz hL)), .ref ct, .int (nI tt), .int (nI hv), .int (nI lo), .int (nI hi), .int (nI wt), .ref bt, .int (nI bL), .ref cs, .ref gv, .int (nI gL), .int (nI tk), .int (nI vv), .ref rd, .int (nI rM), .ref tx, .int (nI tL), .int (nI pl)])), (al, .inl (cI, 44, .inl (fun j => nI ((va_up (allF g n e p b) (4 + i) x) j)))), (hs, .inl (cI, 176, .inl (fun j => nI (fh2_2 j)))), (ct, .inl (cI, 9, .inl (fun j => nI (f j)))), (bt, .inl (cI, 1400, .inl (fun j => nI (fb j)))), (cs, .inl (cI, 40, .inl (fun j => nI (fc j))))]) rfl ?_
      refine V_ws (ws2 := [(m9, .inr (9, [.ref al, .ref hs, .int (nI (hsz hL)), .ref ct, .int (nI tt), .int (nI hv), .int (nI lo), .int (nI hi), .int (nI wt), .ref bt, .int (nI bL), .ref cs, .ref gv, .int (nI gL), .int (nI tk), .int (nI vv), .ref rd, .int (nI rM), .ref tx, .int (nI tL), .int (nI pl)])), (al, .inl (cI, 44, .inl (fun j => nI ((allF (va_up g i x) n e p b) j)))), (hs, .inl (cI, 176, .inl (fun j => nI (fh2_2 j)))), (ct, .inl (cI, 9, .inl (fun j => nI (f j)))), (bt, .inl (cI, 1400, .inl (fun j => nI (fb j)))), (cs, .inl (cI, 40, .inl (fun j => nI (fc j))))]) (by rw [show va_up (allF g n e p b) (4 + i) x = allF (va_up g i x) n e p b from allF_up4 _ _ _ _ _ _ _]) ?_
      refine V_aload_n hC dX9_mend_44 rfl 0 rfl ?_
      refine V_calliV (As := []) (rest := []) (wr := [(hs, .inl (cI, 176, .inl (fun j => nI (fh2_2 j))))]) hC (c_X9_bitsNow l D cI cQ m9 al hs (hsz hL) ct tt hv lo hi wt bt bL cs gv gL tk vv rd rM tx tL pl n e p b (va_up g i x) f fb fc (by omega) (up8 hg hx) (by omega) (by omega) (by omega)) mok_X9_bitsNow ml_X9_109 (q1 := 0) rfl cls_X9 rfl rfl rfl (by decide) (by decide) (by decide) (Nat.le_of_ble_eq_true rfl) [0, 1, 3, 4, 5] [2] rfl (by decide) rfl (by decide) (by decide) dX9_mend_45 rfl (fun r9 u9 h45 => ?_)
      obtain ⟨fb2_3, fc2_4⟩ := u9
      obtain ⟨rfl, h45⟩ := h45
      have h45 : rep fb2_3 (sB (cM p b (va_up g i x) n e)) ∧ ∀ j, j < n → fc2_4 j = cost p b (va_up g i x) j := h45
      refine V_perm (ws2 := [(m9, .inr (9, [.ref al, .ref hs, .int (nI ((hsz hL))), .ref ct, .int (nI (sT (cM p b (va_up g i x) n e))), .int (nI (sH (cM p b (va_up g i x) n e))), .int (nI (sL (cM p b (va_up g i x) n e))), .int (nI (sU (cM p b (va_up g i x) n e))), .int (nI (sW (cM p b (va_up g i x) n e))), .ref bt, .int (nI ((sB (cM p b (va_up g i x) n e)).length)), .ref cs, .ref gv, .int (nI gL), .int (nI tk), .int (nI vv), .ref rd, .int (nI rM), .ref tx, .int (nI tL), .int (nI pl)])), (al, .inl (cI, 44, .inl (fun j => nI ((allF (va_up g i x) n e p b) j)))), (hs, .inl (cI, 176, .inl (fun j => nI (fh2_2 j)))), (ct, .inl (cI, 9, .inl (fun j => nI ((sF (cM p b (va_up g i x) n e)) j)))), (bt, .inl (cI, 1400, .inl (fun j => nI (fb2_3 j)))), (cs, .inl (cI, 40, .inl (fun j => nI (fc2_4 j))))]) [1, 2, 0, 3, 4, 5] rfl (by decide) ?_
      subst hQ
      exact V_iret hC hr hlk rfl (by decide) (by decide) dX9_mend_48 ((fh2_2, fb2_3, fc2_4)) [0, 1, 2, 3, 4, 5] rfl (by decide) (⟨rfl, h32⟩)
    · exact False.elim (by omega)
  · exact False.elim (by omega)
abbrev rm_X9_set_wneg : Room := { frames := 0, cells := 0, slots := 0, locals := 0 }
set_option maxHeartbeats 4000000 in
set_option maxRecDepth 100000 in
theorem c_X9_set_wneg (l : Launch) (D : va_G) (cI cQ : ClassId) (m9 al hs hL ct tt hv lo hi wt bt bL cs gv gL tk vv rd rM tx tL pl : Nat) (w x : Int32) (hw : w.toInt < 0) : MI l yX9_set cX9_set 6 (some .int) rm_X9_set_wneg D (TY cI cQ) [.ref m9, .int (w), .int (x)] [(m9, .inr (9, [.ref al, .ref hs, .int (nI hL), .ref ct, .int (nI tt), .int (nI hv), .int (nI lo), .int (nI hi), .int (nI wt), .ref bt, .int (nI bL), .ref cs, .ref gv, .int (nI gL), .int (nI tk), .int (nI vv), .ref rd, .int (nI rM), .ref tx, .int (nI tL), .int (nI pl)]))] (fun (r9 : Int32) (u : Unit) => r9 = (-1) ∧ (True)) (fun (u : Unit) => [(m9, .inr (9, [.ref al, .ref hs, .int (nI hL), .ref ct, .int (nI tt), .int (nI hv), .int (nI lo), .int (nI hi), .int (nI wt), .ref bt, .int (nI bL), .ref cs, .ref gv, .int (nI gL), .int (nI tk), .int (nI vv), .ref rd, .int (nI rM), .ref tx, .int (nI tL), .int (nI pl)]))]) 0 0 := by
  refine MI.start (by decide) (Nat.le_of_ble_eq_true rfl) (lv0 := [(0, .ref m9), (1, .int (w)), (2, .int (x))]) rfl ?_
  intro pp9 ee9 ss9 mm9 args9 below9 meth9 co9 A9 Q9 hQ hC hr hlk hnm
  refine V_iload_n hC dX9_set_0 rfl 1 rfl ?_
  refine V_if_ne_T (tgt := 16) hC dX9_set_1 (by decide) (neg_ne0 hw) ?_
  refine V_iload_n hC dX9_set_16 rfl 1 rfl ?_
  refine V_iconst (v := nI 1) hC dX9_set_17 (by decide) ?_
  refine V_icmp_ne_T (tgt := 39) hC dX9_set_18 (by decide) (neg_ne hw (by omega)) ?_
  refine V_iconst (v := nI 0) hC dX9_set_39 (by decide) ?_
  refine V_istore_n (lv2 := [(0, .ref m9), (1, .int (w)), (2, .int (x)), (3, .int (nI 0))]) hC dX9_set_40 rfl (by decide) [1, 2, 3, 0] rfl ?_
  refine V_iload_n hC dX9_set_41 rfl 3 rfl ?_
  refine V_if_ne_F (tgt := 47) hC dX9_set_42 (by decide) ((congrArg nI (show 0 = 0 by omega)).trans nI_0) ?_
  refine V_iconst (v := -1) hC dX9_set_45 (by decide) ?_
  subst hQ
  exact V_iret hC hr hlk rfl (by decide) (by decide) dX9_set_46 (()) [0] rfl (by decide) (⟨rfl, trivial⟩)
abbrev rm_X9_set_xneg : Room := { frames := 1, cells := 0, slots := 0, locals := 25 }
set_option maxHeartbeats 4000000 in
set_option maxRecDepth 100000 in
theorem c_X9_set_xneg (l : Launch) (D : va_G) (cI cQ : ClassId) (m9 al hs hL ct tt hv lo hi wt bt bL cs gv gL tk vv rd rM tx tL pl w : Nat) (x : Int32) (hw : w < 2147483648) (hx : x.toInt < 0) : MI l yX9_set cX9_set 6 (some .int) rm_X9_set_xneg D (TY cI cQ) [.ref m9, .int (nI w), .int (x)] [(m9, .inr (9, [.ref al, .ref hs, .int (nI hL), .ref ct, .int (nI tt), .int (nI hv), .int (nI lo), .int (nI hi), .int (nI wt), .ref bt, .int (nI bL), .ref cs, .ref gv, .int (nI gL), .int (nI tk), .int (nI vv), .ref rd, .int (nI rM), .ref tx, .int (nI tL), .int (nI pl)]))] (fun (r9 : Int32) (u : Unit) => r9 = (-1) ∧ (True)) (fun (u : Unit) => [(m9, .inr (9, [.ref al, .ref hs, .int (nI hL), .ref ct, .int (nI tt), .int (nI hv), .int (nI lo), .int (nI hi), .int (nI wt), .ref bt, .int (nI bL), .ref cs, .ref gv, .int (nI gL), .int (nI tk), .int (nI vv), .ref rd, .int (nI rM), .ref tx, .int (nI tL), .int (nI pl)]))]) 0 0 := by
  refine MI.start (by decide) (Nat.le_of_ble_eq_true rfl) (lv0 := [(0, .ref m9), (1, .int (nI w)), (2, .int (x))]) rfl ?_
  intro pp9 ee9 ss9 mm9 args9 below9 meth9 co9 A9 Q9 hQ hC hr hlk hnm
  refine V_iload_n hC dX9_set_0 rfl 1 rfl ?_
  refine V_if_ne (tgt := 16) hC (by omega) dX9_set_1 (by decide) (fun c1 => ?_) (fun c1 => ?_)
  · refine V_iload_n hC dX9_set_16 rfl 1 rfl ?_
    refine V_iconst (v := nI 1) hC dX9_set_17 (by decide) ?_
    refine V_icmp_ne (tgt := 39) hC (by omega) (by omega) dX9_set_18 (by decide) (fun c18 => ?_) (fun c18 => ?_)
    · refine V_iconst (v := nI 0) hC dX9_set_39 (by decide) ?_
      refine V_istore_n (lv2 := [(0, .ref m9), (1, .int (nI w)), (2, .int (x)), (3, .int (nI 0))]) hC dX9_set_40 rfl (by decide) [1, 2, 3, 0] rfl ?_
      refine V_iload_n hC dX9_set_41 rfl 3 rfl ?_
      refine V_if_ne_F (tgt := 47) hC dX9_set_42 (by decide) ((congrArg nI (show 0 = 0 by omega)).trans nI_0) ?_
      refine V_iconst (v := -1) hC dX9_set_45 (by decide) ?_
      subst hQ
      exact V_iret hC hr hlk rfl (by decide) (by decide) dX9_set_46 (()) [0] rfl (by decide) (⟨rfl, trivial⟩)
    · refine V_iload_n hC dX9_set_21 rfl 2 rfl ?_
      refine V_i2l (v := (x).toInt64) hC dX9_set_22 rfl ?_
      refine V_ldc2 (v2 := lN 32) hC dX9_set_23 cstl_X9_119 rfl ?_
      refine V_ldc2 (v2 := lN 2000) hC dX9_set_26 cstl_X9_121 rfl ?_
      refine V_calliS (As := [.long ((x).toInt64), .long (lN 32), .long (lN 2000)]) (rest := []) (wr := [(m9, .inr (9, [.ref al, .ref hs, .int (nI hL), .ref ct, .int (nI tt), .int (nI hv), .int (nI lo), .int (nI hi), .int (nI wt), .ref bt, .int (nI bL), .ref cs, .ref gv, .int (nI gL), .int (nI tk), .int (nI vv), .ref rd, .int (nI rM), .ref tx, .int (nI tL), .int (nI pl)]))]) hC (c_X9_in_neg l D cI cQ x 32 2000 (hx) (by omega)) mok_X9_in ml_X9_102 rfl rfl rfl (by decide) (by decide) (by decide) (Nat.le_of_ble_eq_true rfl) [] [0] rfl (by decide) rfl (by decide) (by decide) dX9_set_29 rfl (fun r9 u9 h29 => ?_)
      obtain ⟨rfl, h29⟩ := h29
      clear h29
      refine V_perm (ws2 := [(m9, .inr (9, [.ref al, .ref hs, .int (nI hL), .ref ct, .int (nI tt), .int (nI hv), .int (nI lo), .int (nI hi), .int (nI wt), .ref bt, .int (nI bL), .ref cs, .ref gv, .int (nI gL), .int (nI tk), .int (nI vv), .ref rd, .int (nI rM), .ref tx, .int (nI tL), .int (nI pl)]))]) [0] rfl (by decide) ?_
      refine V_if_eq_T (tgt := 39) hC dX9_set_32 (by decide) ((congrArg nI (show 0 = 0 by omega)).trans nI_0) ?_
      refine V_iconst (v := nI 0) hC dX9_set_39 (by decide) ?_
      refine V_istore_n (lv2 := [(0, .ref m9), (1, .int (nI w)), (2, .int (x)), (3, .int (nI 0))]) hC dX9_set_40 rfl (by decide) [1, 2, 3, 0] rfl ?_
      refine V_iload_n hC dX9_set_41 rfl 3 rfl ?_
      refine V_if_ne_F (tgt := 47) hC dX9_set_42 (by decide) ((congrArg nI (show 0 = 0 by omega)).trans nI_0) ?_
      refine V_iconst (v := -1) hC dX9_set_45 (by decide) ?_
      subst hQ
      exact V_iret hC hr hlk rfl (by decide) (by decide) dX9_set_46 (()) [0] rfl (by decide) (⟨rfl, trivial⟩)
  · refine V_iload_n hC dX9_set_4 rfl 2 rfl ?_
    refine V_i2l (v := (x).toInt64) hC dX9_set_5 rfl ?_
    refine V_lconst (v := lN 1) hC dX9_set_6 rfl ?_
    refine V_ldc2 (v2 := lN 64) hC dX9_set_7 cstl_X9_117 rfl ?_
    refine V_calliS (As := [.long ((x).toInt64), .long (lN 1), .long (lN 64)]) (rest := []) (wr := [(m9, .inr (9, [.ref al, .ref hs, .int (nI hL), .ref ct, .int (nI tt), .int (nI hv), .int (nI lo), .int (nI hi), .int (nI wt), .ref bt, .int (nI bL), .ref cs, .ref gv, .int (nI gL), .int (nI tk), .int (nI vv), .ref rd, .int (nI rM), .ref tx, .int (nI tL), .int (nI pl)]))]) hC (c_X9_in_neg l D cI cQ x 1 64 (hx) (by omega)) mok_X9_in ml_X9_102 rfl rfl rfl (by decide) (by decide) (by decide) (Nat.le_of_ble_eq_true rfl) [] [0] rfl (by decide) rfl (by decide) (by decide) dX9_set_10 rfl (fun r9 u9 h10 => ?_)
    obtain ⟨rfl, h10⟩ := h10
    clear h10
    refine V_perm (ws2 := [(m9, .inr (9, [.ref al, .ref hs, .int (nI hL), .ref ct, .int (nI tt), .int (nI hv), .int (nI lo), .int (nI hi), .int (nI wt), .ref bt, .int (nI bL), .ref cs, .ref gv, .int (nI gL), .int (nI tk), .int (nI vv), .ref rd, .int (nI rM), .ref tx, .int (nI tL), .int (nI pl)]))]) [0] rfl (by decide) ?_
    refine V_goto (tgt := 40) hC dX9_set_13 (by decide) ?_
    refine V_istore_n (lv2 := [(0, .ref m9), (1, .int (nI w)), (2, .int (x)), (3, .int (nI 0))]) hC dX9_set_40 rfl (by decide) [1, 2, 3, 0] rfl ?_
    refine V_iload_n hC dX9_set_41 rfl 3 rfl ?_
    refine V_if_ne_F (tgt := 47) hC dX9_set_42 (by decide) ((congrArg nI (show 0 = 0 by omega)).trans nI_0) ?_
    refine V_iconst (v := -1) hC dX9_set_45 (by decide) ?_
    subst hQ
    exact V_iret hC hr hlk rfl (by decide) (by decide) dX9_set_46 (()) [0] rfl (by decide) (⟨rfl, trivial⟩)
abbrev rm_X9_set_bad : Room := { frames := 1, cells := 0, slots := 0, locals := 25 }
set_option maxHeartbeats 4000000 in
set_option maxRecDepth 100000 in
theorem c_X9_set_bad (l : Launch) (D : va_G) (cI cQ : ClassId) (m9 al hs hL ct tt hv lo hi wt bt bL cs gv gL tk vv rd rM tx tL pl w x : Nat) (hw : w < 2147483648) (hx : x < 2147483648 ∧ ¬ ((w = 0 ∧ 1 ≤ x ∧ x ≤ 64) ∨ (w = 1 ∧ 32 ≤ x ∧ x ≤ 2000))) : MI l yX9_set cX9_set 6 (some .int) rm_X9_set_bad D (TY cI cQ) [.ref m9, .int (nI w), .int (nI x)] [(m9, .inr (9, [.ref al, .ref hs, .int (nI hL), .ref ct, .int (nI tt), .int (nI hv), .int (nI lo), .int (nI hi), .int (nI wt), .ref bt, .int (nI bL), .ref cs, .ref gv, .int (nI gL), .int (nI tk), .int (nI vv), .ref rd, .int (nI rM), .ref tx, .int (nI tL), .int (nI pl)]))] (fun (r9 : Int32) (u : Unit) => r9 = (-1) ∧ (True)) (fun (u : Unit) => [(m9, .inr (9, [.ref al, .ref hs, .int (nI hL), .ref ct, .int (nI tt), .int (nI hv), .int (nI lo), .int (nI hi), .int (nI wt), .ref bt, .int (nI bL), .ref cs, .ref gv, .int (nI gL), .int (nI tk), .int (nI vv), .ref rd, .int (nI rM), .ref tx, .int (nI tL), .int (nI pl)]))]) 0 0 := by
  refine MI.start (by decide) (Nat.le_of_ble_eq_true rfl) (lv0 := [(0, .ref m9), (1, .int (nI w)), (2, .int (nI x))]) rfl ?_
  intro pp9 ee9 ss9 mm9 args9 below9 meth9 co9 A9 Q9 hQ hC hr hlk hnm
  refine V_iload_n hC dX9_set_0 rfl 1 rfl ?_
  refine V_if_ne (tgt := 16) hC (by omega) dX9_set_1 (by decide) (fun c1 => ?_) (fun c1 => ?_)
  · refine V_iload_n hC dX9_set_16 rfl 1 rfl ?_
    refine V_iconst (v := nI 1) hC dX9_set_17 (by decide) ?_
    refine V_icmp_ne (tgt := 39) hC (by omega) (by omega) dX9_set_18 (by decide) (fun c18 => ?_) (fun c18 => ?_)
    · refine V_iconst (v := nI 0) hC dX9_set_39 (by decide) ?_
      refine V_istore_n (lv2 := [(0, .ref m9), (1, .int (nI w)), (2, .int (nI x)), (3, .int (nI 0))]) hC dX9_set_40 rfl (by decide) [1, 2, 3, 0] rfl ?_
      refine V_iload_n hC dX9_set_41 rfl 3 rfl ?_
      refine V_if_ne_F (tgt := 47) hC dX9_set_42 (by decide) ((congrArg nI (show 0 = 0 by omega)).trans nI_0) ?_
      refine V_iconst (v := -1) hC dX9_set_45 (by decide) ?_
      subst hQ
      exact V_iret hC hr hlk rfl (by decide) (by decide) dX9_set_46 (()) [0] rfl (by decide) (⟨rfl, trivial⟩)
    · refine V_iload_n hC dX9_set_21 rfl 2 rfl ?_
      refine V_i2l (v := lN x) hC dX9_set_22 (nI_l (by omega)) ?_
      refine V_ldc2 (v2 := lN 32) hC dX9_set_23 cstl_X9_119 rfl ?_
      refine V_ldc2 (v2 := lN 2000) hC dX9_set_26 cstl_X9_121 rfl ?_
      refine V_calliS (As := [.long (lN x), .long (lN 32), .long (lN 2000)]) (rest := []) (wr := [(m9, .inr (9, [.ref al, .ref hs, .int (nI hL), .ref ct, .int (nI tt), .int (nI hv), .int (nI lo), .int (nI hi), .int (nI wt), .ref bt, .int (nI bL), .ref cs, .ref gv, .int (nI gL), .int (nI tk), .int (nI vv), .ref rd, .int (nI rM), .ref tx, .int (nI tL), .int (nI pl)]))]) hC (c_X9_in l D cI cQ x 32 2000 (by omega) (by omega) (by omega)) mok_X9_in ml_X9_102 rfl rfl rfl (by decide) (by decide) (by decide) (Nat.le_of_ble_eq_true rfl) [] [0] rfl (by decide) rfl (by decide) (by decide) dX9_set_29 rfl (fun r9 u9 h29 => ?_)
      obtain ⟨u_1, rfl⟩ : ∃ z, z = u9 := ⟨_, rfl⟩
      obtain ⟨rfl, h29⟩ := h29
      have h29 : (u_1 = 1 ∧ 32 ≤ x ∧ x ≤ 2000) ∨ (u_1 = 0 ∧ (x < 32 ∨ 2000 < x)) := h29
      refine V_perm (ws2 := [(m9, .inr (9, [.ref al, .ref hs, .int (nI hL), .ref ct, .int (nI tt), .int (nI hv), .int (nI lo), .int (nI hi), .int (nI wt), .ref bt, .int (nI bL), .ref cs, .ref gv, .int (nI gL), .int (nI tk), .int (nI vv), .ref rd, .int (nI rM), .ref tx, .int (nI tL), .int (nI pl)]))]) [0] rfl (by decide) ?_
      refine V_if_eq (tgt := 39) hC (by omega) dX9_set_32 (by decide) (fun c32 => ?_) (fun c32 => ?_)
      · refine V_iconst (v := nI 0) hC dX9_set_39 (by decide) ?_
        refine V_istore_n (lv2 := [(0, .ref m9), (1, .int (nI w)), (2, .int (nI x)), (3, .int (nI 0))]) hC dX9_set_40 rfl (by decide) [1, 2, 3, 0] rfl ?_
        refine V_iload_n hC dX9_set_41 rfl 3 rfl ?_
        refine V_if_ne_F (tgt := 47) hC dX9_set_42 (by decide) ((congrArg nI (show 0 = 0 by omega)).trans nI_0) ?_
        refine V_iconst (v := -1) hC dX9_set_45 (by decide) ?_
        subst hQ
        exact V_iret hC hr hlk rfl (by decide) (by decide) dX9_set_46 (()) [0] rfl (by decide) (⟨rfl, trivial⟩)
      · refine V_iconst (v := nI 1) hC dX9_set_35 (by decide) ?_
        refine V_goto (tgt := 40) hC dX9_set_36 (by decide) ?_
        refine V_istore_n (lv2 := [(0, .ref m9), (1, .int (nI w)), (2, .int (nI x)), (3, .int (nI 1))]) hC dX9_set_40 rfl (by decide) [1, 2, 3, 0] rfl ?_
        refine V_iload_n hC dX9_set_41 rfl 3 rfl ?_
        refine V_if_ne_T (tgt := 47) hC dX9_set_42 (by decide) (nI_ne0 (by omega) (by omega)) ?_
        exact False.elim (by omega)
  · refine V_iload_n hC dX9_set_4 rfl 2 rfl ?_
    refine V_i2l (v := lN x) hC dX9_set_5 (nI_l (by omega)) ?_
    refine V_lconst (v := lN 1) hC dX9_set_6 rfl ?_
    refine V_ldc2 (v2 := lN 64) hC dX9_set_7 cstl_X9_117 rfl ?_
    refine V_calliS (As := [.long (lN x), .long (lN 1), .long (lN 64)]) (rest := []) (wr := [(m9, .inr (9, [.ref al, .ref hs, .int (nI hL), .ref ct, .int (nI tt), .int (nI hv), .int (nI lo), .int (nI hi), .int (nI wt), .ref bt, .int (nI bL), .ref cs, .ref gv, .int (nI gL), .int (nI tk), .int (nI vv), .ref rd, .int (nI rM), .ref tx, .int (nI tL), .int (nI pl)]))]) hC (c_X9_in l D cI cQ x 1 64 (by omega) (by omega) (by omega)) mok_X9_in ml_X9_102 rfl rfl rfl (by decide) (by decide) (by decide) (Nat.le_of_ble_eq_true rfl) [] [0] rfl (by decide) rfl (by decide) (by decide) dX9_set_10 rfl (fun r9 u9 h10 => ?_)
    obtain ⟨u_2, rfl⟩ : ∃ z, z = u9 := ⟨_, rfl⟩
    obtain ⟨rfl, h10⟩ := h10
    have h10 : (u_2 = 1 ∧ 1 ≤ x ∧ x ≤ 64) ∨ (u_2 = 0 ∧ (x < 1 ∨ 64 < x)) := h10
    refine V_perm (ws2 := [(m9, .inr (9, [.ref al, .ref hs, .int (nI hL), .ref ct, .int (nI tt), .int (nI hv), .int (nI lo), .int (nI hi), .int (nI wt), .ref bt, .int (nI bL), .ref cs, .ref gv, .int (nI gL), .int (nI tk), .int (nI vv), .ref rd, .int (nI rM), .ref tx, .int (nI tL), .int (nI pl)]))]) [0] rfl (by decide) ?_
    refine V_goto (tgt := 40) hC dX9_set_13 (by decide) ?_
    refine V_istore_n (lv2 := [(0, .ref m9), (1, .int (nI w)), (2, .int (nI x)), (3, .int (nI u_2))]) hC dX9_set_40 rfl (by decide) [1, 2, 3, 0] rfl ?_
    refine V_iload_n hC dX9_set_41 rfl 3 rfl ?_
    refine V_if_ne (tgt := 47) hC (by omega) dX9_set_42 (by decide) (fun c42 => ?_) (fun c42 => ?_)
    · exact False.elim (by omega)
    · refine V_iconst (v := -1) hC dX9_set_45 (by decide) ?_
      subst hQ
      exact V_iret hC hr hlk rfl (by decide) (by decide) dX9_set_46 (()) [0] rfl (by decide) (⟨rfl, trivial⟩)
abbrev rm_X9_set_0 : Room := { frames := 1, cells := 0, slots := 0, locals := 25 }
set_option maxHeartbeats 4000000 in
set_option maxRecDepth 100000 in
theorem c_X9_set_0 (l : Launch) (D : va_G) (cI cQ : ClassId) (m9 al hs hL ct tt hv lo hi wt bt bL cs gv gL tk vv rd rM tx tL pl n e p b x : Nat) (g fh : Nat → Nat) (hx : 1 ≤ x ∧ x ≤ 64) (hz : hL ≤ 4) : MI l yX9_set cX9_set 6 (some .int) rm_X9_set_0 D (TY cI cQ) [.ref m9, .int (nI 0), .int (nI x)] [(m9, .inr (9, [.ref al, .ref hs, .int (nI hL), .ref ct, .int (nI tt), .int (nI hv), .int (nI lo), .int (nI hi), .int (nI wt), .ref bt, .int (nI bL), .ref cs, .ref gv, .int (nI gL), .int (nI tk), .int (nI vv), .ref rd, .int (nI rM), .ref tx, .int (nI tL), .int (nI pl)])), (al, .inl (cI, 44, .inl (fun j => nI ((allF g n e p b) j)))), (hs, .inl (cI, 176, .inl (fun j => nI (fh j))))] (fun (r9 : Int32) (u : (Nat → Nat)) => r9 = (nI p) ∧ (∀ k, k < hsz hL → ∀ j, j < 44 → HB u k j = hup (HB fh) hL (allF g n e p b) k j)) (fun (u : (Nat → Nat)) => [(m9, .inr (9, [.ref al, .ref hs, .int (nI (hsz hL)), .ref ct, .int (nI tt), .int (nI hv), .int (nI lo), .int (nI hi), .int (nI wt), .ref bt, .int (nI bL), .ref cs, .ref gv, .int (nI gL), .int (nI tk), .int (nI vv), .ref rd, .int (nI rM), .ref tx, .int (nI tL), .int (nI pl)])), (al, .inl (cI, 44, .inl (fun j => nI ((allF g 0 0 x b) j)))), (hs, .inl (cI, 176, .inl (fun j => nI (u j))))]) 0 0 := by
  refine MI.start (by decide) (Nat.le_of_ble_eq_true rfl) (lv0 := [(0, .ref m9), (1, .int (nI 0)), (2, .int (nI x))]) rfl ?_
  intro pp9 ee9 ss9 mm9 args9 below9 meth9 co9 A9 Q9 hQ hC hr hlk hnm
  refine V_iload_n hC dX9_set_0 rfl 1 rfl ?_
  refine V_if_ne_F (tgt := 16) hC dX9_set_1 (by decide) ((congrArg nI (show 0 = 0 by omega)).trans nI_0) ?_
  refine V_iload_n hC dX9_set_4 rfl 2 rfl ?_
  refine V_i2l (v := lN x) hC dX9_set_5 (nI_l (by omega)) ?_
  refine V_lconst (v := lN 1) hC dX9_set_6 rfl ?_
  refine V_ldc2 (v2 := lN 64) hC dX9_set_7 cstl_X9_117 rfl ?_
  refine V_calliS (As := [.long (lN x), .long (lN 1), .long (lN 64)]) (rest := []) (wr := [(m9, .inr (9, [.ref al, .ref hs, .int (nI hL), .ref ct, .int (nI tt), .int (nI hv), .int (nI lo), .int (nI hi), .int (nI wt), .ref bt, .int (nI bL), .ref cs, .ref gv, .int (nI gL), .int (nI tk), .int (nI vv), .ref rd, .int (nI rM), .ref tx, .int (nI tL), .int (nI pl)])), (al, .inl (cI, 44, .inl (fun j => nI ((allF g n e p b) j)))), (hs, .inl (cI, 176, .inl (fun j => nI (fh j))))]) hC (c_X9_in l D cI cQ x 1 64 (by omega) (by omega) (by omega)) mok_X9_in ml_X9_102 rfl rfl rfl (by decide) (by decide) (by decide) (Nat.le_of_ble_eq_true rfl) [] [0, 1, 2] rfl (by decide) rfl (by decide) (by decide) dX9_set_10 rfl (fun r9 u9 h10 => ?_)
  obtain ⟨u_1, rfl⟩ : ∃ z, z = u9 := ⟨_, rfl⟩
  obtain ⟨rfl, h10⟩ := h10
  have h10 : (u_1 = 1 ∧ 1 ≤ x ∧ x ≤ 64) ∨ (u_1 = 0 ∧ (x < 1 ∨ 64 < x)) := h10
  refine V_perm (ws2 := [(m9, .inr (9, [.ref al, .ref hs, .int (nI hL), .ref ct, .int (nI tt), .int (nI hv), .int (nI lo), .int (nI hi), .int (nI wt), .ref bt, .int (nI bL), .ref cs, .ref gv, .int (nI gL), .int (nI tk), .int (nI vv), .ref rd, .int (nI rM), .ref tx, .int (nI tL), .int (nI pl)])), (al, .inl (cI, 44, .inl (fun j => nI ((allF g n e p b) j)))), (hs, .inl (cI, 176, .inl (fun j => nI (fh j))))]) [0, 1, 2] rfl (by decide) ?_
  refine V_goto (tgt := 40) hC dX9_set_13 (by decide) ?_
  refine V_istore_n (lv2 := [(0, .ref m9), (1, .int (nI 0)), (2, .int (nI x)), (3, .int (nI u_1))]) hC dX9_set_40 rfl (by decide) [1, 2, 3, 0] rfl ?_
  refine V_iload_n hC dX9_set_41 rfl 3 rfl ?_
  refine V_if_ne (tgt := 47) hC (by omega) dX9_set_42 (by decide) (fun c42 => ?_) (fun c42 => ?_)
  · refine V_aload_n hC dX9_set_47 rfl 0 rfl ?_
    refine V_callvV (As := []) (rest := []) (wr := []) hC (c_X9_record l D cI cQ m9 al hs hL ct tt hv lo hi wt bt bL cs gv gL tk vv rd rM tx tL pl n e p b g fh (by omega)) mok_X9_record ml_X9_106 (q1 := 0) rfl cls_X9 rfl rfl rfl (by decide) (by decide) (by decide) (Nat.le_of_ble_eq_true rfl) [0, 1, 2] [] rfl (by decide) rfl (by decide) (by decide) dX9_set_48 rfl (fun u9 h48 => ?_)
    obtain ⟨fh2_2, rfl⟩ : ∃ z, z = u9 := ⟨_, rfl⟩
    have h48 : ∀ k, k < hsz hL → ∀ j, j < 44 → HB fh2_2 k j = hup (HB fh) hL (allF g n e p b) k j := h48
    refine V_perm (ws2 := [(m9, .inr (9, [.ref al, .ref hs, .int (nI (hsz hL)), .ref ct, .int (nI tt), .int (nI hv), .int (nI lo), .int (nI hi), .int (nI wt), .ref bt, .int (nI bL), .ref cs, .ref gv, .int (nI gL), .int (nI tk), .int (nI vv), .ref rd, .int (nI rM), .ref tx, .int (nI tL), .int (nI pl)])), (al, .inl (cI, 44, .inl (fun j => nI ((allF g n e p b) j)))), (hs, .inl (cI, 176, .inl (fun j => nI (fh2_2 j))))]) [0, 1, 2] rfl (by decide) ?_
    refine V_aload_n hC dX9_set_51 rfl 0 rfl ?_
    refine V_get (ci := 9) (v := .ref al) hC in_X9 0 rfl cls_X9 0 (by decide) fl_X9_7 rfl dX9_set_52 ?_
    refine V_iload_n hC dX9_set_55 rfl 1 rfl ?_
    refine V_iald hC 1 0 rfl rfl (by omega) (by decide) dX9_set_56 ?_
    refine V_st (st2 := [.int (nI p)]) (by rw [show ((allF g n e p b) 0) = (p) from rfl]) ?_
    refine V_istore (lv2 := [(0, .ref m9), (1, .int (nI 0)), (2, .int (nI x)), (3, .int (nI u_1)), (4, .int (nI p))]) hC dX9_set_57 (by decide) [1, 2, 3, 4, 0] rfl ?_
    refine V_aload_n hC dX9_set_59 rfl 0 rfl ?_
    refine V_get (ci := 9) (v := .ref al) hC in_X9 0 rfl cls_X9 0 (by decide) fl_X9_7 rfl dX9_set_60 ?_
    refine V_iload_n hC dX9_set_63 rfl 1 rfl ?_
    refine V_iload_n hC dX9_set_64 rfl 2 rfl ?_
    refine V_iast hC 1 0 rfl rfl (by omega) (by decide) dX9_set_65 (ws2 := [(m9, .inr (9, [.ref al, .ref hs, .int (nI (hsz hL)), .ref ct, .int (nI tt), .int (nI hv), .int (nI lo), .int (nI hi), .int (nI wt), .ref bt, .int (nI bL), .ref cs, .ref gv, .int (nI gL), .int (nI tk), .int (nI vv), .ref rd, .int (nI rM), .ref tx, .int (nI tL), .int (nI pl)])), (al, .inl (cI, 44, .inl (fun j => nI ((va_up (allF g n e p b) 0 x) j)))), (hs, .inl (cI, 176, .inl (fun j => nI (fh2_2 j))))]) rfl ?_
    refine V_ws (ws2 := [(m9, .inr (9, [.ref al, .ref hs, .int (nI (hsz hL)), .ref ct, .int (nI tt), .int (nI hv), .int (nI lo), .int (nI hi), .int (nI wt), .ref bt, .int (nI bL), .ref cs, .ref gv, .int (nI gL), .int (nI tk), .int (nI vv), .ref rd, .int (nI rM), .ref tx, .int (nI tL), .int (nI pl)])), (al, .inl (cI, 44, .inl (fun j => nI ((allF g n e x b) j)))), (hs, .inl (cI, 176, .inl (fun j => nI (fh2_2 j))))]) (by rw [show va_up (allF g n e p b) 0 x = allF g n e x b from allF_up0 _ _ _ _ _ _]) ?_
    refine V_aload_n hC dX9_set_66 rfl 0 rfl ?_
    refine V_calliV (As := []) (rest := []) (wr := [(hs, .inl (cI, 176, .inl (fun j => nI (fh2_2 j))))]) hC (c_X9_begins l D cI cQ m9 al hs (hsz hL) ct tt hv lo hi wt bt bL cs gv gL tk vv rd rM tx tL pl n e x b g ) mok_X9_begins ml_X9_112 (q1 := 0) rfl cls_X9 rfl rfl rfl (by decide) (by decide) (by decide) (Nat.le_of_ble_eq_true rfl) [0, 1] [2] rfl (by decide) rfl (by decide) (by decide) dX9_set_67 rfl (fun r9 u9 h67 => ?_)
    obtain ⟨rfl, h67⟩ := h67
    clear h67
    refine V_perm (ws2 := [(m9, .inr (9, [.ref al, .ref hs, .int (nI ((hsz hL))), .ref ct, .int (nI tt), .int (nI hv), .int (nI lo), .int (nI hi), .int (nI wt), .ref bt, .int (nI bL), .ref cs, .ref gv, .int (nI gL), .int (nI tk), .int (nI vv), .ref rd, .int (nI rM), .ref tx, .int (nI tL), .int (nI pl)])), (al, .inl (cI, 44, .inl (fun j => nI ((allF g 0 0 x b) j)))), (hs, .inl (cI, 176, .inl (fun j => nI (fh2_2 j))))]) [1, 2, 0] rfl (by decide) ?_
    refine V_istore (lv2 := [(0, .ref m9), (1, .int (nI 0)), (2, .int (nI x)), (3, .int (nI u_1)), (4, .int (nI p)), (5, .int (nI n))]) hC dX9_set_70 (by decide) [1, 2, 3, 4, 5, 0] rfl ?_
    refine V_iload hC dX9_set_72 4 rfl ?_
    subst hQ
    exact V_iret hC hr hlk rfl (by decide) (by decide) dX9_set_74 (fh2_2) [0, 1, 2] rfl (by decide) (⟨rfl, h48⟩)
  · exact False.elim (by omega)
abbrev rm_X9_set_1 : Room := { frames := 1, cells := 0, slots := 0, locals := 25 }
set_option maxHeartbeats 4000000 in
set_option maxRecDepth 100000 in
theorem c_X9_set_1 (l : Launch) (D : va_G) (cI cQ : ClassId) (m9 al hs hL ct tt hv lo hi wt bt bL cs gv gL tk vv rd rM tx tL pl n e p b x : Nat) (g fh : Nat → Nat) (hx : 32 ≤ x ∧ x ≤ 2000) (hz : hL ≤ 4) : MI l yX9_set cX9_set 6 (some .int) rm_X9_set_1 D (TY cI cQ) [.ref m9, .int (nI 1), .int (nI x)] [(m9, .inr (9, [.ref al, .ref hs, .int (nI hL), .ref ct, .int (nI tt), .int (nI hv), .int (nI lo), .int (nI hi), .int (nI wt), .ref bt, .int (nI bL), .ref cs, .ref gv, .int (nI gL), .int (nI tk), .int (nI vv), .ref rd, .int (nI rM), .ref tx, .int (nI tL), .int (nI pl)])), (al, .inl (cI, 44, .inl (fun j => nI ((allF g n e p b) j)))), (hs, .inl (cI, 176, .inl (fun j => nI (fh j))))] (fun (r9 : Int32) (u : (Nat → Nat)) => r9 = (nI b) ∧ (∀ k, k < hsz hL → ∀ j, j < 44 → HB u k j = hup (HB fh) hL (allF g n e p b) k j)) (fun (u : (Nat → Nat)) => [(m9, .inr (9, [.ref al, .ref hs, .int (nI (hsz hL)), .ref ct, .int (nI tt), .int (nI hv), .int (nI lo), .int (nI hi), .int (nI wt), .ref bt, .int (nI bL), .ref cs, .ref gv, .int (nI gL), .int (nI tk), .int (nI vv), .ref rd, .int (nI rM), .ref tx, .int (nI tL), .int (nI pl)])), (al, .inl (cI, 44, .inl (fun j => nI ((allF g 0 0 p x) j)))), (hs, .inl (cI, 176, .inl (fun j => nI (u j))))]) 0 0 := by
  refine MI.start (by decide) (Nat.le_of_ble_eq_true rfl) (lv0 := [(0, .ref m9), (1, .int (nI 1)), (2, .int (nI x))]) rfl ?_
  intro pp9 ee9 ss9 mm9 args9 below9 meth9 co9 A9 Q9 hQ hC hr hlk hnm
  refine V_iload_n hC dX9_set_0 rfl 1 rfl ?_
  refine V_if_ne_T (tgt := 16) hC dX9_set_1 (by decide) (nI_ne0 (by omega) (by omega)) ?_
  refine V_iload_n hC dX9_set_16 rfl 1 rfl ?_
  refine V_iconst (v := nI 1) hC dX9_set_17 (by decide) ?_
  refine V_icmp_ne_F (tgt := 39) hC dX9_set_18 (by decide) (congrArg nI (show 1 = 1 by omega)) ?_
  refine V_iload_n hC dX9_set_21 rfl 2 rfl ?_
  refine V_i2l (v := lN x) hC dX9_set_22 (nI_l (by omega)) ?_
  refine V_ldc2 (v2 := lN 32) hC dX9_set_23 cstl_X9_119 rfl ?_
  refine V_ldc2 (v2 := lN 2000) hC dX9_set_26 cstl_X9_121 rfl ?_
  refine V_calliS (As := [.long (lN x), .long (lN 32), .long (lN 2000)]) (rest := []) (wr := [(m9, .inr (9, [.ref al, .ref hs, .int (nI hL), .ref ct, .int (nI tt), .int (nI hv), .int (nI lo), .int (nI hi), .int (nI wt), .ref bt, .int (nI bL), .ref cs, .ref gv, .int (nI gL), .int (nI tk), .int (nI vv), .ref rd, .int (nI rM), .ref tx, .int (nI tL), .int (nI pl)])), (al, .inl (cI, 44, .inl (fun j => nI ((allF g n e p b) j)))), (hs, .inl (cI, 176, .inl (fun j => nI (fh j))))]) hC (c_X9_in l D cI cQ x 32 2000 (by omega) (by omega) (by omega)) mok_X9_in ml_X9_102 rfl rfl rfl (by decide) (by decide) (by decide) (Nat.le_of_ble_eq_true rfl) [] [0, 1, 2] rfl (by decide) rfl (by decide) (by decide) dX9_set_29 rfl (fun r9 u9 h29 => ?_)
  obtain ⟨u_1, rfl⟩ : ∃ z, z = u9 := ⟨_, rfl⟩
  obtain ⟨rfl, h29⟩ := h29
  have h29 : (u_1 = 1 ∧ 32 ≤ x ∧ x ≤ 2000) ∨ (u_1 = 0 ∧ (x < 32 ∨ 2000 < x)) := h29
  refine V_perm (ws2 := [(m9, .inr (9, [.ref al, .ref hs, .int (nI hL), .ref ct, .int (nI tt), .int (nI hv), .int (nI lo), .int (nI hi), .int (nI wt), .ref bt, .int (nI bL), .ref cs, .ref gv, .int (nI gL), .int (nI tk), .int (nI vv), .ref rd, .int (nI rM), .ref tx, .int (nI tL), .int (nI pl)])), (al, .inl (cI, 44, .inl (fun j => nI ((allF g n e p b) j)))), (hs, .inl (cI, 176, .inl (fun j => nI (fh j))))]) [0, 1, 2] rfl (by decide) ?_
  refine V_if_eq (tgt := 39) hC (by omega) dX9_set_32 (by decide) (fun c32 => ?_) (fun c32 => ?_)
  · refine V_iconst (v := nI 0) hC dX9_set_39 (by decide) ?_
    refine V_istore_n (lv2 := [(0, .ref m9), (1, .int (nI 1)), (2, .int (nI x)), (3, .int (nI 0))]) hC dX9_set_40 rfl (by decide) [1, 2, 3, 0] rfl ?_
    refine V_iload_n hC dX9_set_41 rfl 3 rfl ?_
    refine V_if_ne_F (tgt := 47) hC dX9_set_42 (by decide) ((congrArg nI (show 0 = 0 by omega)).trans nI_0) ?_
    exact False.elim (by omega)
  · refine V_iconst (v := nI 1) hC dX9_set_35 (by decide) ?_
    refine V_goto (tgt := 40) hC dX9_set_36 (by decide) ?_
    refine V_istore_n (lv2 := [(0, .ref m9), (1, .int (nI 1)), (2, .int (nI x)), (3, .int (nI 1))]) hC dX9_set_40 rfl (by decide) [1, 2, 3, 0] rfl ?_
    refine V_iload_n hC dX9_set_41 rfl 3 rfl ?_
    refine V_if_ne_T (tgt := 47) hC dX9_set_42 (by decide) (nI_ne0 (by omega) (by omega)) ?_
    refine V_aload_n hC dX9_set_47 rfl 0 rfl ?_
    refine V_callvV (As := []) (rest := []) (wr := []) hC (c_X9_record l D cI cQ m9 al hs hL ct tt hv lo hi wt bt bL cs gv gL tk vv rd rM tx tL pl n e p b g fh (by omega)) mok_X9_record ml_X9_106 (q1 := 0) rfl cls_X9 rfl rfl rfl (by decide) (by decide) (by decide) (Nat.le_of_ble_eq_true rfl) [0, 1, 2] [] rfl (by decide) rfl (by decide) (by decide) dX9_set_48 rfl (fun u9 h48 => ?_)
    obtain ⟨fh2_2, rfl⟩ : ∃ z, z = u9 := ⟨_, rfl⟩
    have h48 : ∀ k, k < hsz hL → ∀ j, j < 44 → HB fh2_2 k j = hup (HB fh) hL (allF g n e p b) k j := h48
    refine V_perm (ws2 := [(m9, .inr (9, [.ref al, .ref hs, .int (nI (hsz hL)), .ref ct, .int (nI tt), .int (nI hv), .int (nI lo), .int (nI hi), .int (nI wt), .ref bt, .int (nI bL), .ref cs, .ref gv, .int (nI gL), .int (nI tk), .int (nI vv), .ref rd, .int (nI rM), .ref tx, .int (nI tL), .int (nI pl)])), (al, .inl (cI, 44, .inl (fun j => nI ((allF g n e p b) j)))), (hs, .inl (cI, 176, .inl (fun j => nI (fh2_2 j))))]) [0, 1, 2] rfl (by decide) ?_
    refine V_aload_n hC dX9_set_51 rfl 0 rfl ?_
    refine V_get (ci := 9) (v := .ref al) hC in_X9 0 rfl cls_X9 0 (by decide) fl_X9_7 rfl dX9_set_52 ?_
    refine V_iload_n hC dX9_set_55 rfl 1 rfl ?_
    refine V_iald hC 1 0 rfl rfl (by omega) (by decide) dX9_set_56 ?_
    refine V_st (st2 := [.int (nI b)]) (by rw [show ((allF g n e p b) 1) = (b) from rfl]) ?_
    refine V_istore (lv2 := [(0, .ref m9), (1, .int (nI 1)), (2, .int (nI x)), (3, .int (nI 1)), (4, .int (nI b))]) hC dX9_set_57 (by decide) [1, 2, 3, 4, 0] rfl ?_
    refine V_aload_n hC dX9_set_59 rfl 0 rfl ?_
    refine V_get (ci := 9) (v := .ref al) hC in_X9 0 rfl cls_X9 0 (by decide) fl_X9_7 rfl dX9_set_60 ?_
    refine V_iload_n hC dX9_set_63 rfl 1 rfl ?_
    refine V_iload_n hC dX9_set_64 rfl 2 rfl ?_
    refine V_iast hC 1 0 rfl rfl (by omega) (by decide) dX9_set_65 (ws2 := [(m9, .inr (9, [.ref al, .ref hs, .int (nI (hsz hL)), .ref ct, .int (nI tt), .int (nI hv), .int (nI lo), .int (nI hi), .int (nI wt), .ref bt, .int (nI bL), .ref cs, .ref gv, .int (nI gL), .int (nI tk), .int (nI vv), .ref rd, .int (nI rM), .ref tx, .int (nI tL), .int (nI pl)])), (al, .inl (cI, 44, .inl (fun j => nI ((va_up (allF g n e p b) 1 x) j)))), (hs, .inl (cI, 176, .inl (fun j => nI (fh2_2 j))))]) rfl ?_
    refine V_ws (ws2 := [(m9, .inr (9, [.ref al, .ref hs, .int (nI (hsz hL)), .ref ct, .int (nI tt), .int (nI hv), .int (nI lo), .int (nI hi), .int (nI wt), .ref bt, .int (nI bL), .ref cs, .ref gv, .int (nI gL), .int (nI tk), .int (nI vv), .ref rd, .int (nI rM), .ref tx, .int (nI tL), .int (nI pl)])), (al, .inl (cI, 44, .inl (fun j => nI ((allF g n e p x) j)))), (hs, .inl (cI, 176, .inl (fun j => nI (fh2_2 j))))]) (by rw [show va_up (allF g n e p b) 1 x = allF g n e p x from allF_up1 _ _ _ _ _ _]) ?_
    refine V_aload_n hC dX9_set_66 rfl 0 rfl ?_
    refine V_calliV (As := []) (rest := []) (wr := [(hs, .inl (cI, 176, .inl (fun j => nI (fh2_2 j))))]) hC (c_X9_begins l D cI cQ m9 al hs (hsz hL) ct tt hv lo hi wt bt bL cs gv gL tk vv rd rM tx tL pl n e p x g ) mok_X9_begins ml_X9_112 (q1 := 0) rfl cls_X9 rfl rfl rfl (by decide) (by decide) (by decide) (Nat.le_of_ble_eq_true rfl) [0, 1] [2] rfl (by decide) rfl (by decide) (by decide) dX9_set_67 rfl (fun r9 u9 h67 => ?_)
    obtain ⟨rfl, h67⟩ := h67
    clear h67
    refine V_perm (ws2 := [(m9, .inr (9, [.ref al, .ref hs, .int (nI ((hsz hL))), .ref ct, .int (nI tt), .int (nI hv), .int (nI lo), .int (nI hi), .int (nI wt), .ref bt, .int (nI bL), .ref cs, .ref gv, .int (nI gL), .int (nI tk), .int (nI vv), .ref rd, .int (nI rM), .ref tx, .int (nI tL), .int (nI pl)])), (al, .inl (cI, 44, .inl (fun j => nI ((allF g 0 0 p x) j)))), (hs, .inl (cI, 176, .inl (fun j => nI (fh2_2 j))))]) [1, 2, 0] rfl (by decide) ?_
    refine V_istore (lv2 := [(0, .ref m9), (1, .int (nI 1)), (2, .int (nI x)), (3, .int (nI 1)), (4, .int (nI b)), (5, .int (nI n))]) hC dX9_set_70 (by decide) [1, 2, 3, 4, 5, 0] rfl ?_
    refine V_iload hC dX9_set_72 4 rfl ?_
    subst hQ
    exact V_iret hC hr hlk rfl (by decide) (by decide) dX9_set_74 (fh2_2) [0, 1, 2] rfl (by decide) (⟨rfl, h48⟩)
abbrev rm_X9_undo_empty : Room := { frames := 0, cells := 0, slots := 0, locals := 0 }
set_option maxHeartbeats 4000000 in
set_option maxRecDepth 100000 in
theorem c_X9_undo_empty (l : Launch) (D : va_G) (cI cQ : ClassId) (m9 al hs hL ct tt hv lo hi wt bt bL cs gv gL tk vv rd rM tx tL pl : Nat) (hz : hL = 0) : MI l yX9_undo cX9_undo 2 (some .int) rm_X9_undo_empty D (TY cI cQ) [.ref m9] [(m9, .inr (9, [.ref al, .ref hs, .int (nI hL), .ref ct, .int (nI tt), .int (nI hv), .int (nI lo), .int (nI hi), .int (nI wt), .ref bt, .int (nI bL), .ref cs, .ref gv, .int (nI gL), .int (nI tk), .int (nI vv), .ref rd, .int (nI rM), .ref tx, .int (nI tL), .int (nI pl)]))] (fun (r9 : Int32) (u : Unit) => r9 = (-2) ∧ (True)) (fun (u : Unit) => [(m9, .inr (9, [.ref al, .ref hs, .int (nI hL), .ref ct, .int (nI tt), .int (nI hv), .int (nI lo), .int (nI hi), .int (nI wt), .ref bt, .int (nI bL), .ref cs, .ref gv, .int (nI gL), .int (nI tk), .int (nI vv), .ref rd, .int (nI rM), .ref tx, .int (nI tL), .int (nI pl)]))]) 0 0 := by
  refine MI.start (by decide) (Nat.le_of_ble_eq_true rfl) (lv0 := [(0, .ref m9)]) rfl ?_
  intro pp9 ee9 ss9 mm9 args9 below9 meth9 co9 A9 Q9 hQ hC hr hlk hnm
  refine V_aload_n hC dX9_undo_0 rfl 0 rfl ?_
  refine V_get (ci := 9) (v := .int (nI hL)) hC in_X9 0 rfl cls_X9 2 (by decide) fl_X9_34 rfl dX9_undo_1 ?_
  refine V_if_ne (tgt := 10) hC (by omega) dX9_undo_4 (by decide) (fun c4 => ?_) (fun c4 => ?_)
  · exact False.elim (by omega)
  · refine V_bipush (v := -2) hC dX9_undo_7 (by decide) ?_
    subst hQ
    exact V_iret hC hr hlk rfl (by decide) (by decide) dX9_undo_9 (()) [0] rfl (by decide) (⟨rfl, trivial⟩)
abbrev rm_X9_undo_ok : Room := { frames := 0, cells := 0, slots := 0, locals := 0 }
set_option maxHeartbeats 4000000 in
set_option maxRecDepth 100000 in
theorem c_X9_undo_ok (l : Launch) (D : va_G) (cI cQ : ClassId) (m9 al hs hL ct tt hv lo hi wt bt bL cs gv gL tk vv rd rM tx tL pl n2 e2 p2 b2 : Nat) (f g2 fh : Nat → Nat) (hz : 1 ≤ hL ∧ hL ≤ 4) (hr9 : ∀ j, j < 44 → HB fh (hL - 1) j = allF g2 n2 e2 p2 b2 j) : MI l yX9_undo cX9_undo 2 (some .int) rm_X9_undo_ok D (TY cI cQ) [.ref m9] [(m9, .inr (9, [.ref al, .ref hs, .int (nI hL), .ref ct, .int (nI tt), .int (nI hv), .int (nI lo), .int (nI hi), .int (nI wt), .ref bt, .int (nI bL), .ref cs, .ref gv, .int (nI gL), .int (nI tk), .int (nI vv), .ref rd, .int (nI rM), .ref tx, .int (nI tL), .int (nI pl)])), (al, .inl (cI, 44, .inl (fun j => nI (f j)))), (hs, .inl (cI, 176, .inl (fun j => nI (fh j))))] (fun (r9 : Int32) (u : Unit) => r9 = (nI (hL - 1)) ∧ (True)) (fun (u : Unit) => [(m9, .inr (9, [.ref al, .ref hs, .int (nI (hL - 1)), .ref ct, .int (nI tt), .int (nI hv), .int (nI lo), .int (nI hi), .int (nI wt), .ref bt, .int (nI bL), .ref cs, .ref gv, .int (nI gL), .int (nI tk), .int (nI vv), .ref rd, .int (nI rM), .ref tx, .int (nI tL), .int (nI pl)])), (al, .inl (cI, 44, .inl (fun j => nI ((allF g2 n2 e2 p2 b2) j)))), (hs, .inl (cI, 176, .inl (fun j => nI (fh j))))]) 0 0 := by
  refine MI.start (by decide) (Nat.le_of_ble_eq_true rfl) (lv0 := [(0, .ref m9)]) rfl ?_
  intro pp9 ee9 ss9 mm9 args9 below9 meth9 co9 A9 Q9 hQ hC hr hlk hnm
  refine V_aload_n hC dX9_undo_0 rfl 0 rfl ?_
  refine V_get (ci := 9) (v := .int (nI hL)) hC in_X9 0 rfl cls_X9 2 (by decide) fl_X9_34 rfl dX9_undo_1 ?_
  refine V_if_ne (tgt := 10) hC (by omega) dX9_undo_4 (by decide) (fun c4 => ?_) (fun c4 => ?_)
  · refine V_aload_n hC dX9_undo_10 rfl 0 rfl ?_
    refine V_dup hC dX9_undo_11 rfl ?_
    refine V_get (ci := 9) (v := .int (nI hL)) hC in_X9 0 rfl cls_X9 2 (by decide) fl_X9_34 rfl dX9_undo_12 ?_
    refine V_iconst (v := nI 1) hC dX9_undo_15 (by decide) ?_
    refine V_isub hC dX9_undo_16 (by omega) ?_
    refine V_put (ci := 9) (v := .int (nI (hL - 1))) hC tyX9 tyX9_ok nmX9 in_X9 0 rfl cls_X9 2 (by decide) fl_X9_34 rfl rfl rfl (Nat.le_of_ble_eq_true rfl) dX9_undo_17 (ws2 := [(m9, .inr (9, [.ref al, .ref hs, .int (nI (hL - 1)), .ref ct, .int (nI tt), .int (nI hv), .int (nI lo), .int (nI hi), .int (nI wt), .ref bt, .int (nI bL), .ref cs, .ref gv, .int (nI gL), .int (nI tk), .int (nI vv), .ref rd, .int (nI rM), .ref tx, .int (nI tL), .int (nI pl)])), (al, .inl (cI, 44, .inl (fun j => nI (f j)))), (hs, .inl (cI, 176, .inl (fun j => nI (fh j))))]) rfl ?_
    refine V_iconst (v := nI 0) hC dX9_undo_20 (by decide) ?_
    refine V_istore_n (lv2 := [(0, .ref m9), (1, .int (nI 0))]) hC dX9_undo_21 rfl (by decide) [1, 0] rfl ?_
    have L22 : ∀ (n9 : Nat) (i : Nat) (f2 : Nat → Nat), (i ≤ 44) → (∀ j, j < i → f2 j = HB fh (hL - 1) j) → 44 - i < n9 → V pp9 l ee9 rm_X9_undo_ok ss9 mm9 args9 below9 meth9 co9 D A9 ss9.heap 2 Q9 [(m9, .inr (9, [.ref al, .ref hs, .int (nI (hL - 1)), .ref ct, .int (nI tt), .int (nI hv), .int (nI lo), .int (nI hi), .int (nI wt), .ref bt, .int (nI bL), .ref cs, .ref gv, .int (nI gL), .int (nI tk), .int (nI vv), .ref rd, .int (nI rM), .ref tx, .int (nI tL), .int (nI pl)])), (al, .inl (cI, 44, .inl (fun j => nI (f2 j)))), (hs, .inl (cI, 176, .inl (fun j => nI (fh j))))] [(0, .ref m9), (1, .int (nI i))] 0 0 22 [] := by
      intro n9
      induction n9 with
      | zero => intro i f2 h1 h2 h9; exact absurd h9 (Nat.not_lt_zero _)
      | succ n9 ih22 =>
        intro i f2 h1 h2 h9
        refine V_iload_n hC dX9_undo_22 rfl 1 rfl ?_
        refine V_bipush (v := nI 44) hC dX9_undo_23 (by decide) ?_
        refine V_icmp_ge (tgt := 54) hC (by omega) (by omega) dX9_undo_25 (by decide) (fun c25 => ?_) (fun c25 => ?_)
        · have hcg : ∀ j, j < 44 → f2 j = (allF g2 n2 e2 p2 b2) j := fun j hj => by rw [h2 j (by omega), hr9 j hj]
          refine V_cong (k := 1) (g := fun j => nI ((allF g2 n2 e2 p2 b2) j)) rfl (fun j hj => congrArg nI (hcg j hj)) (ws2 := [(m9, .inr (9, [.ref al, .ref hs, .int (nI (hL - 1)), .ref ct, .int (nI tt), .int (nI hv), .int (nI lo), .int (nI hi), .int (nI wt), .ref bt, .int (nI bL), .ref cs, .ref gv, .int (nI gL), .int (nI tk), .int (nI vv), .ref rd, .int (nI rM), .ref tx, .int (nI tL), .int (nI pl)])), (al, .inl (cI, 44, .inl (fun j => nI ((allF g2 n2 e2 p2 b2) j)))), (hs, .inl (cI, 176, .inl (fun j => nI (fh j))))]) rfl ?_
          clear hcg
          refine V_aload_n hC dX9_undo_54 rfl 0 rfl ?_
          refine V_get (ci := 9) (v := .int (nI (hL - 1))) hC in_X9 0 rfl cls_X9 2 (by decide) fl_X9_34 rfl dX9_undo_55 ?_
          subst hQ
          exact V_iret hC hr hlk rfl (by decide) (by decide) dX9_undo_58 (()) [0, 1, 2] rfl (by decide) (⟨rfl, trivial⟩)
        · refine V_aload_n hC dX9_undo_28 rfl 0 rfl ?_
          refine V_get (ci := 9) (v := .ref al) hC in_X9 0 rfl cls_X9 0 (by decide) fl_X9_7 rfl dX9_undo_29 ?_
          refine V_iload_n hC dX9_undo_32 rfl 1 rfl ?_
          refine V_aload_n hC dX9_undo_33 rfl 0 rfl ?_
          refine V_get (ci := 9) (v := .ref hs) hC in_X9 0 rfl cls_X9 1 (by decide) fl_X9_13 rfl dX9_undo_34 ?_
          refine V_bipush (v := nI 44) hC dX9_undo_37 (by decide) ?_
          refine V_aload_n hC dX9_undo_39 rfl 0 rfl ?_
          refine V_get (ci := 9) (v := .int (nI (hL - 1))) hC in_X9 0 rfl cls_X9 2 (by decide) fl_X9_34 rfl dX9_undo_40 ?_
          refine V_imul hC dX9_undo_43 ?_
          refine V_iload_n hC dX9_undo_44 rfl 1 rfl ?_
          refine V_iadd hC dX9_undo_45 ?_
          refine V_iald hC 2 0 rfl rfl (by omega) (by decide) dX9_undo_46 ?_
          refine V_iast hC 1 0 rfl rfl (by omega) (by decide) dX9_undo_47 (ws2 := [(m9, .inr (9, [.ref al, .ref hs, .int (nI (hL - 1)), .ref ct, .int (nI tt), .int (nI hv), .int (nI lo), .int (nI hi), .int (nI wt), .ref bt, .int (nI bL), .ref cs, .ref gv, .int (nI gL), .int (nI tk), .int (nI vv), .ref rd, .int (nI rM), .ref tx, .int (nI tL), .int (nI pl)])), (al, .inl (cI, 44, .inl (fun j => nI ((va_up f2 i (fh ((44 * (hL - 1)) + i))) j)))), (hs, .inl (cI, 176, .inl (fun j => nI (fh j))))]) rfl ?_
          refine V_iinc (v := (nI (i + 1))) (lv2 := [(0, .ref m9), (1, .int (nI (i + 1)))]) (q := 1) hC dX9_undo_48 rfl (nI_add _ _) (by decide) [1, 0] rfl ?_
          refine V_goto (tgt := 22) hC dX9_undo_51 (by decide) ?_
          exact ih22 (i + 1) (va_up f2 i (fh ((44 * (hL - 1)) + i))) (by omega) (lt_s (fun j hj => by rw [va_up_ne f2 _ (show j ≠ i by omega)]; exact h2 j hj) (va_up_self f2 i _)) (by omega)
    exact L22 _ 0 f (by omega) (fun j hj => absurd hj (Nat.not_lt_zero j)) (Nat.lt_succ_self _)
  · exact False.elim (by omega)
abbrev rm_X9_letter_neg : Room := { frames := 0, cells := 0, slots := 0, locals := 0 }
set_option maxHeartbeats 4000000 in
set_option maxRecDepth 100000 in
theorem c_X9_letter_neg (l : Launch) (D : va_G) (cI cQ : ClassId) (m9 al hs hL ct tt hv lo hi wt bt bL cs gv gL tk vv rd rM tx tL pl : Nat) (x : Int32) (hx : x.toInt < 0) : MI l yX9_letter cX9_letter 2 (some .int) rm_X9_letter_neg D (TY cI cQ) [.ref m9, .int (x)] [(m9, .inr (9, [.ref al, .ref hs, .int (nI hL), .ref ct, .int (nI tt), .int (nI hv), .int (nI lo), .int (nI hi), .int (nI wt), .ref bt, .int (nI bL), .ref cs, .ref gv, .int (nI gL), .int (nI tk), .int (nI vv), .ref rd, .int (nI rM), .ref tx, .int (nI tL), .int (nI pl)]))] (fun (r9 : Int32) (u : Unit) => r9 = (-1) ∧ (True)) (fun (u : Unit) => [(m9, .inr (9, [.ref al, .ref hs, .int (nI hL), .ref ct, .int (nI tt), .int (nI hv), .int (nI lo), .int (nI hi), .int (nI wt), .ref bt, .int (nI bL), .ref cs, .ref gv, .int (nI gL), .int (nI tk), .int (nI vv), .ref rd, .int (nI rM), .ref tx, .int (nI tL), .int (nI pl)]))]) 0 0 := by
  refine MI.start (by decide) (Nat.le_of_ble_eq_true rfl) (lv0 := [(0, .ref m9), (1, .int (x))]) rfl ?_
  intro pp9 ee9 ss9 mm9 args9 below9 meth9 co9 A9 Q9 hQ hC hr hlk hnm
  refine V_iload_n hC dX9_letter_0 rfl 1 rfl ?_
  refine V_if_ge_F (tgt := 6) hC dX9_letter_1 (by decide) (Int32.not_le.mpr (Int32.lt_iff_toInt_lt.mpr hx)) ?_
  refine V_iconst (v := -1) hC dX9_letter_4 (by decide) ?_
  subst hQ
  exact V_iret hC hr hlk rfl (by decide) (by decide) dX9_letter_5 (()) [0] rfl (by decide) (⟨rfl, trivial⟩)
abbrev rm_X9_letter_ok : Room := { frames := 0, cells := 0, slots := 0, locals := 0 }
set_option maxHeartbeats 4000000 in
set_option maxRecDepth 100000 in
theorem c_X9_letter_ok (l : Launch) (D : va_G) (cI cQ : ClassId) (m9 al hs hL ct tt hv lo hi wt bt bL cs gv gL tk vv rd rM tx tL pl n e p b i : Nat) (g : Nat → Nat) (hi9 : i < n) (hn : n ≤ 40) : MI l yX9_letter cX9_letter 2 (some .int) rm_X9_letter_ok D (TY cI cQ) [.ref m9, .int (nI i)] [(m9, .inr (9, [.ref al, .ref hs, .int (nI hL), .ref ct, .int (nI tt), .int (nI hv), .int (nI lo), .int (nI hi), .int (nI wt), .ref bt, .int (nI bL), .ref cs, .ref gv, .int (nI gL), .int (nI tk), .int (nI vv), .ref rd, .int (nI rM), .ref tx, .int (nI tL), .int (nI pl)])), (al, .inl (cI, 44, .inl (fun j => nI ((allF g n e p b) j))))] (fun (r9 : Int32) (u : Unit) => r9 = (nI (g i)) ∧ (True)) (fun (u : Unit) => [(m9, .inr (9, [.ref al, .ref hs, .int (nI hL), .ref ct, .int (nI tt), .int (nI hv), .int (nI lo), .int (nI hi), .int (nI wt), .ref bt, .int (nI bL), .ref cs, .ref gv, .int (nI gL), .int (nI tk), .int (nI vv), .ref rd, .int (nI rM), .ref tx, .int (nI tL), .int (nI pl)])), (al, .inl (cI, 44, .inl (fun j => nI ((allF g n e p b) j))))]) 0 0 := by
  refine MI.start (by decide) (Nat.le_of_ble_eq_true rfl) (lv0 := [(0, .ref m9), (1, .int (nI i))]) rfl ?_
  intro pp9 ee9 ss9 mm9 args9 below9 meth9 co9 A9 Q9 hQ hC hr hlk hnm
  refine V_iload_n hC dX9_letter_0 rfl 1 rfl ?_
  refine V_if_ge_T (tgt := 6) hC dX9_letter_1 (by decide) (nI_pos' (by omega)) ?_
  refine V_iload_n hC dX9_letter_6 rfl 1 rfl ?_
  refine V_aload_n hC dX9_letter_7 rfl 0 rfl ?_
  refine V_get (ci := 9) (v := .ref al) hC in_X9 0 rfl cls_X9 0 (by decide) fl_X9_7 rfl dX9_letter_8 ?_
  refine V_iconst (v := nI 2) hC dX9_letter_11 (by decide) ?_
  refine V_iald hC 1 0 rfl rfl (by omega) (by decide) dX9_letter_12 ?_
  refine V_st (st2 := [.int (nI n), .int (nI i)]) (by rw [show ((allF g n e p b) 2) = (n) from rfl]) ?_
  refine V_icmp_ge (tgt := 27) hC (by omega) (by omega) dX9_letter_13 (by decide) (fun c13 => ?_) (fun c13 => ?_)
  · exact False.elim (by omega)
  · refine V_aload_n hC dX9_letter_16 rfl 0 rfl ?_
    refine V_get (ci := 9) (v := .ref al) hC in_X9 0 rfl cls_X9 0 (by decide) fl_X9_7 rfl dX9_letter_17 ?_
    refine V_iconst (v := nI 4) hC dX9_letter_20 (by decide) ?_
    refine V_iload_n hC dX9_letter_21 rfl 1 rfl ?_
    refine V_iadd hC dX9_letter_22 ?_
    refine V_iald hC 1 0 rfl rfl (by omega) (by decide) dX9_letter_23 ?_
    refine V_st (st2 := [.int (nI (g i))]) (by rw [show ((allF g n e p b) (4 + i)) = (g i) from allF_4 _ _ _ _ _ _]) ?_
    refine V_goto (tgt := 29) hC dX9_letter_24 (by decide) ?_
    subst hQ
    exact V_iret hC hr hlk rfl (by decide) (by decide) dX9_letter_29 (()) [0, 1] rfl (by decide) (⟨rfl, trivial⟩)
abbrev rm_X9_letter_no : Room := { frames := 0, cells := 0, slots := 0, locals := 0 }
set_option maxHeartbeats 4000000 in
set_option maxRecDepth 100000 in
theorem c_X9_letter_no (l : Launch) (D : va_G) (cI cQ : ClassId) (m9 al hs hL ct tt hv lo hi wt bt bL cs gv gL tk vv rd rM tx tL pl n e p b i : Nat) (g : Nat → Nat) (hi9 : n ≤ i ∧ i < 2147483648) : MI l yX9_letter cX9_letter 2 (some .int) rm_X9_letter_no D (TY cI cQ) [.ref m9, .int (nI i)] [(m9, .inr (9, [.ref al, .ref hs, .int (nI hL), .ref ct, .int (nI tt), .int (nI hv), .int (nI lo), .int (nI hi), .int (nI wt), .ref bt, .int (nI bL), .ref cs, .ref gv, .int (nI gL), .int (nI tk), .int (nI vv), .ref rd, .int (nI rM), .ref tx, .int (nI tL), .int (nI pl)])), (al, .inl (cI, 44, .inl (fun j => nI ((allF g n e p b) j))))] (fun (r9 : Int32) (u : Unit) => r9 = (-4) ∧ (True)) (fun (u : Unit) => [(m9, .inr (9, [.ref al, .ref hs, .int (nI hL), .ref ct, .int (nI tt), .int (nI hv), .int (nI lo), .int (nI hi), .int (nI wt), .ref bt, .int (nI bL), .ref cs, .ref gv, .int (nI gL), .int (nI tk), .int (nI vv), .ref rd, .int (nI rM), .ref tx, .int (nI tL), .int (nI pl)])), (al, .inl (cI, 44, .inl (fun j => nI ((allF g n e p b) j))))]) 0 0 := by
  refine MI.start (by decide) (Nat.le_of_ble_eq_true rfl) (lv0 := [(0, .ref m9), (1, .int (nI i))]) rfl ?_
  intro pp9 ee9 ss9 mm9 args9 below9 meth9 co9 A9 Q9 hQ hC hr hlk hnm
  refine V_iload_n hC dX9_letter_0 rfl 1 rfl ?_
  refine V_if_ge_T (tgt := 6) hC dX9_letter_1 (by decide) (nI_pos' (by omega)) ?_
  refine V_iload_n hC dX9_letter_6 rfl 1 rfl ?_
  refine V_aload_n hC dX9_letter_7 rfl 0 rfl ?_
  refine V_get (ci := 9) (v := .ref al) hC in_X9 0 rfl cls_X9 0 (by decide) fl_X9_7 rfl dX9_letter_8 ?_
  refine V_iconst (v := nI 2) hC dX9_letter_11 (by decide) ?_
  refine V_iald hC 1 0 rfl rfl (by omega) (by decide) dX9_letter_12 ?_
  refine V_st (st2 := [.int (nI n), .int (nI i)]) (by rw [show ((allF g n e p b) 2) = (n) from rfl]) ?_
  refine V_icmp_ge (tgt := 27) hC (by omega) (by omega) dX9_letter_13 (by decide) (fun c13 => ?_) (fun c13 => ?_)
  · refine V_bipush (v := -4) hC dX9_letter_27 (by decide) ?_
    subst hQ
    exact V_iret hC hr hlk rfl (by decide) (by decide) dX9_letter_29 (()) [0, 1] rfl (by decide) (⟨rfl, trivial⟩)
  · exact False.elim (by omega)
abbrev rm_X9_bit_neg : Room := { frames := 0, cells := 0, slots := 0, locals := 0 }
set_option maxHeartbeats 4000000 in
set_option maxRecDepth 100000 in
theorem c_X9_bit_neg (l : Launch) (D : va_G) (cI cQ : ClassId) (m9 al hs hL ct tt hv lo hi wt bt bL cs gv gL tk vv rd rM tx tL pl : Nat) (x : Int32) (hx : x.toInt < 0) : MI l yX9_bit cX9_bit 2 (some .int) rm_X9_bit_neg D (TY cI cQ) [.ref m9, .int (x)] [(m9, .inr (9, [.ref al, .ref hs, .int (nI hL), .ref ct, .int (nI tt), .int (nI hv), .int (nI lo), .int (nI hi), .int (nI wt), .ref bt, .int (nI bL), .ref cs, .ref gv, .int (nI gL), .int (nI tk), .int (nI vv), .ref rd, .int (nI rM), .ref tx, .int (nI tL), .int (nI pl)]))] (fun (r9 : Int32) (u : Unit) => r9 = (-1) ∧ (True)) (fun (u : Unit) => [(m9, .inr (9, [.ref al, .ref hs, .int (nI hL), .ref ct, .int (nI tt), .int (nI hv), .int (nI lo), .int (nI hi), .int (nI wt), .ref bt, .int (nI bL), .ref cs, .ref gv, .int (nI gL), .int (nI tk), .int (nI vv), .ref rd, .int (nI rM), .ref tx, .int (nI tL), .int (nI pl)]))]) 0 0 := by
  refine MI.start (by decide) (Nat.le_of_ble_eq_true rfl) (lv0 := [(0, .ref m9), (1, .int (x))]) rfl ?_
  intro pp9 ee9 ss9 mm9 args9 below9 meth9 co9 A9 Q9 hQ hC hr hlk hnm
  refine V_iload_n hC dX9_bit_0 rfl 1 rfl ?_
  refine V_if_ge_F (tgt := 6) hC dX9_bit_1 (by decide) (Int32.not_le.mpr (Int32.lt_iff_toInt_lt.mpr hx)) ?_
  refine V_iconst (v := -1) hC dX9_bit_4 (by decide) ?_
  subst hQ
  exact V_iret hC hr hlk rfl (by decide) (by decide) dX9_bit_5 (()) [0] rfl (by decide) (⟨rfl, trivial⟩)
abbrev rm_X9_bit_ok : Room := { frames := 7, cells := 0, slots := 0, locals := 152 }
set_option maxHeartbeats 4000000 in
set_option maxRecDepth 100000 in
theorem c_X9_bit_ok (l : Launch) (D : va_G) (cI cQ : ClassId) (m9 al hs hL ct tt hv lo hi wt bt bL cs gv gL tk vv rd rM tx tL pl n e p b i : Nat) (g f fb fc : Nat → Nat) (hn : n ≤ 40) (hg : ∀ j, j < n → g j < 8) (he : e < 2) (hp : p ≤ 64) (hb : b ≤ 2000) (hi9 : i < (sB (cM p b g n e)).length) : MI l yX9_bit cX9_bit 2 (some .int) rm_X9_bit_ok D (TY cI cQ) [.ref m9, .int (nI i)] [(m9, .inr (9, [.ref al, .ref hs, .int (nI hL), .ref ct, .int (nI tt), .int (nI hv), .int (nI lo), .int (nI hi), .int (nI wt), .ref bt, .int (nI bL), .ref cs, .ref gv, .int (nI gL), .int (nI tk), .int (nI vv), .ref rd, .int (nI rM), .ref tx, .int (nI tL), .int (nI pl)])), (al, .inl (cI, 44, .inl (fun j => nI ((allF g n e p b) j)))), (ct, .inl (cI, 9, .inl (fun j => nI (f j)))), (bt, .inl (cI, 1400, .inl (fun j => nI (fb j)))), (cs, .inl (cI, 40, .inl (fun j => nI (fc j))))] (fun (r9 : Int32) (u : (Nat → Nat) × (Nat → Nat)) => r9 = (nI ((sB (cM p b g n e)).getD i 0)) ∧ (True)) (fun (u : (Nat → Nat) × (Nat → Nat)) => [(m9, .inr (9, [.ref al, .ref hs, .int (nI hL), .ref ct, .int (nI (sT (cM p b g n e))), .int (nI (sH (cM p b g n e))), .int (nI (sL (cM p b g n e))), .int (nI (sU (cM p b g n e))), .int (nI (sW (cM p b g n e))), .ref bt, .int (nI ((sB (cM p b g n e)).length)), .ref cs, .ref gv, .int (nI gL), .int (nI tk), .int (nI vv), .ref rd, .int (nI rM), .ref tx, .int (nI tL), .int (nI pl)])), (al, .inl (cI, 44, .inl (fun j => nI ((allF g n e p b) j)))), (ct, .inl (cI, 9, .inl (fun j => nI ((sF (cM p b g n e)) j)))), (bt, .inl (cI, 1400, .inl (fun j => nI (u.1 j)))), (cs, .inl (cI, 40, .inl (fun j => nI (u.2 j))))]) 0 0 := by
  refine MI.start (by decide) (Nat.le_of_ble_eq_true rfl) (lv0 := [(0, .ref m9), (1, .int (nI i))]) rfl ?_
  intro pp9 ee9 ss9 mm9 args9 below9 meth9 co9 A9 Q9 hQ hC hr hlk hnm
  have hml := cM_len p b g (e := e) hn
  refine V_iload_n hC dX9_bit_0 rfl 1 rfl ?_
  refine V_if_ge_T (tgt := 6) hC dX9_bit_1 (by decide) (nI_pos' (by omega)) ?_
  refine V_iload_n hC dX9_bit_6 rfl 1 rfl ?_
  refine V_aload_n hC dX9_bit_7 rfl 0 rfl ?_
  refine V_calliV (As := []) (rest := [.int (nI i)]) (wr := []) hC (c_X9_bitsNow l D cI cQ m9 al hs hL ct tt hv lo hi wt bt bL cs gv gL tk vv rd rM tx tL pl n e p b g f fb fc (by omega) (hg) (by omega) (by omega) (by omega)) mok_X9_bitsNow ml_X9_109 (q1 := 0) rfl cls_X9 rfl rfl rfl (by decide) (by decide) (by decide) (Nat.le_of_ble_eq_true rfl) [0, 1, 2, 3, 4] [] rfl (by decide) rfl (by decide) (by decide) dX9_bit_8 rfl (fun r9 u9 h8 => ?_)
  obtain ⟨fb2_1, fc2_2⟩ := u9
  obtain ⟨rfl, h8⟩ := h8
  have h8 : rep fb2_1 (sB (cM p b g n e)) ∧ ∀ j, j < n → fc2_2 j = cost p b g j := h8
  refine V_perm (ws2 := [(m9, .inr (9, [.ref al, .ref hs, .int (nI hL), .ref ct, .int (nI (sT (cM p b g n e))), .int (nI (sH (cM p b g n e))), .int (nI (sL (cM p b g n e))), .int (nI (sU (cM p b g n e))), .int (nI (sW (cM p b g n e))), .ref bt, .int (nI ((sB (cM p b g n e)).length)), .ref cs, .ref gv, .int (nI gL), .int (nI tk), .int (nI vv), .ref rd, .int (nI rM), .ref tx, .int (nI tL), .int (nI pl)])), (al, .inl (cI, 44, .inl (fun j => nI ((allF g n e p b) j)))), (ct, .inl (cI, 9, .inl (fun j => nI ((sF (cM p b g n e)) j)))), (bt, .inl (cI, 1400, .inl (fun j => nI (fb2_1 j)))), (cs, .inl (cI, 40, .inl (fun j => nI (fc2_2 j))))]) [0, 1, 2, 3, 4] rfl (by decide) ?_
  refine V_icmp_ge (tgt := 23) hC (by omega) (by omega) dX9_bit_11 (by decide) (fun c11 => ?_) (fun c11 => ?_)
  · exact False.elim (by omega)
  · refine V_aload_n hC dX9_bit_14 rfl 0 rfl ?_
    refine V_get (ci := 9) (v := .ref bt) hC in_X9 0 rfl cls_X9 9 (by decide) fl_X9_19 rfl dX9_bit_15 ?_
    refine V_iload_n hC dX9_bit_18 rfl 1 rfl ?_
    refine V_iald hC 3 0 rfl rfl (by omega) (by decide) dX9_bit_19 ?_
    refine V_st (st2 := [.int (nI ((sB (cM p b g n e)).getD i 0))]) (by rw [show (fb2_1 i) = ((sB (cM p b g n e)).getD i 0) from h8.1 i hi9]) ?_
    refine V_goto (tgt := 25) hC dX9_bit_20 (by decide) ?_
    subst hQ
    exact V_iret hC hr hlk rfl (by decide) (by decide) dX9_bit_25 ((fb2_1, fc2_2)) [0, 1, 2, 3, 4] rfl (by decide) (⟨rfl, trivial⟩)
abbrev rm_X9_bit_no : Room := { frames := 7, cells := 0, slots := 0, locals := 152 }
set_option maxHeartbeats 4000000 in
set_option maxRecDepth 100000 in
theorem c_X9_bit_no (l : Launch) (D : va_G) (cI cQ : ClassId) (m9 al hs hL ct tt hv lo hi wt bt bL cs gv gL tk vv rd rM tx tL pl n e p b i : Nat) (g f fb fc : Nat → Nat) (hn : n ≤ 40) (hg : ∀ j, j < n → g j < 8) (he : e < 2) (hp : p ≤ 64) (hb : b ≤ 2000) (hi9 : (sB (cM p b g n e)).length ≤ i ∧ i < 2147483648) : MI l yX9_bit cX9_bit 2 (some .int) rm_X9_bit_no D (TY cI cQ) [.ref m9, .int (nI i)] [(m9, .inr (9, [.ref al, .ref hs, .int (nI hL), .ref ct, .int (nI tt), .int (nI hv), .int (nI lo), .int (nI hi), .int (nI wt), .ref bt, .int (nI bL), .ref cs, .ref gv, .int (nI gL), .int (nI tk), .int (nI vv), .ref rd, .int (nI rM), .ref tx, .int (nI tL), .int (nI pl)])), (al, .inl (cI, 44, .inl (fun j => nI ((allF g n e p b) j)))), (ct, .inl (cI, 9, .inl (fun j => nI (f j)))), (bt, .inl (cI, 1400, .inl (fun j => nI (fb j)))), (cs, .inl (cI, 40, .inl (fun j => nI (fc j))))] (fun (r9 : Int32) (u : (Nat → Nat) × (Nat → Nat)) => r9 = (-4) ∧ (True)) (fun (u : (Nat → Nat) × (Nat → Nat)) => [(m9, .inr (9, [.ref al, .ref hs, .int (nI hL), .ref ct, .int (nI (sT (cM p b g n e))), .int (nI (sH (cM p b g n e))), .int (nI (sL (cM p b g n e))), .int (nI (sU (cM p b g n e))), .int (nI (sW (cM p b g n e))), .ref bt, .int (nI ((sB (cM p b g n e)).length)), .ref cs, .ref gv, .int (nI gL), .int (nI tk), .int (nI vv), .ref rd, .int (nI rM), .ref tx, .int (nI tL), .int (nI pl)])), (al, .inl (cI, 44, .inl (fun j => nI ((allF g n e p b) j)))), (ct, .inl (cI, 9, .inl (fun j => nI ((sF (cM p b g n e)) j)))), (bt, .inl (cI, 1400, .inl (fun j => nI (u.1 j)))), (cs, .inl (cI, 40, .inl (fun j => nI (u.2 j))))]) 0 0 := by
  refine MI.start (by decide) (Nat.le_of_ble_eq_true rfl) (lv0 := [(0, .ref m9), (1, .int (nI i))]) rfl ?_
  intro pp9 ee9 ss9 mm9 args9 below9 meth9 co9 A9 Q9 hQ hC hr hlk hnm
  have hml := cM_len p b g (e := e) hn
  refine V_iload_n hC dX9_bit_0 rfl 1 rfl ?_
  refine V_if_ge_T (tgt := 6) hC dX9_bit_1 (by decide) (nI_pos' (by omega)) ?_
  refine V_iload_n hC dX9_bit_6 rfl 1 rfl ?_
  refine V_aload_n hC dX9_bit_7 rfl 0 rfl ?_
  refine V_calliV (As := []) (rest := [.int (nI i)]) (wr := []) hC (c_X9_bitsNow l D cI cQ m9 al hs hL ct tt hv lo hi wt bt bL cs gv gL tk vv rd rM tx tL pl n e p b g f fb fc (by omega) (hg) (by omega) (by omega) (by omega)) mok_X9_bitsNow ml_X9_109 (q1 := 0) rfl cls_X9 rfl rfl rfl (by decide) (by decide) (by decide) (Nat.le_of_ble_eq_true rfl) [0, 1, 2, 3, 4] [] rfl (by decide) rfl (by decide) (by decide) dX9_bit_8 rfl (fun r9 u9 h8 => ?_)
  obtain ⟨fb2_1, fc2_2⟩ := u9
  obtain ⟨rfl, h8⟩ := h8
  have h8 : rep fb2_1 (sB (cM p b g n e)) ∧ ∀ j, j < n → fc2_2 j = cost p b g j := h8
  refine V_perm (ws2 := [(m9, .inr (9, [.ref al, .ref hs, .int (nI hL), .ref ct, .int (nI (sT (cM p b g n e))), .int (nI (sH (cM p b g n e))), .int (nI (sL (cM p b g n e))), .int (nI (sU (cM p b g n e))), .int (nI (sW (cM p b g n e))), .ref bt, .int (nI ((sB (cM p b g n e)).length)), .ref cs, .ref gv, .int (nI gL), .int (nI tk), .int (nI vv), .ref rd, .int (nI rM), .ref tx, .int (nI tL), .int (nI pl)])), (al, .inl (cI, 44, .inl (fun j => nI ((allF g n e p b) j)))), (ct, .inl (cI, 9, .inl (fun j => nI ((sF (cM p b g n e)) j)))), (bt, .inl (cI, 1400, .inl (fun j => nI (fb2_1 j)))), (cs, .inl (cI, 40, .inl (fun j => nI (fc2_2 j))))]) [0, 1, 2, 3, 4] rfl (by decide) ?_
  refine V_icmp_ge (tgt := 23) hC (by omega) (by omega) dX9_bit_11 (by decide) (fun c11 => ?_) (fun c11 => ?_)
  · refine V_bipush (v := -4) hC dX9_bit_23 (by decide) ?_
    subst hQ
    exact V_iret hC hr hlk rfl (by decide) (by decide) dX9_bit_25 ((fb2_1, fc2_2)) [0, 1, 2, 3, 4] rfl (by decide) (⟨rfl, trivial⟩)
  · exact False.elim (by omega)
abbrev rm_X9_letterOf_kneg : Room := { frames := 1, cells := 0, slots := 0, locals := 25 }
set_option maxHeartbeats 4000000 in
set_option maxRecDepth 100000 in
theorem c_X9_letterOf_kneg (l : Launch) (D : va_G) (cI cQ : ClassId) (m9 al hs hL ct tt hv lo hi wt bt bL cs gv gL tk vv rd rM tx tL pl : Nat) (k x : Int32) (hk : k.toInt < 0) : MI l yX9_letterOf cX9_letterOf 3 (some .int) rm_X9_letterOf_kneg D (TY cI cQ) [.ref m9, .int (k), .int (x)] [(m9, .inr (9, [.ref al, .ref hs, .int (nI hL), .ref ct, .int (nI tt), .int (nI hv), .int (nI lo), .int (nI hi), .int (nI wt), .ref bt, .int (nI bL), .ref cs, .ref gv, .int (nI gL), .int (nI tk), .int (nI vv), .ref rd, .int (nI rM), .ref tx, .int (nI tL), .int (nI pl)]))] (fun (r9 : Int32) (u : Unit) => r9 = (-1) ∧ (True)) (fun (u : Unit) => [(m9, .inr (9, [.ref al, .ref hs, .int (nI hL), .ref ct, .int (nI tt), .int (nI hv), .int (nI lo), .int (nI hi), .int (nI wt), .ref bt, .int (nI bL), .ref cs, .ref gv, .int (nI gL), .int (nI tk), .int (nI vv), .ref rd, .int (nI rM), .ref tx, .int (nI tL), .int (nI pl)]))]) 0 0 := by
  refine MI.start (by decide) (Nat.le_of_ble_eq_true rfl) (lv0 := [(0, .ref m9), (1, .int (k)), (2, .int (x))]) rfl ?_
  intro pp9 ee9 ss9 mm9 args9 below9 meth9 co9 A9 Q9 hQ hC hr hlk hnm
  refine V_iload_n hC dX9_letterOf_0 rfl 1 rfl ?_
  refine V_i2l (v := (k).toInt64) hC dX9_letterOf_1 rfl ?_
  refine V_lconst (v := lN 0) hC dX9_letterOf_2 rfl ?_
  refine V_ldc2 (v2 := lN 8) hC dX9_letterOf_3 cstl_X9_123 rfl ?_
  refine V_calliS (As := [.long ((k).toInt64), .long (lN 0), .long (lN 8)]) (rest := []) (wr := [(m9, .inr (9, [.ref al, .ref hs, .int (nI hL), .ref ct, .int (nI tt), .int (nI hv), .int (nI lo), .int (nI hi), .int (nI wt), .ref bt, .int (nI bL), .ref cs, .ref gv, .int (nI gL), .int (nI tk), .int (nI vv), .ref rd, .int (nI rM), .ref tx, .int (nI tL), .int (nI pl)]))]) hC (c_X9_in_neg l D cI cQ k 0 8 (hk) (by omega)) mok_X9_in ml_X9_102 rfl rfl rfl (by decide) (by decide) (by decide) (Nat.le_of_ble_eq_true rfl) [] [0] rfl (by decide) rfl (by decide) (by decide) dX9_letterOf_6 rfl (fun r9 u9 h6 => ?_)
  obtain ⟨rfl, h6⟩ := h6
  clear h6
  refine V_perm (ws2 := [(m9, .inr (9, [.ref al, .ref hs, .int (nI hL), .ref ct, .int (nI tt), .int (nI hv), .int (nI lo), .int (nI hi), .int (nI wt), .ref bt, .int (nI bL), .ref cs, .ref gv, .int (nI gL), .int (nI tk), .int (nI vv), .ref rd, .int (nI rM), .ref tx, .int (nI tL), .int (nI pl)]))]) [0] rfl (by decide) ?_
  refine V_if_eq_T (tgt := 24) hC dX9_letterOf_9 (by decide) ((congrArg nI (show 0 = 0 by omega)).trans nI_0) ?_
  refine V_iconst (v := -1) hC dX9_letterOf_24 (by decide) ?_
  subst hQ
  exact V_iret hC hr hlk rfl (by decide) (by decide) dX9_letterOf_25 (()) [0] rfl (by decide) (⟨rfl, trivial⟩)
abbrev rm_X9_letterOf_xneg : Room := { frames := 1, cells := 0, slots := 0, locals := 25 }
set_option maxHeartbeats 4000000 in
set_option maxRecDepth 100000 in
theorem c_X9_letterOf_xneg (l : Launch) (D : va_G) (cI cQ : ClassId) (m9 al hs hL ct tt hv lo hi wt bt bL cs gv gL tk vv rd rM tx tL pl k : Nat) (x : Int32) (hk : k < 2147483648) (hx : x.toInt < 0) : MI l yX9_letterOf cX9_letterOf 3 (some .int) rm_X9_letterOf_xneg D (TY cI cQ) [.ref m9, .int (nI k), .int (x)] [(m9, .inr (9, [.ref al, .ref hs, .int (nI hL), .ref ct, .int (nI tt), .int (nI hv), .int (nI lo), .int (nI hi), .int (nI wt), .ref bt, .int (nI bL), .ref cs, .ref gv, .int (nI gL), .int (nI tk), .int (nI vv), .ref rd, .int (nI rM), .ref tx, .int (nI tL), .int (nI pl)]))] (fun (r9 : Int32) (u : Unit) => r9 = (-1) ∧ (True)) (fun (u : Unit) => [(m9, .inr (9, [.ref al, .ref hs, .int (nI hL), .ref ct, .int (nI tt), .int (nI hv), .int (nI lo), .int (nI hi), .int (nI wt), .ref bt, .int (nI bL), .ref cs, .ref gv, .int (nI gL), .int (nI tk), .int (nI vv), .ref rd, .int (nI rM), .ref tx, .int (nI tL), .int (nI pl)]))]) 0 0 := by
  refine MI.start (by decide) (Nat.le_of_ble_eq_true rfl) (lv0 := [(0, .ref m9), (1, .int (nI k)), (2, .int (x))]) rfl ?_
  intro pp9 ee9 ss9 mm9 args9 below9 meth9 co9 A9 Q9 hQ hC hr hlk hnm
  refine V_iload_n hC dX9_letterOf_0 rfl 1 rfl ?_
  refine V_i2l (v := lN k) hC dX9_letterOf_1 (nI_l (by omega)) ?_
  refine V_lconst (v := lN 0) hC dX9_letterOf_2 rfl ?_
  refine V_ldc2 (v2 := lN 8) hC dX9_letterOf_3 cstl_X9_123 rfl ?_
  refine V_calliS (As := [.long (lN k), .long (lN 0), .long (lN 8)]) (rest := []) (wr := [(m9, .inr (9, [.ref al, .ref hs, .int (nI hL), .ref ct, .int (nI tt), .int (nI hv), .int (nI lo), .int (nI hi), .int (nI wt), .ref bt, .int (nI bL), .ref cs, .ref gv, .int (nI gL), .int (nI tk), .int (nI vv), .ref rd, .int (nI rM), .ref tx, .int (nI tL), .int (nI pl)]))]) hC (c_X9_in l D cI cQ k 0 8 (by omega) (by omega) (by omega)) mok_X9_in ml_X9_102 rfl rfl rfl (by decide) (by decide) (by decide) (Nat.le_of_ble_eq_true rfl) [] [0] rfl (by decide) rfl (by decide) (by decide) dX9_letterOf_6 rfl (fun r9 u9 h6 => ?_)
  obtain ⟨u_1, rfl⟩ : ∃ z, z = u9 := ⟨_, rfl⟩
  obtain ⟨rfl, h6⟩ := h6
  have h6 : (u_1 = 1 ∧ 0 ≤ k ∧ k ≤ 8) ∨ (u_1 = 0 ∧ (k < 0 ∨ 8 < k)) := h6
  refine V_perm (ws2 := [(m9, .inr (9, [.ref al, .ref hs, .int (nI hL), .ref ct, .int (nI tt), .int (nI hv), .int (nI lo), .int (nI hi), .int (nI wt), .ref bt, .int (nI bL), .ref cs, .ref gv, .int (nI gL), .int (nI tk), .int (nI vv), .ref rd, .int (nI rM), .ref tx, .int (nI tL), .int (nI pl)]))]) [0] rfl (by decide) ?_
  refine V_if_eq (tgt := 24) hC (by omega) dX9_letterOf_9 (by decide) (fun c9 => ?_) (fun c9 => ?_)
  · refine V_iconst (v := -1) hC dX9_letterOf_24 (by decide) ?_
    subst hQ
    exact V_iret hC hr hlk rfl (by decide) (by decide) dX9_letterOf_25 (()) [0] rfl (by decide) (⟨rfl, trivial⟩)
  · refine V_iload_n hC dX9_letterOf_12 rfl 2 rfl ?_
    refine V_i2l (v := (x).toInt64) hC dX9_letterOf_13 rfl ?_
    refine V_lconst (v := lN 0) hC dX9_letterOf_14 rfl ?_
    refine V_ldc2 (v2 := lN 3) hC dX9_letterOf_15 cstl_X9_125 rfl ?_
    refine V_calliS (As := [.long ((x).toInt64), .long (lN 0), .long (lN 3)]) (rest := []) (wr := [(m9, .inr (9, [.ref al, .ref hs, .int (nI hL), .ref ct, .int (nI tt), .int (nI hv), .int (nI lo), .int (nI hi), .int (nI wt), .ref bt, .int (nI bL), .ref cs, .ref gv, .int (nI gL), .int (nI tk), .int (nI vv), .ref rd, .int (nI rM), .ref tx, .int (nI tL), .int (nI pl)]))]) hC (c_X9_in_neg l D cI cQ x 0 3 (hx) (by omega)) mok_X9_in ml_X9_102 rfl rfl rfl (by decide) (by decide) (by decide) (Nat.le_of_ble_eq_true rfl) [] [0] rfl (by decide) rfl (by decide) (by decide) dX9_letterOf_18 rfl (fun r9 u9 h18 => ?_)
    obtain ⟨rfl, h18⟩ := h18
    clear h18
    refine V_perm (ws2 := [(m9, .inr (9, [.ref al, .ref hs, .int (nI hL), .ref ct, .int (nI tt), .int (nI hv), .int (nI lo), .int (nI hi), .int (nI wt), .ref bt, .int (nI bL), .ref cs, .ref gv, .int (nI gL), .int (nI tk), .int (nI vv), .ref rd, .int (nI rM), .ref tx, .int (nI tL), .int (nI pl)]))]) [0] rfl (by decide) ?_
    refine V_if_ne_F (tgt := 26) hC dX9_letterOf_21 (by decide) ((congrArg nI (show 0 = 0 by omega)).trans nI_0) ?_
    refine V_iconst (v := -1) hC dX9_letterOf_24 (by decide) ?_
    subst hQ
    exact V_iret hC hr hlk rfl (by decide) (by decide) dX9_letterOf_25 (()) [0] rfl (by decide) (⟨rfl, trivial⟩)
abbrev rm_X9_letterOf_bad : Room := { frames := 1, cells := 0, slots := 0, locals := 25 }
set_option maxHeartbeats 4000000 in
set_option maxRecDepth 100000 in
theorem c_X9_letterOf_bad (l : Launch) (D : va_G) (cI cQ : ClassId) (m9 al hs hL ct tt hv lo hi wt bt bL cs gv gL tk vv rd rM tx tL pl k x : Nat) (hk : k < 2147483648) (hx : x < 2147483648 ∧ (8 < k ∨ 3 < x)) : MI l yX9_letterOf cX9_letterOf 3 (some .int) rm_X9_letterOf_bad D (TY cI cQ) [.ref m9, .int (nI k), .int (nI x)] [(m9, .inr (9, [.ref al, .ref hs, .int (nI hL), .ref ct, .int (nI tt), .int (nI hv), .int (nI lo), .int (nI hi), .int (nI wt), .ref bt, .int (nI bL), .ref cs, .ref gv, .int (nI gL), .int (nI tk), .int (nI vv), .ref rd, .int (nI rM), .ref tx, .int (nI tL), .int (nI pl)]))] (fun (r9 : Int32) (u : Unit) => r9 = (-1) ∧ (True)) (fun (u : Unit) => [(m9, .inr (9, [.ref al, .ref hs, .int (nI hL), .ref ct, .int (nI tt), .int (nI hv), .int (nI lo), .int (nI hi), .int (nI wt), .ref bt, .int (nI bL), .ref cs, .ref gv, .int (nI gL), .int (nI tk), .int (nI vv), .ref rd, .int (nI rM), .ref tx, .int (nI tL), .int (nI pl)]))]) 0 0 := by
  refine MI.start (by decide) (Nat.le_of_ble_eq_true rfl) (lv0 := [(0, .ref m9), (1, .int (nI k)), (2, .int (nI x))]) rfl ?_
  intro pp9 ee9 ss9 mm9 args9 below9 meth9 co9 A9 Q9 hQ hC hr hlk hnm
  refine V_iload_n hC dX9_letterOf_0 rfl 1 rfl ?_
  refine V_i2l (v := lN k) hC dX9_letterOf_1 (nI_l (by omega)) ?_
  refine V_lconst (v := lN 0) hC dX9_letterOf_2 rfl ?_
  refine V_ldc2 (v2 := lN 8) hC dX9_letterOf_3 cstl_X9_123 rfl ?_
  refine V_calliS (As := [.long (lN k), .long (lN 0), .long (lN 8)]) (rest := []) (wr := [(m9, .inr (9, [.ref al, .ref hs, .int (nI hL), .ref ct, .int (nI tt), .int (nI hv), .int (nI lo), .int (nI hi), .int (nI wt), .ref bt, .int (nI bL), .ref cs, .ref gv, .int (nI gL), .int (nI tk), .int (nI vv), .ref rd, .int (nI rM), .ref tx, .int (nI tL), .int (nI pl)]))]) hC (c_X9_in l D cI cQ k 0 8 (by omega) (by omega) (by omega)) mok_X9_in ml_X9_102 rfl rfl rfl (by decide) (by decide) (by decide) (Nat.le_of_ble_eq_true rfl) [] [0] rfl (by decide) rfl (by decide) (by decide) dX9_letterOf_6 rfl (fun r9 u9 h6 => ?_)
  obtain ⟨u_1, rfl⟩ : ∃ z, z = u9 := ⟨_, rfl⟩
  obtain ⟨rfl, h6⟩ := h6
  have h6 : (u_1 = 1 ∧ 0 ≤ k ∧ k ≤ 8) ∨ (u_1 = 0 ∧ (k < 0 ∨ 8 < k)) := h6
  refine V_perm (ws2 := [(m9, .inr (9, [.ref al, .ref hs, .int (nI hL), .ref ct, .int (nI tt), .int (nI hv), .int (nI lo), .int (nI hi), .int (nI wt), .ref bt, .int (nI bL), .ref cs, .ref gv, .int (nI gL), .int (nI tk), .int (nI vv), .ref rd, .int (nI rM), .ref tx, .int (nI tL), .int (nI pl)]))]) [0] rfl (by decide) ?_
  refine V_if_eq (tgt := 24) hC (by omega) dX9_letterOf_9 (by decide) (fun c9 => ?_) (fun c9 => ?_)
  · refine V_iconst (v := -1) hC dX9_letterOf_24 (by decide) ?_
    subst hQ
    exact V_iret hC hr hlk rfl (by decide) (by decide) dX9_letterOf_25 (()) [0] rfl (by decide) (⟨rfl, trivial⟩)
  · refine V_iload_n hC dX9_letterOf_12 rfl 2 rfl ?_
    refine V_i2l (v := lN x) hC dX9_letterOf_13 (nI_l (by omega)) ?_
    refine V_lconst (v := lN 0) hC dX9_letterOf_14 rfl ?_
    refine V_ldc2 (v2 := lN 3) hC dX9_letterOf_15 cstl_X9_125 rfl ?_
    refine V_calliS (As := [.long (lN x), .long (lN 0), .long (lN 3)]) (rest := []) (wr := [(m9, .inr (9, [.ref al, .ref hs, .int (nI hL), .ref ct, .int (nI tt), .int (nI hv), .int (nI lo), .int (nI hi), .int (nI wt), .ref bt, .int (nI bL), .ref cs, .ref gv, .int (nI gL), .int (nI tk), .int (nI vv), .ref rd, .int (nI rM), .ref tx, .int (nI tL), .int (nI pl)]))]) hC (c_X9_in l D cI cQ x 0 3 (by omega) (by omega) (by omega)) mok_X9_in ml_X9_102 rfl rfl rfl (by decide) (by decide) (by decide) (Nat.le_of_ble_eq_true rfl) [] [0] rfl (by decide) rfl (by decide) (by decide) dX9_letterOf_18 rfl (fun r9 u9 h18 => ?_)
    obtain ⟨u_2, rfl⟩ : ∃ z, z = u9 := ⟨_, rfl⟩
    obtain ⟨rfl, h18⟩ := h18
    have h18 : (u_2 = 1 ∧ 0 ≤ x ∧ x ≤ 3) ∨ (u_2 = 0 ∧ (x < 0 ∨ 3 < x)) := h18
    refine V_perm (ws2 := [(m9, .inr (9, [.ref al, .ref hs, .int (nI hL), .ref ct, .int (nI tt), .int (nI hv), .int (nI lo), .int (nI hi), .int (nI wt), .ref bt, .int (nI bL), .ref cs, .ref gv, .int (nI gL), .int (nI tk), .int (nI vv), .ref rd, .int (nI rM), .ref tx, .int (nI tL), .int (nI pl)]))]) [0] rfl (by decide) ?_
    refine V_if_ne (tgt := 26) hC (by omega) dX9_letterOf_21 (by decide) (fun c21 => ?_) (fun c21 => ?_)
    · exact False.elim (by omega)
    · refine V_iconst (v := -1) hC dX9_letterOf_24 (by decide) ?_
      subst hQ
      exact V_iret hC hr hlk rfl (by decide) (by decide) dX9_letterOf_25 (()) [0] rfl (by decide) (⟨rfl, trivial⟩)
abbrev rm_X9_letterOf_0 : Room := { frames := 6, cells := 0, slots := 0, locals := 132 }
set_option maxHeartbeats 4000000 in
set_option maxRecDepth 100000 in
theorem c_X9_letterOf_0 (l : Launch) (D : va_G) (cI cQ : ClassId) (m9 al hs hL ct tt hv lo hi wt bt bL cs gv gL tk vv rd rM tx tL pl n e p b k : Nat) (g f fb fc : Nat → Nat) (hn : n ≤ 40) (hg : ∀ j, j < n → g j < 8) (he : e < 2) (hp : p ≤ 64) (hb : b ≤ 2000) (hk : k ≤ 8) : MI l yX9_letterOf cX9_letterOf 3 (some .int) rm_X9_letterOf_0 D (TY cI cQ) [.ref m9, .int (nI k), .int (nI 0)] [(m9, .inr (9, [.ref al, .ref hs, .int (nI hL), .ref ct, .int (nI tt), .int (nI hv), .int (nI lo), .int (nI hi), .int (nI wt), .ref bt, .int (nI bL), .ref cs, .ref gv, .int (nI gL), .int (nI tk), .int (nI vv), .ref rd, .int (nI rM), .ref tx, .int (nI tL), .int (nI pl)])), (al, .inl (cI, 44, .inl (fun j => nI ((allF g n e p b) j)))), (ct, .inl (cI, 9, .inl (fun j => nI (f j)))), (bt, .inl (cI, 1400, .inl (fun j => nI (fb j)))), (cs, .inl (cI, 40, .inl (fun j => nI (fc j))))] (fun (r9 : Int32) (u : (Nat → Nat) × (Nat → Nat)) => r9 = (nI (sF (cM p b g n e) k)) ∧ (True)) (fun (u : (Nat → Nat) × (Nat → Nat)) => [(m9, .inr (9, [.ref al, .ref hs, .int (nI hL), .ref ct, .int (nI (sT (cM p b g n e))), .int (nI (sH (cM p b g n e))), .int (nI (sL (cM p b g n e))), .int (nI (sU (cM p b g n e))), .int (nI (sW (cM p b g n e))), .ref bt, .int (nI ((sB (cM p b g n e)).length)), .ref cs, .ref gv, .int (nI gL), .int (nI tk), .int (nI vv), .ref rd, .int (nI rM), .ref tx, .int (nI tL), .int (nI pl)])), (al, .inl (cI, 44, .inl (fun j => nI ((allF g n e p b) j)))), (ct, .inl (cI, 9, .inl (fun j => nI ((sF (cM p b g n e)) j)))), (bt, .inl (cI, 1400, .inl (fun j => nI (u.1 j)))), (cs, .inl (cI, 40, .inl (fun j => nI (u.2 j))))]) 0 0 := by
  refine MI.start (by decide) (Nat.le_of_ble_eq_true rfl) (lv0 := [(0, .ref m9), (1, .int (nI k)), (2, .int (nI 0))]) rfl ?_
  intro pp9 ee9 ss9 mm9 args9 below9 meth9 co9 A9 Q9 hQ hC hr hlk hnm
  refine V_iload_n hC dX9_letterOf_0 rfl 1 rfl ?_
  refine V_i2l (v := lN k) hC dX9_letterOf_1 (nI_l (by omega)) ?_
  refine V_lconst (v := lN 0) hC dX9_letterOf_2 rfl ?_
  refine V_ldc2 (v2 := lN 8) hC dX9_letterOf_3 cstl_X9_123 rfl ?_
  refine V_calliS (As := [.long (lN k), .long (lN 0), .long (lN 8)]) (rest := []) (wr := [(m9, .inr (9, [.ref al, .ref hs, .int (nI hL), .ref ct, .int (nI tt), .int (nI hv), .int (nI lo), .int (nI hi), .int (nI wt), .ref bt, .int (nI bL), .ref cs, .ref gv, .int (nI gL), .int (nI tk), .int (nI vv), .ref rd, .int (nI rM), .ref tx, .int (nI tL), .int (nI pl)])), (al, .inl (cI, 44, .inl (fun j => nI ((allF g n e p b) j)))), (ct, .inl (cI, 9, .inl (fun j => nI (f j)))), (bt, .inl (cI, 1400, .inl (fun j => nI (fb j)))), (cs, .inl (cI, 40, .inl (fun j => nI (fc j))))]) hC (c_X9_in l D cI cQ k 0 8 (by omega) (by omega) (by omega)) mok_X9_in ml_X9_102 rfl rfl rfl (by decide) (by decide) (by decide) (Nat.le_of_ble_eq_true rfl) [] [0, 1, 2, 3, 4] rfl (by decide) rfl (by decide) (by decide) dX9_letterOf_6 rfl (fun r9 u9 h6 => ?_)
  obtain ⟨u_1, rfl⟩ : ∃ z, z = u9 := ⟨_, rfl⟩
  obtain ⟨rfl, h6⟩ := h6
  have h6 : (u_1 = 1 ∧ 0 ≤ k ∧ k ≤ 8) ∨ (u_1 = 0 ∧ (k < 0 ∨ 8 < k)) := h6
  refine V_perm (ws2 := [(m9, .inr (9, [.ref al, .ref hs, .int (nI hL), .ref ct, .int (nI tt), .int (nI hv), .int (nI lo), .int (nI hi), .int (nI wt), .ref bt, .int (nI bL), .ref cs, .ref gv, .int (nI gL), .int (nI tk), .int (nI vv), .ref rd, .int (nI rM), .ref tx, .int (nI tL), .int (nI pl)])), (al, .inl (cI, 44, .inl (fun j => nI ((allF g n e p b) j)))), (ct, .inl (cI, 9, .inl (fun j => nI (f j)))), (bt, .inl (cI, 1400, .inl (fun j => nI (fb j)))), (cs, .inl (cI, 40, .inl (fun j => nI (fc j))))]) [0, 1, 2, 3, 4] rfl (by decide) ?_
  refine V_if_eq (tgt := 24) hC (by omega) dX9_letterOf_9 (by decide) (fun c9 => ?_) (fun c9 => ?_)
  · exact False.elim (by omega)
  · refine V_iload_n hC dX9_letterOf_12 rfl 2 rfl ?_
    refine V_i2l (v := lN 0) hC dX9_letterOf_13 (nI_l (by omega)) ?_
    refine V_lconst (v := lN 0) hC dX9_letterOf_14 rfl ?_
    refine V_ldc2 (v2 := lN 3) hC dX9_letterOf_15 cstl_X9_125 rfl ?_
    refine V_calliS (As := [.long (lN 0), .long (lN 0), .long (lN 3)]) (rest := []) (wr := [(m9, .inr (9, [.ref al, .ref hs, .int (nI hL), .ref ct, .int (nI tt), .int (nI hv), .int (nI lo), .int (nI hi), .int (nI wt), .ref bt, .int (nI bL), .ref cs, .ref gv, .int (nI gL), .int (nI tk), .int (nI vv), .ref rd, .int (nI rM), .ref tx, .int (nI tL), .int (nI pl)])), (al, .inl (cI, 44, .inl (fun j => nI ((allF g n e p b) j)))), (ct, .inl (cI, 9, .inl (fun j => nI (f j)))), (bt, .inl (cI, 1400, .inl (fun j => nI (fb j)))), (cs, .inl (cI, 40, .inl (fun j => nI (fc j))))]) hC (c_X9_in l D cI cQ 0 0 3 (by omega) (by omega) (by omega)) mok_X9_in ml_X9_102 rfl rfl rfl (by decide) (by decide) (by decide) (Nat.le_of_ble_eq_true rfl) [] [0, 1, 2, 3, 4] rfl (by decide) rfl (by decide) (by decide) dX9_letterOf_18 rfl (fun r9 u9 h18 => ?_)
    obtain ⟨u_2, rfl⟩ : ∃ z, z = u9 := ⟨_, rfl⟩
    obtain ⟨rfl, h18⟩ := h18
    have h18 : (u_2 = 1 ∧ 0 ≤ 0 ∧ 0 ≤ 3) ∨ (u_2 = 0 ∧ (0 < 0 ∨ 3 < 0)) := h18
    refine V_perm (ws2 := [(m9, .inr (9, [.ref al, .ref hs, .int (nI hL), .ref ct, .int (nI tt), .int (nI hv), .int (nI lo), .int (nI hi), .int (nI wt), .ref bt, .int (nI bL), .ref cs, .ref gv, .int (nI gL), .int (nI tk), .int (nI vv), .ref rd, .int (nI rM), .ref tx, .int (nI tL), .int (nI pl)])), (al, .inl (cI, 44, .inl (fun j => nI ((allF g n e p b) j)))), (ct, .inl (cI, 9, .inl (fun j => nI (f j)))), (bt, .inl (cI, 1400, .inl (fun j => nI (fb j)))), (cs, .inl (cI, 40, .inl (fun j => nI (fc j))))]) [0, 1, 2, 3, 4] rfl (by decide) ?_
    refine V_if_ne (tgt := 26) hC (by omega) dX9_letterOf_21 (by decide) (fun c21 => ?_) (fun c21 => ?_)
    · refine V_aload_n hC dX9_letterOf_26 rfl 0 rfl ?_
      refine V_callvV (As := []) (rest := []) (wr := []) hC (c_X9_putsNow l D cI cQ m9 al hs hL ct tt hv lo hi wt bt bL cs gv gL tk vv rd rM tx tL pl n e p b g f fb fc (by omega) (hg) (by omega) (by omega) (by omega)) mok_X9_putsNow ml_X9_97 (q1 := 0) rfl cls_X9 rfl rfl rfl (by decide) (by decide) (by decide) (Nat.le_of_ble_eq_true rfl) [0, 1, 2, 3, 4] [] rfl (by decide) rfl (by decide) (by decide) dX9_letterOf_27 rfl (fun u9 h27 => ?_)
      obtain ⟨fb2_3, fc2_4⟩ := u9
      have h27 : rep fb2_3 (sB (cM p b g n e)) ∧ ∀ j, j < n → fc2_4 j = cost p b g j := h27
      refine V_perm (ws2 := [(m9, .inr (9, [.ref al, .ref hs, .int (nI hL), .ref ct, .int (nI (sT (cM p b g n e))), .int (nI (sH (cM p b g n e))), .int (nI (sL (cM p b g n e))), .int (nI (sU (cM p b g n e))), .int (nI (sW (cM p b g n e))), .ref bt, .int (nI ((sB (cM p b g n e)).length)), .ref cs, .ref gv, .int (nI gL), .int (nI tk), .int (nI vv), .ref rd, .int (nI rM), .ref tx, .int (nI tL), .int (nI pl)])), (al, .inl (cI, 44, .inl (fun j => nI ((allF g n e p b) j)))), (ct, .inl (cI, 9, .inl (fun j => nI ((sF (cM p b g n e)) j)))), (bt, .inl (cI, 1400, .inl (fun j => nI (fb2_3 j)))), (cs, .inl (cI, 40, .inl (fun j => nI (fc2_4 j))))]) [0, 1, 2, 3, 4] rfl (by decide) ?_
      refine V_iload_n hC dX9_letterOf_30 rfl 2 rfl ?_
      refine V_tblIn (tgt := 56) hC dX9_letterOf_31 (by decide) (by decide) rfl (by decide) ?_
      refine V_aload_n hC dX9_letterOf_56 rfl 0 rfl ?_
      refine V_get (ci := 9) (v := .ref ct) hC in_X9 0 rfl cls_X9 3 (by decide) fl_X9_16 rfl dX9_letterOf_57 ?_
      refine V_iload_n hC dX9_letterOf_60 rfl 1 rfl ?_
      refine V_iald hC 2 0 rfl rfl (by omega) (by decide) dX9_letterOf_61 ?_
      subst hQ
      exact V_iret hC hr hlk rfl (by decide) (by decide) dX9_letterOf_62 ((fb2_3, fc2_4)) [0, 1, 2, 3, 4] rfl (by decide) (⟨rfl, trivial⟩)
    · exact False.elim (by omega)
abbrev rm_X9_letterOf_1 : Room := { frames := 6, cells := 0, slots := 0, locals := 132 }
set_option maxHeartbeats 4000000 in
set_option maxRecDepth 100000 in
theorem c_X9_letterOf_1 (l : Launch) (D : va_G) (cI cQ : ClassId) (m9 al hs hL ct tt hv lo hi wt bt bL cs gv gL tk vv rd rM tx tL pl n e p b k : Nat) (g f fb fc : Nat → Nat) (hn : n ≤ 40) (hg : ∀ j, j < n → g j < 8) (he : e < 2) (hp : p ≤ 64) (hb : b ≤ 2000) (hk : k ≤ 8) : MI l yX9_letterOf cX9_letterOf 3 (some .int) rm_X9_letterOf_1 D (TY cI cQ) [.ref m9, .int (nI k), .int (nI 1)] [(m9, .inr (9, [.ref al, .ref hs, .int (nI hL), .ref ct, .int (nI tt), .int (nI hv), .int (nI lo), .int (nI hi), .int (nI wt), .ref bt, .int (nI bL), .ref cs, .ref gv, .int (nI gL), .int (nI tk), .int (nI vv), .ref rd, .int (nI rM), .ref tx, .int (nI tL), .int (nI pl)])), (al, .inl (cI, 44, .inl (fun j => nI ((allF g n e p b) j)))), (ct, .inl (cI, 9, .inl (fun j => nI (f j)))), (bt, .inl (cI, 1400, .inl (fun j => nI (fb j)))), (cs, .inl (cI, 40, .inl (fun j => nI (fc j))))] (fun (r9 : Int32) (u : (Nat → Nat) × (Nat → Nat)) => r9 = (nI (cB (sF (cM p b g n e)) k)) ∧ (True)) (fun (u : (Nat → Nat) × (Nat → Nat)) => [(m9, .inr (9, [.ref al, .ref hs, .int (nI hL), .ref ct, .int (nI (sT (cM p b g n e))), .int (nI (sH (cM p b g n e))), .int (nI (sL (cM p b g n e))), .int (nI (sU (cM p b g n e))), .int (nI (sW (cM p b g n e))), .ref bt, .int (nI ((sB (cM p b g n e)).length)), .ref cs, .ref gv, .int (nI gL), .int (nI tk), .int (nI vv), .ref rd, .int (nI rM), .ref tx, .int (nI tL), .int (nI pl)])), (al, .inl (cI, 44, .inl (fun j => nI ((allF g n e p b) j)))), (ct, .inl (cI, 9, .inl (fun j => nI ((sF (cM p b g n e)) j)))), (bt, .inl (cI, 1400, .inl (fun j => nI (u.1 j)))), (cs, .inl (cI, 40, .inl (fun j => nI (u.2 j))))]) 0 0 := by
  refine MI.start (by decide) (Nat.le_of_ble_eq_true rfl) (lv0 := [(0, .ref m9), (1, .int (nI k)), (2, .int (nI 1))]) rfl ?_
  intro pp9 ee9 ss9 mm9 args9 below9 meth9 co9 A9 Q9 hQ hC hr hlk hnm
  refine V_iload_n hC dX9_letterOf_0 rfl 1 rfl ?_
  refine V_i2l (v := lN k) hC dX9_letterOf_1 (nI_l (by omega)) ?_
  refine V_lconst (v := lN 0) hC dX9_letterOf_2 rfl ?_
  refine V_ldc2 (v2 := lN 8) hC dX9_letterOf_3 cstl_X9_123 rfl ?_
  refine V_calliS (As := [.long (lN k), .long (lN 0), .long (lN 8)]) (rest := []) (wr := [(m9, .inr (9, [.ref al, .ref hs, .int (nI hL), .ref ct, .int (nI tt), .int (nI hv), .int (nI lo), .int (nI hi), .int (nI wt), .ref bt, .int (nI bL), .ref cs, .ref gv, .int (nI gL), .int (nI tk), .int (nI vv), .ref rd, .int (nI rM), .ref tx, .int (nI tL), .int (nI pl)])), (al, .inl (cI, 44, .inl (fun j => nI ((allF g n e p b) j)))), (ct, .inl (cI, 9, .inl (fun j => nI (f j)))), (bt, .inl (cI, 1400, .inl (fun j => nI (fb j)))), (cs, .inl (cI, 40, .inl (fun j => nI (fc j))))]) hC (c_X9_in l D cI cQ k 0 8 (by omega) (by omega) (by omega)) mok_X9_in ml_X9_102 rfl rfl rfl (by decide) (by decide) (by decide) (Nat.le_of_ble_eq_true rfl) [] [0, 1, 2, 3, 4] rfl (by decide) rfl (by decide) (by decide) dX9_letterOf_6 rfl (fun r9 u9 h6 => ?_)
  obtain ⟨u_1, rfl⟩ : ∃ z, z = u9 := ⟨_, rfl⟩
  obtain ⟨rfl, h6⟩ := h6
  have h6 : (u_1 = 1 ∧ 0 ≤ k ∧ k ≤ 8) ∨ (u_1 = 0 ∧ (k < 0 ∨ 8 < k)) := h6
  refine V_perm (ws2 := [(m9, .inr (9, [.ref al, .ref hs, .int (nI hL), .ref ct, .int (nI tt), .int (nI hv), .int (nI lo), .int (nI hi), .int (nI wt), .ref bt, .int (nI bL), .ref cs, .ref gv, .int (nI gL), .int (nI tk), .int (nI vv), .ref rd, .int (nI rM), .ref tx, .int (nI tL), .int (nI pl)])), (al, .inl (cI, 44, .inl (fun j => nI ((allF g n e p b) j)))), (ct, .inl (cI, 9, .inl (fun j => nI (f j)))), (bt, .inl (cI, 1400, .inl (fun j => nI (fb j)))), (cs, .inl (cI, 40, .inl (fun j => nI (fc j))))]) [0, 1, 2, 3, 4] rfl (by decide) ?_
  refine V_if_eq (tgt := 24) hC (by omega) dX9_letterOf_9 (by decide) (fun c9 => ?_) (fun c9 => ?_)
  · exact False.elim (by omega)
  · refine V_iload_n hC dX9_letterOf_12 rfl 2 rfl ?_
    refine V_i2l (v := lN 1) hC dX9_letterOf_13 (nI_l (by omega)) ?_
    refine V_lconst (v := lN 0) hC dX9_letterOf_14 rfl ?_
    refine V_ldc2 (v2 := lN 3) hC dX9_letterOf_15 cstl_X9_125 rfl ?_
    refine V_calliS (As := [.long (lN 1), .long (lN 0), .long (lN 3)]) (rest := []) (wr := [(m9, .inr (9, [.ref al, .ref hs, .int (nI hL), .ref ct, .int (nI tt), .int (nI hv), .int (nI lo), .int (nI hi), .int (nI wt), .ref bt, .int (nI bL), .ref cs, .ref gv, .int (nI gL), .int (nI tk), .int (nI vv), .ref rd, .int (nI rM), .ref tx, .int (nI tL), .int (nI pl)])), (al, .inl (cI, 44, .inl (fun j => nI ((allF g n e p b) j)))), (ct, .inl (cI, 9, .inl (fun j => nI (f j)))), (bt, .inl (cI, 1400, .inl (fun j => nI (fb j)))), (cs, .inl (cI, 40, .inl (fun j => nI (fc j))))]) hC (c_X9_in l D cI cQ 1 0 3 (by omega) (by omega) (by omega)) mok_X9_in ml_X9_102 rfl rfl rfl (by decide) (by decide) (by decide) (Nat.le_of_ble_eq_true rfl) [] [0, 1, 2, 3, 4] rfl (by decide) rfl (by decide) (by decide) dX9_letterOf_18 rfl (fun r9 u9 h18 => ?_)
    obtain ⟨u_2, rfl⟩ : ∃ z, z = u9 := ⟨_, rfl⟩
    obtain ⟨rfl, h18⟩ := h18
    have h18 : (u_2 = 1 ∧ 0 ≤ 1 ∧ 1 ≤ 3) ∨ (u_2 = 0 ∧ (1 < 0 ∨ 3 < 1)) := h18
    refine V_perm (ws2 := [(m9, .inr (9, [.ref al, .ref hs, .int (nI hL), .ref ct, .int (nI tt), .int (nI hv), .int (nI lo), .int (nI hi), .int (nI wt), .ref bt, .int (nI bL), .ref cs, .ref gv, .int (nI gL), .int (nI tk), .int (nI vv), .ref rd, .int (nI rM), .ref tx, .int (nI tL), .int (nI pl)])), (al, .inl (cI, 44, .inl (fun j => nI ((allF g n e p b) j)))), (ct, .inl (cI, 9, .inl (fun j => nI (f j)))), (bt, .inl (cI, 1400, .inl (fun j => nI (fb j)))), (cs, .inl (cI, 40, .inl (fun j => nI (fc j))))]) [0, 1, 2, 3, 4] rfl (by decide) ?_
    refine V_if_ne (tgt := 26) hC (by omega) dX9_letterOf_21 (by decide) (fun c21 => ?_) (fun c21 => ?_)
    · refine V_aload_n hC dX9_letterOf_26 rfl 0 rfl ?_
      refine V_callvV (As := []) (rest := []) (wr := []) hC (c_X9_putsNow l D cI cQ m9 al hs hL ct tt hv lo hi wt bt bL cs gv gL tk vv rd rM tx tL pl n e p b g f fb fc (by omega) (hg) (by omega) (by omega) (by omega)) mok_X9_putsNow ml_X9_97 (q1 := 0) rfl cls_X9 rfl rfl rfl (by decide) (by decide) (by decide) (Nat.le_of_ble_eq_true rfl) [0, 1, 2, 3, 4] [] rfl (by decide) rfl (by decide) (by decide) dX9_letterOf_27 rfl (fun u9 h27 => ?_)
      obtain ⟨fb2_3, fc2_4⟩ := u9
      have h27 : rep fb2_3 (sB (cM p b g n e)) ∧ ∀ j, j < n → fc2_4 j = cost p b g j := h27
      refine V_perm (ws2 := [(m9, .inr (9, [.ref al, .ref hs, .int (nI hL), .ref ct, .int (nI (sT (cM p b g n e))), .int (nI (sH (cM p b g n e))), .int (nI (sL (cM p b g n e))), .int (nI (sU (cM p b g n e))), .int (nI (sW (cM p b g n e))), .ref bt, .int (nI ((sB (cM p b g n e)).length)), .ref cs, .ref gv, .int (nI gL), .int (nI tk), .int (nI vv), .ref rd, .int (nI rM), .ref tx, .int (nI tL), .int (nI pl)])), (al, .inl (cI, 44, .inl (fun j => nI ((allF g n e p b) j)))), (ct, .inl (cI, 9, .inl (fun j => nI ((sF (cM p b g n e)) j)))), (bt, .inl (cI, 1400, .inl (fun j => nI (fb2_3 j)))), (cs, .inl (cI, 40, .inl (fun j => nI (fc2_4 j))))]) [0, 1, 2, 3, 4] rfl (by decide) ?_
      refine V_iload_n hC dX9_letterOf_30 rfl 2 rfl ?_
      refine V_tblIn (tgt := 63) hC dX9_letterOf_31 (by decide) (by decide) rfl (by decide) ?_
      refine V_aload_n hC dX9_letterOf_63 rfl 0 rfl ?_
      refine V_iload_n hC dX9_letterOf_64 rfl 1 rfl ?_
      refine V_calliV (As := [.int (nI k)]) (rest := []) (wr := [(al, .inl (cI, 44, .inl (fun j => nI ((allF g n e p b) j)))), (bt, .inl (cI, 1400, .inl (fun j => nI (fb2_3 j)))), (cs, .inl (cI, 40, .inl (fun j => nI (fc2_4 j))))]) hC (c_X9_below l D cI cQ m9 al hs hL ct (sT (cM p b g n e)) (sH (cM p b g n e)) (sL (cM p b g n e)) (sU (cM p b g n e)) (sW (cM p b g n e)) bt ((sB (cM p b g n e)).length) cs gv gL tk vv rd rM tx tL pl k (sF (cM p b g n e)) (by omega)) mok_X9_below ml_X9_56 (q1 := 0) rfl cls_X9 rfl rfl rfl (by decide) (by decide) (by decide) (Nat.le_of_ble_eq_true rfl) [0, 2] [1, 3, 4] rfl (by decide) rfl (by decide) (by decide) dX9_letterOf_65 rfl (fun r9 u9 h65 => ?_)
      obtain ⟨rfl, h65⟩ := h65
      clear h65
      refine V_perm (ws2 := [(m9, .inr (9, [.ref al, .ref hs, .int (nI hL), .ref ct, .int (nI ((sT (cM p b g n e)))), .int (nI ((sH (cM p b g n e)))), .int (nI ((sL (cM p b g n e)))), .int (nI ((sU (cM p b g n e)))), .int (nI ((sW (cM p b g n e)))), .ref bt, .int (nI (((sB (cM p b g n e)).length))), .ref cs, .ref gv, .int (nI gL), .int (nI tk), .int (nI vv), .ref rd, .int (nI rM), .ref tx, .int (nI tL), .int (nI pl)])), (al, .inl (cI, 44, .inl (fun j => nI ((allF g n e p b) j)))), (ct, .inl (cI, 9, .inl (fun j => nI (((sF (cM p b g n e))) j)))), (bt, .inl (cI, 1400, .inl (fun j => nI (fb2_3 j)))), (cs, .inl (cI, 40, .inl (fun j => nI (fc2_4 j))))]) [3, 0, 4, 1, 2] rfl (by decide) ?_
      subst hQ
      exact V_iret hC hr hlk rfl (by decide) (by decide) dX9_letterOf_68 ((fb2_3, fc2_4)) [0, 1, 2, 3, 4] rfl (by decide) (⟨rfl, trivial⟩)
    · exact False.elim (by omega)
abbrev rm_X9_letterOf_2 : Room := { frames := 6, cells := 0, slots := 0, locals := 132 }
set_option maxHeartbeats 4000000 in
set_option maxRecDepth 100000 in
theorem c_X9_letterOf_2 (l : Launch) (D : va_G) (cI cQ : ClassId) (m9 al hs hL ct tt hv lo hi wt bt bL cs gv gL tk vv rd rM tx tL pl n e p b k : Nat) (g f fb fc : Nat → Nat) (hn : n ≤ 40) (hg : ∀ j, j < n → g j < 8) (he : e < 2) (hp : p ≤ 64) (hb : b ≤ 2000) (hk : k ≤ 8) : MI l yX9_letterOf cX9_letterOf 3 (some .int) rm_X9_letterOf_2 D (TY cI cQ) [.ref m9, .int (nI k), .int (nI 2)] [(m9, .inr (9, [.ref al, .ref hs, .int (nI hL), .ref ct, .int (nI tt), .int (nI hv), .int (nI lo), .int (nI hi), .int (nI wt), .ref bt, .int (nI bL), .ref cs, .ref gv, .int (nI gL), .int (nI tk), .int (nI vv), .ref rd, .int (nI rM), .ref tx, .int (nI tL), .int (nI pl)])), (al, .inl (cI, 44, .inl (fun j => nI ((allF g n e p b) j)))), (ct, .inl (cI, 9, .inl (fun j => nI (f j)))), (bt, .inl (cI, 1400, .inl (fun j => nI (fb j)))), (cs, .inl (cI, 40, .inl (fun j => nI (fc j))))] (fun (r9 : Int32) (u : (Nat → Nat) × (Nat → Nat)) => r9 = (nI (hO g k n)) ∧ (True)) (fun (u : (Nat → Nat) × (Nat → Nat)) => [(m9, .inr (9, [.ref al, .ref hs, .int (nI hL), .ref ct, .int (nI (sT (cM p b g n e))), .int (nI (sH (cM p b g n e))), .int (nI (sL (cM p b g n e))), .int (nI (sU (cM p b g n e))), .int (nI (sW (cM p b g n e))), .ref bt, .int (nI ((sB (cM p b g n e)).length)), .ref cs, .ref gv, .int (nI gL), .int (nI tk), .int (nI vv), .ref rd, .int (nI rM), .ref tx, .int (nI tL), .int (nI pl)])), (al, .inl (cI, 44, .inl (fun j => nI ((allF g n e p b) j)))), (ct, .inl (cI, 9, .inl (fun j => nI ((sF (cM p b g n e)) j)))), (bt, .inl (cI, 1400, .inl (fun j => nI (u.1 j)))), (cs, .inl (cI, 40, .inl (fun j => nI (u.2 j))))]) 0 0 := by
  refine MI.start (by decide) (Nat.le_of_ble_eq_true rfl) (lv0 := [(0, .ref m9), (1, .int (nI k)), (2, .int (nI 2))]) rfl ?_
  intro pp9 ee9 ss9 mm9 args9 below9 meth9 co9 A9 Q9 hQ hC hr hlk hnm
  refine V_iload_n hC dX9_letterOf_0 rfl 1 rfl ?_
  refine V_i2l (v := lN k) hC dX9_letterOf_1 (nI_l (by omega)) ?_
  refine V_lconst (v := lN 0) hC dX9_letterOf_2 rfl ?_
  refine V_ldc2 (v2 := lN 8) hC dX9_letterOf_3 cstl_X9_123 rfl ?_
  refine V_calliS (As := [.long (lN k), .long (lN 0), .long (lN 8)]) (rest := []) (wr := [(m9, .inr (9, [.ref al, .ref hs, .int (nI hL), .ref ct, .int (nI tt), .int (nI hv), .int (nI lo), .int (nI hi), .int (nI wt), .ref bt, .int (nI bL), .ref cs, .ref gv, .int (nI gL), .int (nI tk), .int (nI vv), .ref rd, .int (nI rM), .ref tx, .int (nI tL), .int (nI pl)])), (al, .inl (cI, 44, .inl (fun j => nI ((allF g n e p b) j)))), (ct, .inl (cI, 9, .inl (fun j => nI (f j)))), (bt, .inl (cI, 1400, .inl (fun j => nI (fb j)))), (cs, .inl (cI, 40, .inl (fun j => nI (fc j))))]) hC (c_X9_in l D cI cQ k 0 8 (by omega) (by omega) (by omega)) mok_X9_in ml_X9_102 rfl rfl rfl (by decide) (by decide) (by decide) (Nat.le_of_ble_eq_true rfl) [] [0, 1, 2, 3, 4] rfl (by decide) rfl (by decide) (by decide) dX9_letterOf_6 rfl (fun r9 u9 h6 => ?_)
  obtain ⟨u_1, rfl⟩ : ∃ z, z = u9 := ⟨_, rfl⟩
  obtain ⟨rfl, h6⟩ := h6
  have h6 : (u_1 = 1 ∧ 0 ≤ k ∧ k ≤ 8) ∨ (u_1 = 0 ∧ (k < 0 ∨ 8 < k)) := h6
  refine V_perm (ws2 := [(m9, .inr (9, [.ref al, .ref hs, .int (nI hL), .ref ct, .int (nI tt), .int (nI hv), .int (nI lo), .int (nI hi), .int (nI wt), .ref bt, .int (nI bL), .ref cs, .ref gv, .int (nI gL), .int (nI tk), .int (nI vv), .ref rd, .int (nI rM), .ref tx, .int (nI tL), .int (nI pl)])), (al, .inl (cI, 44, .inl (fun j => nI ((allF g n e p b) j)))), (ct, .inl (cI, 9, .inl (fun j => nI (f j)))), (bt, .inl (cI, 1400, .inl (fun j => nI (fb j)))), (cs, .inl (cI, 40, .inl (fun j => nI (fc j))))]) [0, 1, 2, 3, 4] rfl (by decide) ?_
  refine V_if_eq (tgt := 24) hC (by omega) dX9_letterOf_9 (by decide) (fun c9 => ?_) (fun c9 => ?_)
  · exact False.elim (by omega)
  · refine V_iload_n hC dX9_letterOf_12 rfl 2 rfl ?_
    refine V_i2l (v := lN 2) hC dX9_letterOf_13 (nI_l (by omega)) ?_
    refine V_lconst (v := lN 0) hC dX9_letterOf_14 rfl ?_
    refine V_ldc2 (v2 := lN 3) hC dX9_letterOf_15 cstl_X9_125 rfl ?_
    refine V_calliS (As := [.long (lN 2), .long (lN 0), .long (lN 3)]) (rest := []) (wr := [(m9, .inr (9, [.ref al, .ref hs, .int (nI hL), .ref ct, .int (nI tt), .int (nI hv), .int (nI lo), .int (nI hi), .int (nI wt), .ref bt, .int (nI bL), .ref cs, .ref gv, .int (nI gL), .int (nI tk), .int (nI vv), .ref rd, .int (nI rM), .ref tx, .int (nI tL), .int (nI pl)])), (al, .inl (cI, 44, .inl (fun j => nI ((allF g n e p b) j)))), (ct, .inl (cI, 9, .inl (fun j => nI (f j)))), (bt, .inl (cI, 1400, .inl (fun j => nI (fb j)))), (cs, .inl (cI, 40, .inl (fun j => nI (fc j))))]) hC (c_X9_in l D cI cQ 2 0 3 (by omega) (by omega) (by omega)) mok_X9_in ml_X9_102 rfl rfl rfl (by decide) (by decide) (by decide) (Nat.le_of_ble_eq_true rfl) [] [0, 1, 2, 3, 4] rfl (by decide) rfl (by decide) (by decide) dX9_letterOf_18 rfl (fun r9 u9 h18 => ?_)
    obtain ⟨u_2, rfl⟩ : ∃ z, z = u9 := ⟨_, rfl⟩
    obtain ⟨rfl, h18⟩ := h18
    have h18 : (u_2 = 1 ∧ 0 ≤ 2 ∧ 2 ≤ 3) ∨ (u_2 = 0 ∧ (2 < 0 ∨ 3 < 2)) := h18
    refine V_perm (ws2 := [(m9, .inr (9, [.ref al, .ref hs, .int (nI hL), .ref ct, .int (nI tt), .int (nI hv), .int (nI lo), .int (nI hi), .int (nI wt), .ref bt, .int (nI bL), .ref cs, .ref gv, .int (nI gL), .int (nI tk), .int (nI vv), .ref rd, .int (nI rM), .ref tx, .int (nI tL), .int (nI pl)])), (al, .inl (cI, 44, .inl (fun j => nI ((allF g n e p b) j)))), (ct, .inl (cI, 9, .inl (fun j => nI (f j)))), (bt, .inl (cI, 1400, .inl (fun j => nI (fb j)))), (cs, .inl (cI, 40, .inl (fun j => nI (fc j))))]) [0, 1, 2, 3, 4] rfl (by decide) ?_
    refine V_if_ne (tgt := 26) hC (by omega) dX9_letterOf_21 (by decide) (fun c21 => ?_) (fun c21 => ?_)
    · refine V_aload_n hC dX9_letterOf_26 rfl 0 rfl ?_
      refine V_callvV (As := []) (rest := []) (wr := []) hC (c_X9_putsNow l D cI cQ m9 al hs hL ct tt hv lo hi wt bt bL cs gv gL tk vv rd rM tx tL pl n e p b g f fb fc (by omega) (hg) (by omega) (by omega) (by omega)) mok_X9_putsNow ml_X9_97 (q1 := 0) rfl cls_X9 rfl rfl rfl (by decide) (by decide) (by decide) (Nat.le_of_ble_eq_true rfl) [0, 1, 2, 3, 4] [] rfl (by decide) rfl (by decide) (by decide) dX9_letterOf_27 rfl (fun u9 h27 => ?_)
      obtain ⟨fb2_3, fc2_4⟩ := u9
      have h27 : rep fb2_3 (sB (cM p b g n e)) ∧ ∀ j, j < n → fc2_4 j = cost p b g j := h27
      refine V_perm (ws2 := [(m9, .inr (9, [.ref al, .ref hs, .int (nI hL), .ref ct, .int (nI (sT (cM p b g n e))), .int (nI (sH (cM p b g n e))), .int (nI (sL (cM p b g n e))), .int (nI (sU (cM p b g n e))), .int (nI (sW (cM p b g n e))), .ref bt, .int (nI ((sB (cM p b g n e)).length)), .ref cs, .ref gv, .int (nI gL), .int (nI tk), .int (nI vv), .ref rd, .int (nI rM), .ref tx, .int (nI tL), .int (nI pl)])), (al, .inl (cI, 44, .inl (fun j => nI ((allF g n e p b) j)))), (ct, .inl (cI, 9, .inl (fun j => nI ((sF (cM p b g n e)) j)))), (bt, .inl (cI, 1400, .inl (fun j => nI (fb2_3 j)))), (cs, .inl (cI, 40, .inl (fun j => nI (fc2_4 j))))]) [0, 1, 2, 3, 4] rfl (by decide) ?_
      refine V_iload_n hC dX9_letterOf_30 rfl 2 rfl ?_
      refine V_tblIn (tgt := 69) hC dX9_letterOf_31 (by decide) (by decide) rfl (by decide) ?_
      refine V_aload_n hC dX9_letterOf_69 rfl 0 rfl ?_
      refine V_iload_n hC dX9_letterOf_70 rfl 1 rfl ?_
      refine V_calliV (As := [.int (nI k)]) (rest := []) (wr := [(ct, .inl (cI, 9, .inl (fun j => nI ((sF (cM p b g n e)) j)))), (bt, .inl (cI, 1400, .inl (fun j => nI (fb2_3 j)))), (cs, .inl (cI, 40, .inl (fun j => nI (fc2_4 j))))]) hC (c_X9_stands l D cI cQ m9 al hs hL ct (sT (cM p b g n e)) (sH (cM p b g n e)) (sL (cM p b g n e)) (sU (cM p b g n e)) (sW (cM p b g n e)) bt ((sB (cM p b g n e)).length) cs gv gL tk vv rd rM tx tL pl n e p b k g (by omega) (hg) (by omega)) mok_X9_stands ml_X9_127 (q1 := 0) rfl cls_X9 rfl rfl rfl (by decide) (by decide) (by decide) (Nat.le_of_ble_eq_true rfl) [0, 1] [2, 3, 4] rfl (by decide) rfl (by decide) (by decide) dX9_letterOf_71 rfl (fun r9 u9 h71 => ?_)
      obtain ⟨rfl, h71⟩ := h71
      clear h71
      refine V_perm (ws2 := [(m9, .inr (9, [.ref al, .ref hs, .int (nI hL), .ref ct, .int (nI ((sT (cM p b g n e)))), .int (nI ((sH (cM p b g n e)))), .int (nI ((sL (cM p b g n e)))), .int (nI ((sU (cM p b g n e)))), .int (nI ((sW (cM p b g n e)))), .ref bt, .int (nI (((sB (cM p b g n e)).length))), .ref cs, .ref gv, .int (nI gL), .int (nI tk), .int (nI vv), .ref rd, .int (nI rM), .ref tx, .int (nI tL), .int (nI pl)])), (al, .inl (cI, 44, .inl (fun j => nI ((allF g n e p b) j)))), (ct, .inl (cI, 9, .inl (fun j => nI ((sF (cM p b g n e)) j)))), (bt, .inl (cI, 1400, .inl (fun j => nI (fb2_3 j)))), (cs, .inl (cI, 40, .inl (fun j => nI (fc2_4 j))))]) [3, 4, 0, 1, 2] rfl (by decide) ?_
      subst hQ
      exact V_iret hC hr hlk rfl (by decide) (by decide) dX9_letterOf_74 ((fb2_3, fc2_4)) [0, 1, 2, 3, 4] rfl (by decide) (⟨rfl, trivial⟩)
    · exact False.elim (by omega)
abbrev rm_X9_wouldWrite_e : Room := { frames := 0, cells := 0, slots := 0, locals := 0 }
set_option maxHeartbeats 4000000 in
set_option maxRecDepth 100000 in
theorem c_X9_wouldWrite_e (l : Launch) (D : va_G) (cI cQ : ClassId) (m9 al hs hL ct tt hv lo hi wt bt bL cs gv gL tk vv rd rM tx tL pl n e p b k : Nat) (g : Nat → Nat) (he : e = 1) : MI l yX9_wouldWrite cX9_wouldWrite 3 (some .int) rm_X9_wouldWrite_e D (TY cI cQ) [.ref m9, .int (nI k)] [(m9, .inr (9, [.ref al, .ref hs, .int (nI hL), .ref ct, .int (nI tt), .int (nI hv), .int (nI lo), .int (nI hi), .int (nI wt), .ref bt, .int (nI bL), .ref cs, .ref gv, .int (nI gL), .int (nI tk), .int (nI vv), .ref rd, .int (nI rM), .ref tx, .int (nI tL), .int (nI pl)])), (al, .inl (cI, 44, .inl (fun j => nI ((allF g n e p b) j))))] (fun (r9 : Int32) (u : Unit) => r9 = (-2) ∧ (True)) (fun (u : Unit) => [(m9, .inr (9, [.ref al, .ref hs, .int (nI hL), .ref ct, .int (nI tt), .int (nI hv), .int (nI lo), .int (nI hi), .int (nI wt), .ref bt, .int (nI bL), .ref cs, .ref gv, .int (nI gL), .int (nI tk), .int (nI vv), .ref rd, .int (nI rM), .ref tx, .int (nI tL), .int (nI pl)])), (al, .inl (cI, 44, .inl (fun j => nI ((allF g n e p b) j))))]) 0 0 := by
  refine MI.start (by decide) (Nat.le_of_ble_eq_true rfl) (lv0 := [(0, .ref m9), (1, .int (nI k))]) rfl ?_
  intro pp9 ee9 ss9 mm9 args9 below9 meth9 co9 A9 Q9 hQ hC hr hlk hnm
  refine V_aload_n hC dX9_wouldWrite_0 rfl 0 rfl ?_
  refine V_get (ci := 9) (v := .ref al) hC in_X9 0 rfl cls_X9 0 (by decide) fl_X9_7 rfl dX9_wouldWrite_1 ?_
  refine V_iconst (v := nI 3) hC dX9_wouldWrite_4 (by decide) ?_
  refine V_iald hC 1 0 rfl rfl (by omega) (by decide) dX9_wouldWrite_5 ?_
  refine V_st (st2 := [.int (nI e)]) (by rw [show ((allF g n e p b) 3) = (e) from rfl]) ?_
  refine V_iconst (v := nI 1) hC dX9_wouldWrite_6 (by decide) ?_
  refine V_icmp_ne (tgt := 13) hC (by omega) (by omega) dX9_wouldWrite_7 (by decide) (fun c7 => ?_) (fun c7 => ?_)
  · exact False.elim (by omega)
  · refine V_bipush (v := -2) hC dX9_wouldWrite_10 (by decide) ?_
    subst hQ
    exact V_iret hC hr hlk rfl (by decide) (by decide) dX9_wouldWrite_12 (()) [0, 1] rfl (by decide) (⟨rfl, trivial⟩)
abbrev rm_X9_letterOf_3e : Room := { frames := 6, cells := 0, slots := 0, locals := 132 }
set_option maxHeartbeats 4000000 in
set_option maxRecDepth 100000 in
theorem c_X9_letterOf_3e (l : Launch) (D : va_G) (cI cQ : ClassId) (m9 al hs hL ct tt hv lo hi wt bt bL cs gv gL tk vv rd rM tx tL pl n e p b k : Nat) (g f fb fc : Nat → Nat) (hn : n ≤ 40) (hg : ∀ j, j < n → g j < 8) (he : e < 2) (hp : p ≤ 64) (hb : b ≤ 2000) (hk : k ≤ 8) (he1 : e = 1) : MI l yX9_letterOf cX9_letterOf 3 (some .int) rm_X9_letterOf_3e D (TY cI cQ) [.ref m9, .int (nI k), .int (nI 3)] [(m9, .inr (9, [.ref al, .ref hs, .int (nI hL), .ref ct, .int (nI tt), .int (nI hv), .int (nI lo), .int (nI hi), .int (nI wt), .ref bt, .int (nI bL), .ref cs, .ref gv, .int (nI gL), .int (nI tk), .int (nI vv), .ref rd, .int (nI rM), .ref tx, .int (nI tL), .int (nI pl)])), (al, .inl (cI, 44, .inl (fun j => nI ((allF g n e p b) j)))), (ct, .inl (cI, 9, .inl (fun j => nI (f j)))), (bt, .inl (cI, 1400, .inl (fun j => nI (fb j)))), (cs, .inl (cI, 40, .inl (fun j => nI (fc j))))] (fun (r9 : Int32) (u : (Nat → Nat) × (Nat → Nat)) => r9 = (-2) ∧ (True)) (fun (u : (Nat → Nat) × (Nat → Nat)) => [(m9, .inr (9, [.ref al, .ref hs, .int (nI hL), .ref ct, .int (nI (sT (cM p b g n e))), .int (nI (sH (cM p b g n e))), .int (nI (sL (cM p b g n e))), .int (nI (sU (cM p b g n e))), .int (nI (sW (cM p b g n e))), .ref bt, .int (nI ((sB (cM p b g n e)).length)), .ref cs, .ref gv, .int (nI gL), .int (nI tk), .int (nI vv), .ref rd, .int (nI rM), .ref tx, .int (nI tL), .int (nI pl)])), (al, .inl (cI, 44, .inl (fun j => nI ((allF g n e p b) j)))), (ct, .inl (cI, 9, .inl (fun j => nI ((sF (cM p b g n e)) j)))), (bt, .inl (cI, 1400, .inl (fun j => nI (u.1 j)))), (cs, .inl (cI, 40, .inl (fun j => nI (u.2 j))))]) 0 0 := by
  refine MI.start (by decide) (Nat.le_of_ble_eq_true rfl) (lv0 := [(0, .ref m9), (1, .int (nI k)), (2, .int (nI 3))]) rfl ?_
  intro pp9 ee9 ss9 mm9 args9 below9 meth9 co9 A9 Q9 hQ hC hr hlk hnm
  refine V_iload_n hC dX9_letterOf_0 rfl 1 rfl ?_
  refine V_i2l (v := lN k) hC dX9_letterOf_1 (nI_l (by omega)) ?_
  refine V_lconst (v := lN 0) hC dX9_letterOf_2 rfl ?_
  refine V_ldc2 (v2 := lN 8) hC dX9_letterOf_3 cstl_X9_123 rfl ?_
  refine V_calliS (As := [.long (lN k), .long (lN 0), .long (lN 8)]) (rest := []) (wr := [(m9, .inr (9, [.ref al, .ref hs, .int (nI hL), .ref ct, .int (nI tt), .int (nI hv), .int (nI lo), .int (nI hi), .int (nI wt), .ref bt, .int (nI bL), .ref cs, .ref gv, .int (nI gL), .int (nI tk), .int (nI vv), .ref rd, .int (nI rM), .ref tx, .int (nI tL), .int (nI pl)])), (al, .inl (cI, 44, .inl (fun j => nI ((allF g n e p b) j)))), (ct, .inl (cI, 9, .inl (fun j => nI (f j)))), (bt, .inl (cI, 1400, .inl (fun j => nI (fb j)))), (cs, .inl (cI, 40, .inl (fun j => nI (fc j))))]) hC (c_X9_in l D cI cQ k 0 8 (by omega) (by omega) (by omega)) mok_X9_in ml_X9_102 rfl rfl rfl (by decide) (by decide) (by decide) (Nat.le_of_ble_eq_true rfl) [] [0, 1, 2, 3, 4] rfl (by decide) rfl (by decide) (by decide) dX9_letterOf_6 rfl (fun r9 u9 h6 => ?_)
  obtain ⟨u_1, rfl⟩ : ∃ z, z = u9 := ⟨_, rfl⟩
  obtain ⟨rfl, h6⟩ := h6
  have h6 : (u_1 = 1 ∧ 0 ≤ k ∧ k ≤ 8) ∨ (u_1 = 0 ∧ (k < 0 ∨ 8 < k)) := h6
  refine V_perm (ws2 := [(m9, .inr (9, [.ref al, .ref hs, .int (nI hL), .ref ct, .int (nI tt), .int (nI hv), .int (nI lo), .int (nI hi), .int (nI wt), .ref bt, .int (nI bL), .ref cs, .ref gv, .int (nI gL), .int (nI tk), .int (nI vv), .ref rd, .int (nI rM), .ref tx, .int (nI tL), .int (nI pl)])), (al, .inl (cI, 44, .inl (fun j => nI ((allF g n e p b) j)))), (ct, .inl (cI, 9, .inl (fun j => nI (f j)))), (bt, .inl (cI, 1400, .inl (fun j => nI (fb j)))), (cs, .inl (cI, 40, .inl (fun j => nI (fc j))))]) [0, 1, 2, 3, 4] rfl (by decide) ?_
  refine V_if_eq (tgt := 24) hC (by omega) dX9_letterOf_9 (by decide) (fun c9 => ?_) (fun c9 => ?_)
  · exact False.elim (by omega)
  · refine V_iload_n hC dX9_letterOf_12 rfl 2 rfl ?_
    refine V_i2l (v := lN 3) hC dX9_letterOf_13 (nI_l (by omega)) ?_
    refine V_lconst (v := lN 0) hC dX9_letterOf_14 rfl ?_
    refine V_ldc2 (v2 := lN 3) hC dX9_letterOf_15 cstl_X9_125 rfl ?_
    refine V_calliS (As := [.long (lN 3), .long (lN 0), .long (lN 3)]) (rest := []) (wr := [(m9, .inr (9, [.ref al, .ref hs, .int (nI hL), .ref ct, .int (nI tt), .int (nI hv), .int (nI lo), .int (nI hi), .int (nI wt), .ref bt, .int (nI bL), .ref cs, .ref gv, .int (nI gL), .int (nI tk), .int (nI vv), .ref rd, .int (nI rM), .ref tx, .int (nI tL), .int (nI pl)])), (al, .inl (cI, 44, .inl (fun j => nI ((allF g n e p b) j)))), (ct, .inl (cI, 9, .inl (fun j => nI (f j)))), (bt, .inl (cI, 1400, .inl (fun j => nI (fb j)))), (cs, .inl (cI, 40, .inl (fun j => nI (fc j))))]) hC (c_X9_in l D cI cQ 3 0 3 (by omega) (by omega) (by omega)) mok_X9_in ml_X9_102 rfl rfl rfl (by decide) (by decide) (by decide) (Nat.le_of_ble_eq_true rfl) [] [0, 1, 2, 3, 4] rfl (by decide) rfl (by decide) (by decide) dX9_letterOf_18 rfl (fun r9 u9 h18 => ?_)
    obtain ⟨u_2, rfl⟩ : ∃ z, z = u9 := ⟨_, rfl⟩
    obtain ⟨rfl, h18⟩ := h18
    have h18 : (u_2 = 1 ∧ 0 ≤ 3 ∧ 3 ≤ 3) ∨ (u_2 = 0 ∧ (3 < 0 ∨ 3 < 3)) := h18
    refine V_perm (ws2 := [(m9, .inr (9, [.ref al, .ref hs, .int (nI hL), .ref ct, .int (nI tt), .int (nI hv), .int (nI lo), .int (nI hi), .int (nI wt), .ref bt, .int (nI bL), .ref cs, .ref gv, .int (nI gL), .int (nI tk), .int (nI vv), .ref rd, .int (nI rM), .ref tx, .int (nI tL), .int (nI pl)])), (al, .inl (cI, 44, .inl (fun j => nI ((allF g n e p b) j)))), (ct, .inl (cI, 9, .inl (fun j => nI (f j)))), (bt, .inl (cI, 1400, .inl (fun j => nI (fb j)))), (cs, .inl (cI, 40, .inl (fun j => nI (fc j))))]) [0, 1, 2, 3, 4] rfl (by decide) ?_
    refine V_if_ne (tgt := 26) hC (by omega) dX9_letterOf_21 (by decide) (fun c21 => ?_) (fun c21 => ?_)
    · refine V_aload_n hC dX9_letterOf_26 rfl 0 rfl ?_
      refine V_callvV (As := []) (rest := []) (wr := []) hC (c_X9_putsNow l D cI cQ m9 al hs hL ct tt hv lo hi wt bt bL cs gv gL tk vv rd rM tx tL pl n e p b g f fb fc (by omega) (hg) (by omega) (by omega) (by omega)) mok_X9_putsNow ml_X9_97 (q1 := 0) rfl cls_X9 rfl rfl rfl (by decide) (by decide) (by decide) (Nat.le_of_ble_eq_true rfl) [0, 1, 2, 3, 4] [] rfl (by decide) rfl (by decide) (by decide) dX9_letterOf_27 rfl (fun u9 h27 => ?_)
      obtain ⟨fb2_3, fc2_4⟩ := u9
      have h27 : rep fb2_3 (sB (cM p b g n e)) ∧ ∀ j, j < n → fc2_4 j = cost p b g j := h27
      refine V_perm (ws2 := [(m9, .inr (9, [.ref al, .ref hs, .int (nI hL), .ref ct, .int (nI (sT (cM p b g n e))), .int (nI (sH (cM p b g n e))), .int (nI (sL (cM p b g n e))), .int (nI (sU (cM p b g n e))), .int (nI (sW (cM p b g n e))), .ref bt, .int (nI ((sB (cM p b g n e)).length)), .ref cs, .ref gv, .int (nI gL), .int (nI tk), .int (nI vv), .ref rd, .int (nI rM), .ref tx, .int (nI tL), .int (nI pl)])), (al, .inl (cI, 44, .inl (fun j => nI ((allF g n e p b) j)))), (ct, .inl (cI, 9, .inl (fun j => nI ((sF (cM p b g n e)) j)))), (bt, .inl (cI, 1400, .inl (fun j => nI (fb2_3 j)))), (cs, .inl (cI, 40, .inl (fun j => nI (fc2_4 j))))]) [0, 1, 2, 3, 4] rfl (by decide) ?_
      refine V_iload_n hC dX9_letterOf_30 rfl 2 rfl ?_
      refine V_tblOut (tgt := 75) hC dX9_letterOf_31 (by decide) (by decide) ?_
      refine V_aload_n hC dX9_letterOf_75 rfl 0 rfl ?_
      refine V_iload_n hC dX9_letterOf_76 rfl 1 rfl ?_
      refine V_calliV (As := [.int (nI k)]) (rest := []) (wr := [(ct, .inl (cI, 9, .inl (fun j => nI ((sF (cM p b g n e)) j)))), (bt, .inl (cI, 1400, .inl (fun j => nI (fb2_3 j)))), (cs, .inl (cI, 40, .inl (fun j => nI (fc2_4 j))))]) hC (c_X9_wouldWrite_e l D cI cQ m9 al hs hL ct (sT (cM p b g n e)) (sH (cM p b g n e)) (sL (cM p b g n e)) (sU (cM p b g n e)) (sW (cM p b g n e)) bt ((sB (cM p b g n e)).length) cs gv gL tk vv rd rM tx tL pl n e p b k g (by omega)) mok_X9_wouldWrite ml_X9_130 (q1 := 0) rfl cls_X9 rfl rfl rfl (by decide) (by decide) (by decide) (Nat.le_of_ble_eq_true rfl) [0, 1] [2, 3, 4] rfl (by decide) rfl (by decide) (by decide) dX9_letterOf_77 rfl (fun r9 u9 h77 => ?_)
      obtain ⟨rfl, h77⟩ := h77
      clear h77
      refine V_perm (ws2 := [(m9, .inr (9, [.ref al, .ref hs, .int (nI hL), .ref ct, .int (nI ((sT (cM p b g n e)))), .int (nI ((sH (cM p b g n e)))), .int (nI ((sL (cM p b g n e)))), .int (nI ((sU (cM p b g n e)))), .int (nI ((sW (cM p b g n e)))), .ref bt, .int (nI (((sB (cM p b g n e)).length))), .ref cs, .ref gv, .int (nI gL), .int (nI tk), .int (nI vv), .ref rd, .int (nI rM), .ref tx, .int (nI tL), .int (nI pl)])), (al, .inl (cI, 44, .inl (fun j => nI ((allF g n e p b) j)))), (ct, .inl (cI, 9, .inl (fun j => nI ((sF (cM p b g n e)) j)))), (bt, .inl (cI, 1400, .inl (fun j => nI (fb2_3 j)))), (cs, .inl (cI, 40, .inl (fun j => nI (fc2_4 j))))]) [3, 4, 0, 1, 2] rfl (by decide) ?_
      subst hQ
      exact V_iret hC hr hlk rfl (by decide) (by decide) dX9_letterOf_80 ((fb2_3, fc2_4)) [0, 1, 2, 3, 4] rfl (by decide) (⟨rfl, trivial⟩)
    · exact False.elim (by omega)
abbrev rm_X9_wouldWrite_end : Room := { frames := 7, cells := 0, slots := 0, locals := 152 }
set_option maxHeartbeats 4000000 in
set_option maxRecDepth 100000 in
theorem c_X9_wouldWrite_end (l : Launch) (D : va_G) (cI cQ : ClassId) (m9 al hs hL ct tt hv lo hi wt bt bL cs gv gL tk vv rd rM tx tL pl n p b : Nat) (g f fb fc : Nat → Nat) (hn : n ≤ 40) (hg : ∀ j, j < n → g j < 8) (hb : b ≤ 2000) (hp : p ≤ 64) : MI l yX9_wouldWrite cX9_wouldWrite 3 (some .int) rm_X9_wouldWrite_end D (TY cI cQ) [.ref m9, .int (nI 8)] [(m9, .inr (9, [.ref al, .ref hs, .int (nI hL), .ref ct, .int (nI tt), .int (nI hv), .int (nI lo), .int (nI hi), .int (nI wt), .ref bt, .int (nI bL), .ref cs, .ref gv, .int (nI gL), .int (nI tk), .int (nI vv), .ref rd, .int (nI rM), .ref tx, .int (nI tL), .int (nI pl)])), (al, .inl (cI, 44, .inl (fun j => nI ((allF g n 0 p b) j)))), (ct, .inl (cI, 9, .inl (fun j => nI (f j)))), (bt, .inl (cI, 1400, .inl (fun j => nI (fb j)))), (cs, .inl (cI, 40, .inl (fun j => nI (fc j))))] (fun (r9 : Int32) (u : (Nat → Nat) × (Nat → Nat)) => r9 = (nI ((sB (cEnd (cR p b g n))).length - (sB (cR p b g n)).length)) ∧ (True)) (fun (u : (Nat → Nat) × (Nat → Nat)) => [(m9, .inr (9, [.ref al, .ref hs, .int (nI hL), .ref ct, .int (nI (sT (cEnd (cR p b g n)))), .int (nI (sH (cEnd (cR p b g n)))), .int (nI (sL (cEnd (cR p b g n)))), .int (nI (sU (cEnd (cR p b g n)))), .int (nI (sW (cEnd (cR p b g n)))), .ref bt, .int (nI ((sB (cEnd (cR p b g n))).length)), .ref cs, .ref gv, .int (nI gL), .int (nI tk), .int (nI vv), .ref rd, .int (nI rM), .ref tx, .int (nI tL), .int (nI pl)])), (al, .inl (cI, 44, .inl (fun j => nI ((allF g n 0 p b) j)))), (ct, .inl (cI, 9, .inl (fun j => nI ((sF (cEnd (cR p b g n))) j)))), (bt, .inl (cI, 1400, .inl (fun j => nI (u.1 j)))), (cs, .inl (cI, 40, .inl (fun j => nI (u.2 j))))]) 0 0 := by
  refine MI.start (by decide) (Nat.le_of_ble_eq_true rfl) (lv0 := [(0, .ref m9), (1, .int (nI 8))]) rfl ?_
  intro pp9 ee9 ss9 mm9 args9 below9 meth9 co9 A9 Q9 hQ hC hr hlk hnm
  have hle := cEnd_len (cR p b g n)
  have hlc := cR_len p b g n
  refine V_aload_n hC dX9_wouldWrite_0 rfl 0 rfl ?_
  refine V_get (ci := 9) (v := .ref al) hC in_X9 0 rfl cls_X9 0 (by decide) fl_X9_7 rfl dX9_wouldWrite_1 ?_
  refine V_iconst (v := nI 3) hC dX9_wouldWrite_4 (by decide) ?_
  refine V_iald hC 1 0 rfl rfl (by omega) (by decide) dX9_wouldWrite_5 ?_
  refine V_st (st2 := [.int (nI 0)]) (by rw [show ((allF g n 0 p b) 3) = (0) from rfl]) ?_
  refine V_iconst (v := nI 1) hC dX9_wouldWrite_6 (by decide) ?_
  refine V_icmp_ne_T (tgt := 13) hC dX9_wouldWrite_7 (by decide) (fun z => absurd ((nI_eq (by omega) (by omega)).mp z) (show ¬ 0 = 1 by omega)) ?_
  refine V_aload_n hC dX9_wouldWrite_13 rfl 0 rfl ?_
  refine V_calliV (As := []) (rest := []) (wr := []) hC (c_X9_bitsNow l D cI cQ m9 al hs hL ct tt hv lo hi wt bt bL cs gv gL tk vv rd rM tx tL pl n 0 p b g f fb fc (by omega) (hg) (by omega) (by omega) (by omega)) mok_X9_bitsNow ml_X9_109 (q1 := 0) rfl cls_X9 rfl rfl rfl (by decide) (by decide) (by decide) (Nat.le_of_ble_eq_true rfl) [0, 1, 2, 3, 4] [] rfl (by decide) rfl (by decide) (by decide) dX9_wouldWrite_14 rfl (fun r9 u9 h14 => ?_)
  obtain ⟨fb2_1, fc2_2⟩ := u9
  obtain ⟨rfl, h14⟩ := h14
  have h14 : rep fb2_1 (sB (cM p b g n 0)) ∧ ∀ j, j < n → fc2_2 j = cost p b g j := h14
  refine V_perm (ws2 := [(m9, .inr (9, [.ref al, .ref hs, .int (nI hL), .ref ct, .int (nI (sT (cM p b g n 0))), .int (nI (sH (cM p b g n 0))), .int (nI (sL (cM p b g n 0))), .int (nI (sU (cM p b g n 0))), .int (nI (sW (cM p b g n 0))), .ref bt, .int (nI ((sB (cM p b g n 0)).length)), .ref cs, .ref gv, .int (nI gL), .int (nI tk), .int (nI vv), .ref rd, .int (nI rM), .ref tx, .int (nI tL), .int (nI pl)])), (al, .inl (cI, 44, .inl (fun j => nI ((allF g n 0 p b) j)))), (ct, .inl (cI, 9, .inl (fun j => nI ((sF (cM p b g n 0)) j)))), (bt, .inl (cI, 1400, .inl (fun j => nI (fb2_1 j)))), (cs, .inl (cI, 40, .inl (fun j => nI (fc2_2 j))))]) [0, 1, 2, 3, 4] rfl (by decide) ?_
  refine V_ws (ws2 := [(m9, .inr (9, [.ref al, .ref hs, .int (nI hL), .ref ct, .int (nI (sT (cR p b g n))), .int (nI (sH (cR p b g n))), .int (nI (sL (cR p b g n))), .int (nI (sU (cR p b g n))), .int (nI (sW (cR p b g n))), .ref bt, .int (nI ((sB (cR p b g n)).length)), .ref cs, .ref gv, .int (nI gL), .int (nI tk), .int (nI vv), .ref rd, .int (nI rM), .ref tx, .int (nI tL), .int (nI pl)])), (al, .inl (cI, 44, .inl (fun j => nI ((allF g n 0 p b) j)))), (ct, .inl (cI, 9, .inl (fun j => nI ((sF (cR p b g n)) j)))), (bt, .inl (cI, 1400, .inl (fun j => nI (fb2_1 j)))), (cs, .inl (cI, 40, .inl (fun j => nI (fc2_2 j))))]) (by rw [cM_0]) ?_
  refine V_st (st2 := [.int (nI ((sB (cR p b g n)).length))]) (by rw [show ((sB (cM p b g n 0)).length) = ((sB (cR p b g n)).length) from by rw [cM_0]]) ?_
  rw [cM_0] at h14
  refine V_istore_n (lv2 := [(0, .ref m9), (1, .int (nI 8)), (2, .int (nI ((sB (cR p b g n)).length)))]) hC dX9_wouldWrite_17 rfl (by decide) [1, 2, 0] rfl ?_
  refine V_iload_n hC dX9_wouldWrite_18 rfl 1 rfl ?_
  refine V_bipush (v := nI 8) hC dX9_wouldWrite_19 (by decide) ?_
  refine V_icmp_ne_F (tgt := 31) hC dX9_wouldWrite_21 (by decide) (congrArg nI (show 8 = 8 by omega)) ?_
  refine V_aload_n hC dX9_wouldWrite_24 rfl 0 rfl ?_
  refine V_callvV (As := []) (rest := []) (wr := [(al, .inl (cI, 44, .inl (fun j => nI ((allF g n 0 p b) j)))), (cs, .inl (cI, 40, .inl (fun j => nI (fc2_2 j))))]) hC (c_X9_ends l D cI cQ m9 al hs hL ct bt cs gv gL tk vv rd rM tx tL pl fb2_1 (cR p b g n) (cR_ok hp hb hg) (h14.1) (by omega)) mok_X9_ends ml_X9_90 (q1 := 0) rfl cls_X9 rfl rfl rfl (by decide) (by decide) (by decide) (Nat.le_of_ble_eq_true rfl) [0, 2, 3] [1, 4] rfl (by decide) rfl (by decide) (by decide) dX9_wouldWrite_25 rfl (fun u9 h25 => ?_)
  obtain ⟨fb2_3, rfl⟩ : ∃ z, z = u9 := ⟨_, rfl⟩
  have h25 : rep fb2_3 (sB (cEnd (cR p b g n))) := h25
  refine V_perm (ws2 := [(m9, .inr (9, [.ref al, .ref hs, .int (nI hL), .ref ct, .int (nI (sT (cEnd (cR p b g n)))), .int (nI (sH (cEnd (cR p b g n)))), .int (nI (sL (cEnd (cR p b g n)))), .int (nI (sU (cEnd (cR p b g n)))), .int (nI (sW (cEnd (cR p b g n)))), .ref bt, .int (nI ((sB (cEnd (cR p b g n))).length)), .ref cs, .ref gv, .int (nI gL), .int (nI tk), .int (nI vv), .ref rd, .int (nI rM), .ref tx, .int (nI tL), .int (nI pl)])), (al, .inl (cI, 44, .inl (fun j => nI ((allF g n 0 p b) j)))), (ct, .inl (cI, 9, .inl (fun j => nI ((sF (cEnd (cR p b g n))) j)))), (bt, .inl (cI, 1400, .inl (fun j => nI (fb2_3 j)))), (cs, .inl (cI, 40, .inl (fun j => nI (fc2_2 j))))]) [2, 0, 3, 4, 1] rfl (by decide) ?_
  refine V_goto (tgt := 36) hC dX9_wouldWrite_28 (by decide) ?_
  refine V_aload_n hC dX9_wouldWrite_36 rfl 0 rfl ?_
  refine V_get (ci := 9) (v := .int (nI ((sB (cEnd (cR p b g n))).length))) hC in_X9 0 rfl cls_X9 10 (by decide) fl_X9_44 rfl dX9_wouldWrite_37 ?_
  refine V_iload_n hC dX9_wouldWrite_40 rfl 2 rfl ?_
  refine V_isub hC dX9_wouldWrite_41 (by omega) ?_
  subst hQ
  exact V_iret hC hr hlk rfl (by decide) (by decide) dX9_wouldWrite_42 ((fb2_3, fc2_2)) [0, 1, 2, 3, 4] rfl (by decide) (⟨rfl, trivial⟩)
abbrev rm_X9_wouldWrite_add : Room := { frames := 7, cells := 0, slots := 0, locals := 152 }
set_option maxHeartbeats 4000000 in
set_option maxRecDepth 100000 in
theorem c_X9_wouldWrite_add (l : Launch) (D : va_G) (cI cQ : ClassId) (m9 al hs hL ct tt hv lo hi wt bt bL cs gv gL tk vv rd rM tx tL pl n p b k : Nat) (g f fb fc : Nat → Nat) (hn : n ≤ 40) (hg : ∀ j, j < n → g j < 8) (hb : b ≤ 2000) (hp : p ≤ 64) (hk : k < 8) : MI l yX9_wouldWrite cX9_wouldWrite 3 (some .int) rm_X9_wouldWrite_add D (TY cI cQ) [.ref m9, .int (nI k)] [(m9, .inr (9, [.ref al, .ref hs, .int (nI hL), .ref ct, .int (nI tt), .int (nI hv), .int (nI lo), .int (nI hi), .int (nI wt), .ref bt, .int (nI bL), .ref cs, .ref gv, .int (nI gL), .int (nI tk), .int (nI vv), .ref rd, .int (nI rM), .ref tx, .int (nI tL), .int (nI pl)])), (al, .inl (cI, 44, .inl (fun j => nI ((allF g n 0 p b) j)))), (ct, .inl (cI, 9, .inl (fun j => nI (f j)))), (bt, .inl (cI, 1400, .inl (fun j => nI (fb j)))), (cs, .inl (cI, 40, .inl (fun j => nI (fc j))))] (fun (r9 : Int32) (u : (Nat → Nat) × (Nat → Nat)) => r9 = (nI ((sB (cAdd p b (cR p b g n) k)).length - (sB (cR p b g n)).length)) ∧ (True)) (fun (u : (Nat → Nat) × (Nat → Nat)) => [(m9, .inr (9, [.ref al, .ref hs, .int (nI hL), .ref ct, .int (nI (sT ((sF (cR p b g n), sT (cR p b g n), sH (cR p b g n), (nrS (cR p b g n) k).1, (nrS (cR p b g n) k).2.1, (nrS (cR p b g n) k).2.2.1, (nrS (cR p b g n) k).2.2.2)))), .int (nI (sH ((sF (cR p b g n), sT (cR p b g n), sH (cR p b g n), (nrS (cR p b g n) k).1, (nrS (cR p b g n) k).2.1, (nrS (cR p b g n) k).2.2.1, (nrS (cR p b g n) k).2.2.2)))), .int (nI (sL ((sF (cR p b g n), sT (cR p b g n), sH (cR p b g n), (nrS (cR p b g n) k).1, (nrS (cR p b g n) k).2.1, (nrS (cR p b g n) k).2.2.1, (nrS (cR p b g n) k).2.2.2)))), .int (nI (sU ((sF (cR p b g n), sT (cR p b g n), sH (cR p b g n), (nrS (cR p b g n) k).1, (nrS (cR p b g n) k).2.1, (nrS (cR p b g n) k).2.2.1, (nrS (cR p b g n) k).2.2.2)))), .int (nI (sW ((sF (cR p b g n), sT (cR p b g n), sH (cR p b g n), (nrS (cR p b g n) k).1, (nrS (cR p b g n) k).2.1, (nrS (cR p b g n) k).2.2.1, (nrS (cR p b g n) k).2.2.2)))), .ref bt, .int (nI ((sB ((sF (cR p b g n), sT (cR p b g n), sH (cR p b g n), (nrS (cR p b g n) k).1, (nrS (cR p b g n) k).2.1, (nrS (cR p b g n) k).2.2.1, (nrS (cR p b g n) k).2.2.2))).length)), .ref cs, .ref gv, .int (nI gL), .int (nI tk), .int (nI vv), .ref rd, .int (nI rM), .ref tx, .int (nI tL), .int (nI pl)])), (al, .inl (cI, 44, .inl (fun j => nI ((allF g n 0 p b) j)))), (ct, .inl (cI, 9, .inl (fun j => nI ((sF ((sF (cR p b g n), sT (cR p b g n), sH (cR p b g n), (nrS (cR p b g n) k).1, (nrS (cR p b g n) k).2.1, (nrS (cR p b g n) k).2.2.1, (nrS (cR p b g n) k).2.2.2))) j)))), (bt, .inl (cI, 1400, .inl (fun j => nI (u.1 j)))), (cs, .inl (cI, 40, .inl (fun j => nI (u.2 j))))]) 0 0 := by
  refine MI.start (by decide) (Nat.le_of_ble_eq_true rfl) (lv0 := [(0, .ref m9), (1, .int (nI k))]) rfl ?_
  intro pp9 ee9 ss9 mm9 args9 below9 meth9 co9 A9 Q9 hQ hC hr hlk hnm
  have hle := nrS_len (cR p b g n) k
  have hlc := cR_len p b g n
  have hS := cR_ok hp hb hg
  refine V_aload_n hC dX9_wouldWrite_0 rfl 0 rfl ?_
  refine V_get (ci := 9) (v := .ref al) hC in_X9 0 rfl cls_X9 0 (by decide) fl_X9_7 rfl dX9_wouldWrite_1 ?_
  refine V_iconst (v := nI 3) hC dX9_wouldWrite_4 (by decide) ?_
  refine V_iald hC 1 0 rfl rfl (by omega) (by decide) dX9_wouldWrite_5 ?_
  refine V_st (st2 := [.int (nI 0)]) (by rw [show ((allF g n 0 p b) 3) = (0) from rfl]) ?_
  refine V_iconst (v := nI 1) hC dX9_wouldWrite_6 (by decide) ?_
  refine V_icmp_ne_T (tgt := 13) hC dX9_wouldWrite_7 (by decide) (fun z => absurd ((nI_eq (by omega) (by omega)).mp z) (show ¬ 0 = 1 by omega)) ?_
  refine V_aload_n hC dX9_wouldWrite_13 rfl 0 rfl ?_
  refine V_calliV (As := []) (rest := []) (wr := []) hC (c_X9_bitsNow l D cI cQ m9 al hs hL ct tt hv lo hi wt bt bL cs gv gL tk vv rd rM tx tL pl n 0 p b g f fb fc (by omega) (hg) (by omega) (by omega) (by omega)) mok_X9_bitsNow ml_X9_109 (q1 := 0) rfl cls_X9 rfl rfl rfl (by decide) (by decide) (by decide) (Nat.le_of_ble_eq_true rfl) [0, 1, 2, 3, 4] [] rfl (by decide) rfl (by decide) (by decide) dX9_wouldWrite_14 rfl (fun r9 u9 h14 => ?_)
  obtain ⟨fb2_1, fc2_2⟩ := u9
  obtain ⟨rfl, h14⟩ := h14
  have h14 : rep fb2_1 (sB (cM p b g n 0)) ∧ ∀ j, j < n → fc2_2 j = cost p b g j := h14
  refine V_perm (ws2 := [(m9, .inr (9, [.ref al, .ref hs, .int (nI hL), .ref ct, .int (nI (sT (cM p b g n 0))), .int (nI (sH (cM p b g n 0))), .int (nI (sL (cM p b g n 0))), .int (nI (sU (cM p b g n 0))), .int (nI (sW (cM p b g n 0))), .ref bt, .int (nI ((sB (cM p b g n 0)).length)), .ref cs, .ref gv, .int (nI gL), .int (nI tk), .int (nI vv), .ref rd, .int (nI rM), .ref tx, .int (nI tL), .int (nI pl)])), (al, .inl (cI, 44, .inl (fun j => nI ((allF g n 0 p b) j)))), (ct, .inl (cI, 9, .inl (fun j => nI ((sF (cM p b g n 0)) j)))), (bt, .inl (cI, 1400, .inl (fun j => nI (fb2_1 j)))), (cs, .inl (cI, 40, .inl (fun j => nI (fc2_2 j))))]) [0, 1, 2, 3, 4] rfl (by decide) ?_
  refine V_ws (ws2 := [(m9, .inr (9, [.ref al, .ref hs, .int (nI hL), .ref ct, .int (nI (sT (cR p b g n))), .int (nI (sH (cR p b g n))), .int (nI (sL (cR p b g n))), .int (nI (sU (cR p b g n))), .int (nI (sW (cR p b g n))), .ref bt, .int (nI ((sB (cR p b g n)).length)), .ref cs, .ref gv, .int (nI gL), .int (nI tk), .int (nI vv), .ref rd, .int (nI rM), .ref tx, .int (nI tL), .int (nI pl)])), (al, .inl (cI, 44, .inl (fun j => nI ((allF g n 0 p b) j)))), (ct, .inl (cI, 9, .inl (fun j => nI ((sF (cR p b g n)) j)))), (bt, .inl (cI, 1400, .inl (fun j => nI (fb2_1 j)))), (cs, .inl (cI, 40, .inl (fun j => nI (fc2_2 j))))]) (by rw [cM_0]) ?_
  refine V_st (st2 := [.int (nI ((sB (cR p b g n)).length))]) (by rw [show ((sB (cM p b g n 0)).length) = ((sB (cR p b g n)).length) from by rw [cM_0]]) ?_
  rw [cM_0] at h14
  refine V_istore_n (lv2 := [(0, .ref m9), (1, .int (nI k)), (2, .int (nI ((sB (cR p b g n)).length)))]) hC dX9_wouldWrite_17 rfl (by decide) [1, 2, 0] rfl ?_
  refine V_iload_n hC dX9_wouldWrite_18 rfl 1 rfl ?_
  refine V_bipush (v := nI 8) hC dX9_wouldWrite_19 (by decide) ?_
  refine V_icmp_ne_T (tgt := 31) hC dX9_wouldWrite_21 (by decide) (fun z => absurd ((nI_eq (by omega) (by omega)).mp z) (show ¬ k = 8 by omega)) ?_
  refine V_aload_n hC dX9_wouldWrite_31 rfl 0 rfl ?_
  refine V_iload_n hC dX9_wouldWrite_32 rfl 1 rfl ?_
  refine V_callvV (As := [.int (nI k)]) (rest := []) (wr := [(al, .inl (cI, 44, .inl (fun j => nI ((allF g n 0 p b) j)))), (cs, .inl (cI, 40, .inl (fun j => nI (fc2_2 j))))]) hC (c_X9_narrows l D cI cQ m9 al hs hL ct (sT (cR p b g n)) (sH (cR p b g n)) (sL (cR p b g n)) (sU (cR p b g n)) (sW (cR p b g n)) bt ((sB (cR p b g n)).length) cs gv gL tk vv rd rM tx tL pl k (sF (cR p b g n)) fb2_1 (sB (cR p b g n)) (by omega) (hS.1) (⟨hS.2.1, hS.2.2.1⟩) (hS.wide) (rfl) (h14.1) (by omega)) mok_X9_narrows ml_X9_80 (q1 := 0) rfl cls_X9 rfl rfl rfl (by decide) (by decide) (by decide) (Nat.le_of_ble_eq_true rfl) [0, 2, 3] [1, 4] rfl (by decide) rfl (by decide) (by decide) dX9_wouldWrite_33 rfl (fun u9 h33 => ?_)
  obtain ⟨fb2_3, rfl⟩ : ∃ z, z = u9 := ⟨_, rfl⟩
  have h33 : rep fb2_3 (nr 16 (shL (sF (cR p b g n)) (sT (cR p b g n)) k (sL (cR p b g n)) (sU (cR p b g n))) (shU (sF (cR p b g n)) (sT (cR p b g n)) k (sL (cR p b g n)) (sU (cR p b g n))) (sW (cR p b g n)) (sB (cR p b g n))).2.2.2 := h33
  refine V_perm (ws2 := [(m9, .inr (9, [.ref al, .ref hs, .int (nI hL), .ref ct, .int (nI ((sT (cR p b g n)))), .int (nI ((sH (cR p b g n)))), .int (nI ((nr 16 (shL (sF (cR p b g n)) (sT (cR p b g n)) k (sL (cR p b g n)) (sU (cR p b g n))) (shU (sF (cR p b g n)) (sT (cR p b g n)) k (sL (cR p b g n)) (sU (cR p b g n))) (sW (cR p b g n)) (sB (cR p b g n))).1)), .int (nI ((nr 16 (shL (sF (cR p b g n)) (sT (cR p b g n)) k (sL (cR p b g n)) (sU (cR p b g n))) (shU (sF (cR p b g n)) (sT (cR p b g n)) k (sL (cR p b g n)) (sU (cR p b g n))) (sW (cR p b g n)) (sB (cR p b g n))).2.1)), .int (nI ((nr 16 (shL (sF (cR p b g n)) (sT (cR p b g n)) k (sL (cR p b g n)) (sU (cR p b g n))) (shU (sF (cR p b g n)) (sT (cR p b g n)) k (sL (cR p b g n)) (sU (cR p b g n))) (sW (cR p b g n)) (sB (cR p b g n))).2.2.1)), .ref bt, .int (nI ((nr 16 (shL (sF (cR p b g n)) (sT (cR p b g n)) k (sL (cR p b g n)) (sU (cR p b g n))) (shU (sF (cR p b g n)) (sT (cR p b g n)) k (sL (cR p b g n)) (sU (cR p b g n))) (sW (cR p b g n)) (sB (cR p b g n))).2.2.2.length)), .ref cs, .ref gv, .int (nI gL), .int (nI tk), .int (nI vv), .ref rd, .int (nI rM), .ref tx, .int (nI tL), .int (nI pl)])), (al, .inl (cI, 44, .inl (fun j => nI ((allF g n 0 p b) j)))), (ct, .inl (cI, 9, .inl (fun j => nI (((sF (cR p b g n))) j)))), (bt, .inl (cI, 1400, .inl (fun j => nI (fb2_3 j)))), (cs, .inl (cI, 40, .inl (fun j => nI (fc2_2 j))))]) [2, 0, 3, 4, 1] rfl (by decide) ?_
  refine V_ws (ws2 := [(m9, .inr (9, [.ref al, .ref hs, .int (nI hL), .ref ct, .int (nI (sT ((sF (cR p b g n), sT (cR p b g n), sH (cR p b g n), (nrS (cR p b g n) k).1, (nrS (cR p b g n) k).2.1, (nrS (cR p b g n) k).2.2.1, (nrS (cR p b g n) k).2.2.2)))), .int (nI (sH ((sF (cR p b g n), sT (cR p b g n), sH (cR p b g n), (nrS (cR p b g n) k).1, (nrS (cR p b g n) k).2.1, (nrS (cR p b g n) k).2.2.1, (nrS (cR p b g n) k).2.2.2)))), .int (nI (sL ((sF (cR p b g n), sT (cR p b g n), sH (cR p b g n), (nrS (cR p b g n) k).1, (nrS (cR p b g n) k).2.1, (nrS (cR p b g n) k).2.2.1, (nrS (cR p b g n) k).2.2.2)))), .int (nI (sU ((sF (cR p b g n), sT (cR p b g n), sH (cR p b g n), (nrS (cR p b g n) k).1, (nrS (cR p b g n) k).2.1, (nrS (cR p b g n) k).2.2.1, (nrS (cR p b g n) k).2.2.2)))), .int (nI (sW ((sF (cR p b g n), sT (cR p b g n), sH (cR p b g n), (nrS (cR p b g n) k).1, (nrS (cR p b g n) k).2.1, (nrS (cR p b g n) k).2.2.1, (nrS (cR p b g n) k).2.2.2)))), .ref bt, .int (nI ((sB ((sF (cR p b g n), sT (cR p b g n), sH (cR p b g n), (nrS (cR p b g n) k).1, (nrS (cR p b g n) k).2.1, (nrS (cR p b g n) k).2.2.1, (nrS (cR p b g n) k).2.2.2))).length)), .ref cs, .ref gv, .int (nI gL), .int (nI tk), .int (nI vv), .ref rd, .int (nI rM), .ref tx, .int (nI tL), .int (nI pl)])), (al, .inl (cI, 44, .inl (fun j => nI ((allF g n 0 p b) j)))), (ct, .inl (cI, 9, .inl (fun j => nI ((sF ((sF (cR p b g n), sT (cR p b g n), sH (cR p b g n), (nrS (cR p b g n) k).1, (nrS (cR p b g n) k).2.1, (nrS (cR p b g n) k).2.2.1, (nrS (cR p b g n) k).2.2.2))) j)))), (bt, .inl (cI, 1400, .inl (fun j => nI (fb2_3 j)))), (cs, .inl (cI, 40, .inl (fun j => nI (fc2_2 j))))]) (rfl) ?_
  refine V_aload_n hC dX9_wouldWrite_36 rfl 0 rfl ?_
  refine V_get (ci := 9) (v := .int (nI ((sB ((sF (cR p b g n), sT (cR p b g n), sH (cR p b g n), (nrS (cR p b g n) k).1, (nrS (cR p b g n) k).2.1, (nrS (cR p b g n) k).2.2.1, (nrS (cR p b g n) k).2.2.2))).length))) hC in_X9 0 rfl cls_X9 10 (by decide) fl_X9_44 rfl dX9_wouldWrite_37 ?_
  refine V_iload_n hC dX9_wouldWrite_40 rfl 2 rfl ?_
  refine V_isub hC dX9_wouldWrite_41 (show (sB (cR p b g n)).length ≤ (nrS (cR p b g n) k).2.2.2.length from hle.1) ?_
  refine V_st (st2 := [.int (nI ((sB (cAdd p b (cR p b g n) k)).length - (sB (cR p b g n)).length))]) (by rw [show (((sB ((sF (cR p b g n), sT (cR p b g n), sH (cR p b g n), (nrS (cR p b g n) k).1, (nrS (cR p b g n) k).2.1, (nrS (cR p b g n) k).2.2.1, (nrS (cR p b g n) k).2.2.2))).length) - ((sB (cR p b g n)).length)) = ((sB (cAdd p b (cR p b g n) k)).length - (sB (cR p b g n)).length) from rfl]) ?_
  subst hQ
  exact V_iret hC hr hlk rfl (by decide) (by decide) dX9_wouldWrite_42 ((fb2_3, fc2_2)) [0, 1, 2, 3, 4] rfl (by decide) (⟨rfl, trivial⟩)
abbrev rm_X9_letterOf_3end : Room := { frames := 8, cells := 0, slots := 0, locals := 174 }
set_option maxHeartbeats 4000000 in
set_option maxRecDepth 100000 in
theorem c_X9_letterOf_3end (l : Launch) (D : va_G) (cI cQ : ClassId) (m9 al hs hL ct tt hv lo hi wt bt bL cs gv gL tk vv rd rM tx tL pl n p b : Nat) (g f fb fc : Nat → Nat) (hn : n ≤ 40) (hg : ∀ j, j < n → g j < 8) (hb : b ≤ 2000) (hp : p ≤ 64) : MI l yX9_letterOf cX9_letterOf 3 (some .int) rm_X9_letterOf_3end D (TY cI cQ) [.ref m9, .int (nI 8), .int (nI 3)] [(m9, .inr (9, [.ref al, .ref hs, .int (nI hL), .ref ct, .int (nI tt), .int (nI hv), .int (nI lo), .int (nI hi), .int (nI wt), .ref bt, .int (nI bL), .ref cs, .ref gv, .int (nI gL), .int (nI tk), .int (nI vv), .ref rd, .int (nI rM), .ref tx, .int (nI tL), .int (nI pl)])), (al, .inl (cI, 44, .inl (fun j => nI ((allF g n 0 p b) j)))), (ct, .inl (cI, 9, .inl (fun j => nI (f j)))), (bt, .inl (cI, 1400, .inl (fun j => nI (fb j)))), (cs, .inl (cI, 40, .inl (fun j => nI (fc j))))] (fun (r9 : Int32) (u : (Nat → Nat) × (Nat → Nat)) => r9 = (nI ((sB (cEnd (cR p b g n))).length - (sB (cR p b g n)).length)) ∧ (True)) (fun (u : (Nat → Nat) × (Nat → Nat)) => [(m9, .inr (9, [.ref al, .ref hs, .int (nI hL), .ref ct, .int (nI (sT (cEnd (cR p b g n)))), .int (nI (sH (cEnd (cR p b g n)))), .int (nI (sL (cEnd (cR p b g n)))), .int (nI (sU (cEnd (cR p b g n)))), .int (nI (sW (cEnd (cR p b g n)))), .ref bt, .int (nI ((sB (cEnd (cR p b g n))).length)), .ref cs, .ref gv, .int (nI gL), .int (nI tk), .int (nI vv), .ref rd, .int (nI rM), .ref tx, .int (nI tL), .int (nI pl)])), (al, .inl (cI, 44, .inl (fun j => nI ((allF g n 0 p b) j)))), (ct, .inl (cI, 9, .inl (fun j => nI ((sF (cEnd (cR p b g n))) j)))), (bt, .inl (cI, 1400, .inl (fun j => nI (u.1 j)))), (cs, .inl (cI, 40, .inl (fun j => nI (u.2 j))))]) 0 0 := by
  refine MI.start (by decide) (Nat.le_of_ble_eq_true rfl) (lv0 := [(0, .ref m9), (1, .int (nI 8)), (2, .int (nI 3))]) rfl ?_
  intro pp9 ee9 ss9 mm9 args9 below9 meth9 co9 A9 Q9 hQ hC hr hlk hnm
  refine V_iload_n hC dX9_letterOf_0 rfl 1 rfl ?_
  refine V_i2l (v := lN 8) hC dX9_letterOf_1 (nI_l (by omega)) ?_
  refine V_lconst (v := lN 0) hC dX9_letterOf_2 rfl ?_
  refine V_ldc2 (v2 := lN 8) hC dX9_letterOf_3 cstl_X9_123 rfl ?_
  refine V_calliS (As := [.long (lN 8), .long (lN 0), .long (lN 8)]) (rest := []) (wr := [(m9, .inr (9, [.ref al, .ref hs, .int (nI hL), .ref ct, .int (nI tt), .int (nI hv), .int (nI lo), .int (nI hi), .int (nI wt), .ref bt, .int (nI bL), .ref cs, .ref gv, .int (nI gL), .int (nI tk), .int (nI vv), .ref rd, .int (nI rM), .ref tx, .int (nI tL), .int (nI pl)])), (al, .inl (cI, 44, .inl (fun j => nI ((allF g n 0 p b) j)))), (ct, .inl (cI, 9, .inl (fun j => nI (f j)))), (bt, .inl (cI, 1400, .inl (fun j => nI (fb j)))), (cs, .inl (cI, 40, .inl (fun j => nI (fc j))))]) hC (c_X9_in l D cI cQ 8 0 8 (by omega) (by omega) (by omega)) mok_X9_in ml_X9_102 rfl rfl rfl (by decide) (by decide) (by decide) (Nat.le_of_ble_eq_true rfl) [] [0, 1, 2, 3, 4] rfl (by decide) rfl (by decide) (by decide) dX9_letterOf_6 rfl (fun r9 u9 h6 => ?_)
  obtain ⟨u_1, rfl⟩ : ∃ z, z = u9 := ⟨_, rfl⟩
  obtain ⟨rfl, h6⟩ := h6
  have h6 : (u_1 = 1 ∧ 0 ≤ 8 ∧ 8 ≤ 8) ∨ (u_1 = 0 ∧ (8 < 0 ∨ 8 < 8)) := h6
  refine V_perm (ws2 := [(m9, .inr (9, [.ref al, .ref hs, .int (nI hL), .ref ct, .int (nI tt), .int (nI hv), .int (nI lo), .int (nI hi), .int (nI wt), .ref bt, .int (nI bL), .ref cs, .ref gv, .int (nI gL), .int (nI tk), .int (nI vv), .ref rd, .int (nI rM), .ref tx, .int (nI tL), .int (nI pl)])), (al, .inl (cI, 44, .inl (fun j => nI ((allF g n 0 p b) j)))), (ct, .inl (cI, 9, .inl (fun j => nI (f j)))), (bt, .inl (cI, 1400, .inl (fun j => nI (fb j)))), (cs, .inl (cI, 40, .inl (fun j => nI (fc j))))]) [0, 1, 2, 3, 4] rfl (by decide) ?_
  refine V_if_eq (tgt := 24) hC (by omega) dX9_letterOf_9 (by decide) (fun c9 => ?_) (fun c9 => ?_)
  · exact False.elim (by omega)
  · refine V_iload_n hC dX9_letterOf_12 rfl 2 rfl ?_
    refine V_i2l (v := lN 3) hC dX9_letterOf_13 (nI_l (by omega)) ?_
    refine V_lconst (v := lN 0) hC dX9_letterOf_14 rfl ?_
    refine V_ldc2 (v2 := lN 3) hC dX9_letterOf_15 cstl_X9_125 rfl ?_
    refine V_calliS (As := [.long (lN 3), .long (lN 0), .long (lN 3)]) (rest := []) (wr := [(m9, .inr (9, [.ref al, .ref hs, .int (nI hL), .ref ct, .int (nI tt), .int (nI hv), .int (nI lo), .int (nI hi), .int (nI wt), .ref bt, .int (nI bL), .ref cs, .ref gv, .int (nI gL), .int (nI tk), .int (nI vv), .ref rd, .int (nI rM), .ref tx, .int (nI tL), .int (nI pl)])), (al, .inl (cI, 44, .inl (fun j => nI ((allF g n 0 p b) j)))), (ct, .inl (cI, 9, .inl (fun j => nI (f j)))), (bt, .inl (cI, 1400, .inl (fun j => nI (fb j)))), (cs, .inl (cI, 40, .inl (fun j => nI (fc j))))]) hC (c_X9_in l D cI cQ 3 0 3 (by omega) (by omega) (by omega)) mok_X9_in ml_X9_102 rfl rfl rfl (by decide) (by decide) (by decide) (Nat.le_of_ble_eq_true rfl) [] [0, 1, 2, 3, 4] rfl (by decide) rfl (by decide) (by decide) dX9_letterOf_18 rfl (fun r9 u9 h18 => ?_)
    obtain ⟨u_2, rfl⟩ : ∃ z, z = u9 := ⟨_, rfl⟩
    obtain ⟨rfl, h18⟩ := h18
    have h18 : (u_2 = 1 ∧ 0 ≤ 3 ∧ 3 ≤ 3) ∨ (u_2 = 0 ∧ (3 < 0 ∨ 3 < 3)) := h18
    refine V_perm (ws2 := [(m9, .inr (9, [.ref al, .ref hs, .int (nI hL), .ref ct, .int (nI tt), .int (nI hv), .int (nI lo), .int (nI hi), .int (nI wt), .ref bt, .int (nI bL), .ref cs, .ref gv, .int (nI gL), .int (nI tk), .int (nI vv), .ref rd, .int (nI rM), .ref tx, .int (nI tL), .int (nI pl)])), (al, .inl (cI, 44, .inl (fun j => nI ((allF g n 0 p b) j)))), (ct, .inl (cI, 9, .inl (fun j => nI (f j)))), (bt, .inl (cI, 1400, .inl (fun j => nI (fb j)))), (cs, .inl (cI, 40, .inl (fun j => nI (fc j))))]) [0, 1, 2, 3, 4] rfl (by decide) ?_
    refine V_if_ne (tgt := 26) hC (by omega) dX9_letterOf_21 (by decide) (fun c21 => ?_) (fun c21 => ?_)
    · refine V_aload_n hC dX9_letterOf_26 rfl 0 rfl ?_
      refine V_callvV (As := []) (rest := []) (wr := []) hC (c_X9_putsNow l D cI cQ m9 al hs hL ct tt hv lo hi wt bt bL cs gv gL tk vv rd rM tx tL pl n 0 p b g f fb fc (by omega) (hg) (by omega) (by omega) (by omega)) mok_X9_putsNow ml_X9_97 (q1 := 0) rfl cls_X9 rfl rfl rfl (by decide) (by decide) (by decide) (Nat.le_of_ble_eq_true rfl) [0, 1, 2, 3, 4] [] rfl (by decide) rfl (by decide) (by decide) dX9_letterOf_27 rfl (fun u9 h27 => ?_)
      obtain ⟨fb2_3, fc2_4⟩ := u9
      have h27 : rep fb2_3 (sB (cM p b g n 0)) ∧ ∀ j, j < n → fc2_4 j = cost p b g j := h27
      refine V_perm (ws2 := [(m9, .inr (9, [.ref al, .ref hs, .int (nI hL), .ref ct, .int (nI (sT (cM p b g n 0))), .int (nI (sH (cM p b g n 0))), .int (nI (sL (cM p b g n 0))), .int (nI (sU (cM p b g n 0))), .int (nI (sW (cM p b g n 0))), .ref bt, .int (nI ((sB (cM p b g n 0)).length)), .ref cs, .ref gv, .int (nI gL), .int (nI tk), .int (nI vv), .ref rd, .int (nI rM), .ref tx, .int (nI tL), .int (nI pl)])), (al, .inl (cI, 44, .inl (fun j => nI ((allF g n 0 p b) j)))), (ct, .inl (cI, 9, .inl (fun j => nI ((sF (cM p b g n 0)) j)))), (bt, .inl (cI, 1400, .inl (fun j => nI (fb2_3 j)))), (cs, .inl (cI, 40, .inl (fun j => nI (fc2_4 j))))]) [0, 1, 2, 3, 4] rfl (by decide) ?_
      refine V_iload_n hC dX9_letterOf_30 rfl 2 rfl ?_
      refine V_tblOut (tgt := 75) hC dX9_letterOf_31 (by decide) (by decide) ?_
      refine V_aload_n hC dX9_letterOf_75 rfl 0 rfl ?_
      refine V_iload_n hC dX9_letterOf_76 rfl 1 rfl ?_
      refine V_calliV (As := [.int (nI 8)]) (rest := []) (wr := []) hC (c_X9_wouldWrite_end l D cI cQ m9 al hs hL ct (sT (cM p b g n 0)) (sH (cM p b g n 0)) (sL (cM p b g n 0)) (sU (cM p b g n 0)) (sW (cM p b g n 0)) bt ((sB (cM p b g n 0)).length) cs gv gL tk vv rd rM tx tL pl n p b g (sF (cM p b g n 0)) fb2_3 fc2_4 (by omega) (hg) (by omega) (by omega)) mok_X9_wouldWrite ml_X9_130 (q1 := 0) rfl cls_X9 rfl rfl rfl (by decide) (by decide) (by decide) (Nat.le_of_ble_eq_true rfl) [0, 1, 2, 3, 4] [] rfl (by decide) rfl (by decide) (by decide) dX9_letterOf_77 rfl (fun r9 u9 h77 => ?_)
      obtain ⟨fb2_5, fc2_6⟩ := u9
      obtain ⟨rfl, h77⟩ := h77
      clear h77
      refine V_perm (ws2 := [(m9, .inr (9, [.ref al, .ref hs, .int (nI hL), .ref ct, .int (nI (sT (cEnd (cR p b g n)))), .int (nI (sH (cEnd (cR p b g n)))), .int (nI (sL (cEnd (cR p b g n)))), .int (nI (sU (cEnd (cR p b g n)))), .int (nI (sW (cEnd (cR p b g n)))), .ref bt, .int (nI ((sB (cEnd (cR p b g n))).length)), .ref cs, .ref gv, .int (nI gL), .int (nI tk), .int (nI vv), .ref rd, .int (nI rM), .ref tx, .int (nI tL), .int (nI pl)])), (al, .inl (cI, 44, .inl (fun j => nI ((allF g n 0 p b) j)))), (ct, .inl (cI, 9, .inl (fun j => nI ((sF (cEnd (cR p b g n))) j)))), (bt, .inl (cI, 1400, .inl (fun j => nI (fb2_5 j)))), (cs, .inl (cI, 40, .inl (fun j => nI (fc2_6 j))))]) [0, 1, 2, 3, 4] rfl (by decide) ?_
      subst hQ
      exact V_iret hC hr hlk rfl (by decide) (by decide) dX9_letterOf_80 ((fb2_5, fc2_6)) [0, 1, 2, 3, 4] rfl (by decide) (⟨rfl, trivial⟩)
    · exact False.elim (by omega)
abbrev rm_X9_letterOf_3add : Room := { frames := 8, cells := 0, slots := 0, locals := 174 }
set_option maxHeartbeats 4000000 in
set_option maxRecDepth 100000 in
theorem c_X9_letterOf_3add (l : Launch) (D : va_G) (cI cQ : ClassId) (m9 al hs hL ct tt hv lo hi wt bt bL cs gv gL tk vv rd rM tx tL pl n p b k : Nat) (g f fb fc : Nat → Nat) (hn : n ≤ 40) (hg : ∀ j, j < n → g j < 8) (hb : b ≤ 2000) (hp : p ≤ 64) (hk : k < 8) : MI l yX9_letterOf cX9_letterOf 3 (some .int) rm_X9_letterOf_3add D (TY cI cQ) [.ref m9, .int (nI k), .int (nI 3)] [(m9, .inr (9, [.ref al, .ref hs, .int (nI hL), .ref ct, .int (nI tt), .int (nI hv), .int (nI lo), .int (nI hi), .int (nI wt), .ref bt, .int (nI bL), .ref cs, .ref gv, .int (nI gL), .int (nI tk), .int (nI vv), .ref rd, .int (nI rM), .ref tx, .int (nI tL), .int (nI pl)])), (al, .inl (cI, 44, .inl (fun j => nI ((allF g n 0 p b) j)))), (ct, .inl (cI, 9, .inl (fun j => nI (f j)))), (bt, .inl (cI, 1400, .inl (fun j => nI (fb j)))), (cs, .inl (cI, 40, .inl (fun j => nI (fc j))))] (fun (r9 : Int32) (u : (Nat → Nat) × (Nat → Nat)) => r9 = (nI ((sB (cAdd p b (cR p b g n) k)).length - (sB (cR p b g n)).length)) ∧ (True)) (fun (u : (Nat → Nat) × (Nat → Nat)) => [(m9, .inr (9, [.ref al, .ref hs, .int (nI hL), .ref ct, .int (nI (sT ((sF (cR p b g n), sT (cR p b g n), sH (cR p b g n), (nrS (cR p b g n) k).1, (nrS (cR p b g n) k).2.1, (nrS (cR p b g n) k).2.2.1, (nrS (cR p b g n) k).2.2.2)))), .int (nI (sH ((sF (cR p b g n), sT (cR p b g n), sH (cR p b g n), (nrS (cR p b g n) k).1, (nrS (cR p b g n) k).2.1, (nrS (cR p b g n) k).2.2.1, (nrS (cR p b g n) k).2.2.2)))), .int (nI (sL ((sF (cR p b g n), sT (cR p b g n), sH (cR p b g n), (nrS (cR p b g n) k).1, (nrS (cR p b g n) k).2.1, (nrS (cR p b g n) k).2.2.1, (nrS (cR p b g n) k).2.2.2)))), .int (nI (sU ((sF (cR p b g n), sT (cR p b g n), sH (cR p b g n), (nrS (cR p b g n) k).1, (nrS (cR p b g n) k).2.1, (nrS (cR p b g n) k).2.2.1, (nrS (cR p b g n) k).2.2.2)))), .int (nI (sW ((sF (cR p b g n), sT (cR p b g n), sH (cR p b g n), (nrS (cR p b g n) k).1, (nrS (cR p b g n) k).2.1, (nrS (cR p b g n) k).2.2.1, (nrS (cR p b g n) k).2.2.2)))), .ref bt, .int (nI ((sB ((sF (cR p b g n), sT (cR p b g n), sH (cR p b g n), (nrS (cR p b g n) k).1, (nrS (cR p b g n) k).2.1, (nrS (cR p b g n) k).2.2.1, (nrS (cR p b g n) k).2.2.2))).length)), .ref cs, .ref gv, .int (nI gL), .int (nI tk), .int (nI vv), .ref rd, .int (nI rM), .ref tx, .int (nI tL), .int (nI pl)])), (al, .inl (cI, 44, .inl (fun j => nI ((allF g n 0 p b) j)))), (ct, .inl (cI, 9, .inl (fun j => nI ((sF ((sF (cR p b g n), sT (cR p b g n), sH (cR p b g n), (nrS (cR p b g n) k).1, (nrS (cR p b g n) k).2.1, (nrS (cR p b g n) k).2.2.1, (nrS (cR p b g n) k).2.2.2))) j)))), (bt, .inl (cI, 1400, .inl (fun j => nI (u.1 j)))), (cs, .inl (cI, 40, .inl (fun j => nI (u.2 j))))]) 0 0 := by
  refine MI.start (by decide) (Nat.le_of_ble_eq_true rfl) (lv0 := [(0, .ref m9), (1, .int (nI k)), (2, .int (nI 3))]) rfl ?_
  intro pp9 ee9 ss9 mm9 args9 below9 meth9 co9 A9 Q9 hQ hC hr hlk hnm
  refine V_iload_n hC dX9_letterOf_0 rfl 1 rfl ?_
  refine V_i2l (v := lN k) hC dX9_letterOf_1 (nI_l (by omega)) ?_
  refine V_lconst (v := lN 0) hC dX9_letterOf_2 rfl ?_
  refine V_ldc2 (v2 := lN 8) hC dX9_letterOf_3 cstl_X9_123 rfl ?_
  refine V_calliS (As := [.long (lN k), .long (lN 0), .long (lN 8)]) (rest := []) (wr := [(m9, .inr (9, [.ref al, .ref hs, .int (nI hL), .ref ct, .int (nI tt), .int (nI hv), .int (nI lo), .int (nI hi), .int (nI wt), .ref bt, .int (nI bL), .ref cs, .ref gv, .int (nI gL), .int (nI tk), .int (nI vv), .ref rd, .int (nI rM), .ref tx, .int (nI tL), .int (nI pl)])), (al, .inl (cI, 44, .inl (fun j => nI ((allF g n 0 p b) j)))), (ct, .inl (cI, 9, .inl (fun j => nI (f j)))), (bt, .inl (cI, 1400, .inl (fun j => nI (fb j)))), (cs, .inl (cI, 40, .inl (fun j => nI (fc j))))]) hC (c_X9_in l D cI cQ k 0 8 (by omega) (by omega) (by omega)) mok_X9_in ml_X9_102 rfl rfl rfl (by decide) (by decide) (by decide) (Nat.le_of_ble_eq_true rfl) [] [0, 1, 2, 3, 4] rfl (by decide) rfl (by decide) (by decide) dX9_letterOf_6 rfl (fun r9 u9 h6 => ?_)
  obtain ⟨u_1, rfl⟩ : ∃ z, z = u9 := ⟨_, rfl⟩
  obtain ⟨rfl, h6⟩ := h6
  have h6 : (u_1 = 1 ∧ 0 ≤ k ∧ k ≤ 8) ∨ (u_1 = 0 ∧ (k < 0 ∨ 8 < k)) := h6
  refine V_perm (ws2 := [(m9, .inr (9, [.ref al, .ref hs, .int (nI hL), .ref ct, .int (nI tt), .int (nI hv), .int (nI lo), .int (nI hi), .int (nI wt), .ref bt, .int (nI bL), .ref cs, .ref gv, .int (nI gL), .int (nI tk), .int (nI vv), .ref rd, .int (nI rM), .ref tx, .int (nI tL), .int (nI pl)])), (al, .inl (cI, 44, .inl (fun j => nI ((allF g n 0 p b) j)))), (ct, .inl (cI, 9, .inl (fun j => nI (f j)))), (bt, .inl (cI, 1400, .inl (fun j => nI (fb j)))), (cs, .inl (cI, 40, .inl (fun j => nI (fc j))))]) [0, 1, 2, 3, 4] rfl (by decide) ?_
  refine V_if_eq (tgt := 24) hC (by omega) dX9_letterOf_9 (by decide) (fun c9 => ?_) (fun c9 => ?_)
  · exact False.elim (by omega)
  · refine V_iload_n hC dX9_letterOf_12 rfl 2 rfl ?_
    refine V_i2l (v := lN 3) hC dX9_letterOf_13 (nI_l (by omega)) ?_
    refine V_lconst (v := lN 0) hC dX9_letterOf_14 rfl ?_
    refine V_ldc2 (v2 := lN 3) hC dX9_letterOf_15 cstl_X9_125 rfl ?_
    refine V_calliS (As := [.long (lN 3), .long (lN 0), .long (lN 3)]) (rest := []) (wr := [(m9, .inr (9, [.ref al, .ref hs, .int (nI hL), .ref ct, .int (nI tt), .int (nI hv), .int (nI lo), .int (nI hi), .int (nI wt), .ref bt, .int (nI bL), .ref cs, .ref gv, .int (nI gL), .int (nI tk), .int (nI vv), .ref rd, .int (nI rM), .ref tx, .int (nI tL), .int (nI pl)])), (al, .inl (cI, 44, .inl (fun j => nI ((allF g n 0 p b) j)))), (ct, .inl (cI, 9, .inl (fun j => nI (f j)))), (bt, .inl (cI, 1400, .inl (fun j => nI (fb j)))), (cs, .inl (cI, 40, .inl (fun j => nI (fc j))))]) hC (c_X9_in l D cI cQ 3 0 3 (by omega) (by omega) (by omega)) mok_X9_in ml_X9_102 rfl rfl rfl (by decide) (by decide) (by decide) (Nat.le_of_ble_eq_true rfl) [] [0, 1, 2, 3, 4] rfl (by decide) rfl (by decide) (by decide) dX9_letterOf_18 rfl (fun r9 u9 h18 => ?_)
    obtain ⟨u_2, rfl⟩ : ∃ z, z = u9 := ⟨_, rfl⟩
    obtain ⟨rfl, h18⟩ := h18
    have h18 : (u_2 = 1 ∧ 0 ≤ 3 ∧ 3 ≤ 3) ∨ (u_2 = 0 ∧ (3 < 0 ∨ 3 < 3)) := h18
    refine V_perm (ws2 := [(m9, .inr (9, [.ref al, .ref hs, .int (nI hL), .ref ct, .int (nI tt), .int (nI hv), .int (nI lo), .int (nI hi), .int (nI wt), .ref bt, .int (nI bL), .ref cs, .ref gv, .int (nI gL), .int (nI tk), .int (nI vv), .ref rd, .int (nI rM), .ref tx, .int (nI tL), .int (nI pl)])), (al, .inl (cI, 44, .inl (fun j => nI ((allF g n 0 p b) j)))), (ct, .inl (cI, 9, .inl (fun j => nI (f j)))), (bt, .inl (cI, 1400, .inl (fun j => nI (fb j)))), (cs, .inl (cI, 40, .inl (fun j => nI (fc j))))]) [0, 1, 2, 3, 4] rfl (by decide) ?_
    refine V_if_ne (tgt := 26) hC (by omega) dX9_letterOf_21 (by decide) (fun c21 => ?_) (fun c21 => ?_)
    · refine V_aload_n hC dX9_letterOf_26 rfl 0 rfl ?_
      refine V_callvV (As := []) (rest := []) (wr := []) hC (c_X9_putsNow l D cI cQ m9 al hs hL ct tt hv lo hi wt bt bL cs gv gL tk vv rd rM tx tL pl n 0 p b g f fb fc (by omega) (hg) (by omega) (by omega) (by omega)) mok_X9_putsNow ml_X9_97 (q1 := 0) rfl cls_X9 rfl rfl rfl (by decide) (by decide) (by decide) (Nat.le_of_ble_eq_true rfl) [0, 1, 2, 3, 4] [] rfl (by decide) rfl (by decide) (by decide) dX9_letterOf_27 rfl (fun u9 h27 => ?_)
      obtain ⟨fb2_3, fc2_4⟩ := u9
      have h27 : rep fb2_3 (sB (cM p b g n 0)) ∧ ∀ j, j < n → fc2_4 j = cost p b g j := h27
      refine V_perm (ws2 := [(m9, .inr (9, [.ref al, .ref hs, .int (nI hL), .ref ct, .int (nI (sT (cM p b g n 0))), .int (nI (sH (cM p b g n 0))), .int (nI (sL (cM p b g n 0))), .int (nI (sU (cM p b g n 0))), .int (nI (sW (cM p b g n 0))), .ref bt, .int (nI ((sB (cM p b g n 0)).length)), .ref cs, .ref gv, .int (nI gL), .int (nI tk), .int (nI vv), .ref rd, .int (nI rM), .ref tx, .int (nI tL), .int (nI pl)])), (al, .inl (cI, 44, .inl (fun j => nI ((allF g n 0 p b) j)))), (ct, .inl (cI, 9, .inl (fun j => nI ((sF (cM p b g n 0)) j)))), (bt, .inl (cI, 1400, .inl (fun j => nI (fb2_3 j)))), (cs, .inl (cI, 40, .inl (fun j => nI (fc2_4 j))))]) [0, 1, 2, 3, 4] rfl (by decide) ?_
      refine V_iload_n hC dX9_letterOf_30 rfl 2 rfl ?_
      refine V_tblOut (tgt := 75) hC dX9_letterOf_31 (by decide) (by decide) ?_
      refine V_aload_n hC dX9_letterOf_75 rfl 0 rfl ?_
      refine V_iload_n hC dX9_letterOf_76 rfl 1 rfl ?_
      refine V_calliV (As := [.int (nI k)]) (rest := []) (wr := []) hC (c_X9_wouldWrite_add l D cI cQ m9 al hs hL ct (sT (cM p b g n 0)) (sH (cM p b g n 0)) (sL (cM p b g n 0)) (sU (cM p b g n 0)) (sW (cM p b g n 0)) bt ((sB (cM p b g n 0)).length) cs gv gL tk vv rd rM tx tL pl n p b k g (sF (cM p b g n 0)) fb2_3 fc2_4 (by omega) (hg) (by omega) (by omega) (by omega)) mok_X9_wouldWrite ml_X9_130 (q1 := 0) rfl cls_X9 rfl rfl rfl (by decide) (by decide) (by decide) (Nat.le_of_ble_eq_true rfl) [0, 1, 2, 3, 4] [] rfl (by decide) rfl (by decide) (by decide) dX9_letterOf_77 rfl (fun r9 u9 h77 => ?_)
      obtain ⟨fb2_5, fc2_6⟩ := u9
      obtain ⟨rfl, h77⟩ := h77
      clear h77
      refine V_perm (ws2 := [(m9, .inr (9, [.ref al, .ref hs, .int (nI hL), .ref ct, .int (nI (sT ((sF (cR p b g n), sT (cR p b g n), sH (cR p b g n), (nrS (cR p b g n) k).1, (nrS (cR p b g n) k).2.1, (nrS (cR p b g n) k).2.2.1, (nrS (cR p b g n) k).2.2.2)))), .int (nI (sH ((sF (cR p b g n), sT (cR p b g n), sH (cR p b g n), (nrS (cR p b g n) k).1, (nrS (cR p b g n) k).2.1, (nrS (cR p b g n) k).2.2.1, (nrS (cR p b g n) k).2.2.2)))), .int (nI (sL ((sF (cR p b g n), sT (cR p b g n), sH (cR p b g n), (nrS (cR p b g n) k).1, (nrS (cR p b g n) k).2.1, (nrS (cR p b g n) k).2.2.1, (nrS (cR p b g n) k).2.2.2)))), .int (nI (sU ((sF (cR p b g n), sT (cR p b g n), sH (cR p b g n), (nrS (cR p b g n) k).1, (nrS (cR p b g n) k).2.1, (nrS (cR p b g n) k).2.2.1, (nrS (cR p b g n) k).2.2.2)))), .int (nI (sW ((sF (cR p b g n), sT (cR p b g n), sH (cR p b g n), (nrS (cR p b g n) k).1, (nrS (cR p b g n) k).2.1, (nrS (cR p b g n) k).2.2.1, (nrS (cR p b g n) k).2.2.2)))), .ref bt, .int (nI ((sB ((sF (cR p b g n), sT (cR p b g n), sH (cR p b g n), (nrS (cR p b g n) k).1, (nrS (cR p b g n) k).2.1, (nrS (cR p b g n) k).2.2.1, (nrS (cR p b g n) k).2.2.2))).length)), .ref cs, .ref gv, .int (nI gL), .int (nI tk), .int (nI vv), .ref rd, .int (nI rM), .ref tx, .int (nI tL), .int (nI pl)])), (al, .inl (cI, 44, .inl (fun j => nI ((allF g n 0 p b) j)))), (ct, .inl (cI, 9, .inl (fun j => nI ((sF ((sF (cR p b g n), sT (cR p b g n), sH (cR p b g n), (nrS (cR p b g n) k).1, (nrS (cR p b g n) k).2.1, (nrS (cR p b g n) k).2.2.1, (nrS (cR p b g n) k).2.2.2))) j)))), (bt, .inl (cI, 1400, .inl (fun j => nI (fb2_5 j)))), (cs, .inl (cI, 40, .inl (fun j => nI (fc2_6 j))))]) [0, 1, 2, 3, 4] rfl (by decide) ?_
      subst hQ
      exact V_iret hC hr hlk rfl (by decide) (by decide) dX9_letterOf_80 ((fb2_5, fc2_6)) [0, 1, 2, 3, 4] rfl (by decide) (⟨rfl, trivial⟩)
    · exact False.elim (by omega)
abbrev rm_X9_count_0 : Room := { frames := 6, cells := 0, slots := 0, locals := 132 }
set_option maxHeartbeats 4000000 in
set_option maxRecDepth 100000 in
theorem c_X9_count_0 (l : Launch) (D : va_G) (cI cQ : ClassId) (m9 al hs hL ct tt hv lo hi wt bt bL cs gv gL tk vv rd rM tx tL pl n e p b : Nat) (g f fb fc : Nat → Nat) (hn : n ≤ 40) (hg : ∀ j, j < n → g j < 8) (he : e < 2) (hp : p ≤ 64) (hb : b ≤ 2000) : MI l yX9_count cX9_count 2 (some .int) rm_X9_count_0 D (TY cI cQ) [.ref m9, .int (nI 0)] [(m9, .inr (9, [.ref al, .ref hs, .int (nI hL), .ref ct, .int (nI tt), .int (nI hv), .int (nI lo), .int (nI hi), .int (nI wt), .ref bt, .int (nI bL), .ref cs, .ref gv, .int (nI gL), .int (nI tk), .int (nI vv), .ref rd, .int (nI rM), .ref tx, .int (nI tL), .int (nI pl)])), (al, .inl (cI, 44, .inl (fun j => nI ((allF g n e p b) j)))), (ct, .inl (cI, 9, .inl (fun j => nI (f j)))), (bt, .inl (cI, 1400, .inl (fun j => nI (fb j)))), (cs, .inl (cI, 40, .inl (fun j => nI (fc j))))] (fun (r9 : Int32) (u : (Nat → Nat) × (Nat → Nat)) => r9 = (nI n) ∧ (True)) (fun (u : (Nat → Nat) × (Nat → Nat)) => [(m9, .inr (9, [.ref al, .ref hs, .int (nI hL), .ref ct, .int (nI (sT (cM p b g n e))), .int (nI (sH (cM p b g n e))), .int (nI (sL (cM p b g n e))), .int (nI (sU (cM p b g n e))), .int (nI (sW (cM p b g n e))), .ref bt, .int (nI ((sB (cM p b g n e)).length)), .ref cs, .ref gv, .int (nI gL), .int (nI tk), .int (nI vv), .ref rd, .int (nI rM), .ref tx, .int (nI tL), .int (nI pl)])), (al, .inl (cI, 44, .inl (fun j => nI ((allF g n e p b) j)))), (ct, .inl (cI, 9, .inl (fun j => nI ((sF (cM p b g n e)) j)))), (bt, .inl (cI, 1400, .inl (fun j => nI (u.1 j)))), (cs, .inl (cI, 40, .inl (fun j => nI (u.2 j))))]) 0 0 := by
  refine MI.start (by decide) (Nat.le_of_ble_eq_true rfl) (lv0 := [(0, .ref m9), (1, .int (nI 0))]) rfl ?_
  intro pp9 ee9 ss9 mm9 args9 below9 meth9 co9 A9 Q9 hQ hC hr hlk hnm
  refine V_aload_n hC dX9_count_0 rfl 0 rfl ?_
  refine V_callvV (As := []) (rest := []) (wr := []) hC (c_X9_putsNow l D cI cQ m9 al hs hL ct tt hv lo hi wt bt bL cs gv gL tk vv rd rM tx tL pl n e p b g f fb fc (by omega) (hg) (by omega) (by omega) (by omega)) mok_X9_putsNow ml_X9_97 (q1 := 0) rfl cls_X9 rfl rfl rfl (by decide) (by decide) (by decide) (Nat.le_of_ble_eq_true rfl) [0, 1, 2, 3, 4] [] rfl (by decide) rfl (by decide) (by decide) dX9_count_1 rfl (fun u9 h1 => ?_)
  obtain ⟨fb2_1, fc2_2⟩ := u9
  have h1 : rep fb2_1 (sB (cM p b g n e)) ∧ ∀ j, j < n → fc2_2 j = cost p b g j := h1
  refine V_perm (ws2 := [(m9, .inr (9, [.ref al, .ref hs, .int (nI hL), .ref ct, .int (nI (sT (cM p b g n e))), .int (nI (sH (cM p b g n e))), .int (nI (sL (cM p b g n e))), .int (nI (sU (cM p b g n e))), .int (nI (sW (cM p b g n e))), .ref bt, .int (nI ((sB (cM p b g n e)).length)), .ref cs, .ref gv, .int (nI gL), .int (nI tk), .int (nI vv), .ref rd, .int (nI rM), .ref tx, .int (nI tL), .int (nI pl)])), (al, .inl (cI, 44, .inl (fun j => nI ((allF g n e p b) j)))), (ct, .inl (cI, 9, .inl (fun j => nI ((sF (cM p b g n e)) j)))), (bt, .inl (cI, 1400, .inl (fun j => nI (fb2_1 j)))), (cs, .inl (cI, 40, .inl (fun j => nI (fc2_2 j))))]) [0, 1, 2, 3, 4] rfl (by decide) ?_
  refine V_iload_n hC dX9_count_4 rfl 1 rfl ?_
  refine V_tblIn (tgt := 72) hC dX9_count_5 (by decide) (by decide) rfl (by decide) ?_
  refine V_aload_n hC dX9_count_72 rfl 0 rfl ?_
  refine V_get (ci := 9) (v := .ref al) hC in_X9 0 rfl cls_X9 0 (by decide) fl_X9_7 rfl dX9_count_73 ?_
  refine V_iconst (v := nI 2) hC dX9_count_76 (by decide) ?_
  refine V_iald hC 1 0 rfl rfl (by omega) (by decide) dX9_count_77 ?_
  refine V_st (st2 := [.int (nI n)]) (by rw [show ((allF g n e p b) 2) = (n) from rfl]) ?_
  subst hQ
  exact V_iret hC hr hlk rfl (by decide) (by decide) dX9_count_78 ((fb2_1, fc2_2)) [0, 1, 2, 3, 4] rfl (by decide) (⟨rfl, trivial⟩)
abbrev rm_X9_count_1 : Room := { frames := 6, cells := 0, slots := 0, locals := 132 }
set_option maxHeartbeats 4000000 in
set_option maxRecDepth 100000 in
theorem c_X9_count_1 (l : Launch) (D : va_G) (cI cQ : ClassId) (m9 al hs hL ct tt hv lo hi wt bt bL cs gv gL tk vv rd rM tx tL pl n e p b : Nat) (g f fb fc : Nat → Nat) (hn : n ≤ 40) (hg : ∀ j, j < n → g j < 8) (he : e < 2) (hp : p ≤ 64) (hb : b ≤ 2000) : MI l yX9_count cX9_count 2 (some .int) rm_X9_count_1 D (TY cI cQ) [.ref m9, .int (nI 1)] [(m9, .inr (9, [.ref al, .ref hs, .int (nI hL), .ref ct, .int (nI tt), .int (nI hv), .int (nI lo), .int (nI hi), .int (nI wt), .ref bt, .int (nI bL), .ref cs, .ref gv, .int (nI gL), .int (nI tk), .int (nI vv), .ref rd, .int (nI rM), .ref tx, .int (nI tL), .int (nI pl)])), (al, .inl (cI, 44, .inl (fun j => nI ((allF g n e p b) j)))), (ct, .inl (cI, 9, .inl (fun j => nI (f j)))), (bt, .inl (cI, 1400, .inl (fun j => nI (fb j)))), (cs, .inl (cI, 40, .inl (fun j => nI (fc j))))] (fun (r9 : Int32) (u : (Nat → Nat) × (Nat → Nat)) => r9 = (nI ((sB (cM p b g n e)).length)) ∧ (True)) (fun (u : (Nat → Nat) × (Nat → Nat)) => [(m9, .inr (9, [.ref al, .ref hs, .int (nI hL), .ref ct, .int (nI (sT (cM p b g n e))), .int (nI (sH (cM p b g n e))), .int (nI (sL (cM p b g n e))), .int (nI (sU (cM p b g n e))), .int (nI (sW (cM p b g n e))), .ref bt, .int (nI ((sB (cM p b g n e)).length)), .ref cs, .ref gv, .int (nI gL), .int (nI tk), .int (nI vv), .ref rd, .int (nI rM), .ref tx, .int (nI tL), .int (nI pl)])), (al, .inl (cI, 44, .inl (fun j => nI ((allF g n e p b) j)))), (ct, .inl (cI, 9, .inl (fun j => nI ((sF (cM p b g n e)) j)))), (bt, .inl (cI, 1400, .inl (fun j => nI (u.1 j)))), (cs, .inl (cI, 40, .inl (fun j => nI (u.2 j))))]) 0 0 := by
  refine MI.start (by decide) (Nat.le_of_ble_eq_true rfl) (lv0 := [(0, .ref m9), (1, .int (nI 1))]) rfl ?_
  intro pp9 ee9 ss9 mm9 args9 below9 meth9 co9 A9 Q9 hQ hC hr hlk hnm
  refine V_aload_n hC dX9_count_0 rfl 0 rfl ?_
  refine V_callvV (As := []) (rest := []) (wr := []) hC (c_X9_putsNow l D cI cQ m9 al hs hL ct tt hv lo hi wt bt bL cs gv gL tk vv rd rM tx tL pl n e p b g f fb fc (by omega) (hg) (by omega) (by omega) (by omega)) mok_X9_putsNow ml_X9_97 (q1 := 0) rfl cls_X9 rfl rfl rfl (by decide) (by decide) (by decide) (Nat.le_of_ble_eq_true rfl) [0, 1, 2, 3, 4] [] rfl (by decide) rfl (by decide) (by decide) dX9_count_1 rfl (fun u9 h1 => ?_)
  obtain ⟨fb2_1, fc2_2⟩ := u9
  have h1 : rep fb2_1 (sB (cM p b g n e)) ∧ ∀ j, j < n → fc2_2 j = cost p b g j := h1
  refine V_perm (ws2 := [(m9, .inr (9, [.ref al, .ref hs, .int (nI hL), .ref ct, .int (nI (sT (cM p b g n e))), .int (nI (sH (cM p b g n e))), .int (nI (sL (cM p b g n e))), .int (nI (sU (cM p b g n e))), .int (nI (sW (cM p b g n e))), .ref bt, .int (nI ((sB (cM p b g n e)).length)), .ref cs, .ref gv, .int (nI gL), .int (nI tk), .int (nI vv), .ref rd, .int (nI rM), .ref tx, .int (nI tL), .int (nI pl)])), (al, .inl (cI, 44, .inl (fun j => nI ((allF g n e p b) j)))), (ct, .inl (cI, 9, .inl (fun j => nI ((sF (cM p b g n e)) j)))), (bt, .inl (cI, 1400, .inl (fun j => nI (fb2_1 j)))), (cs, .inl (cI, 40, .inl (fun j => nI (fc2_2 j))))]) [0, 1, 2, 3, 4] rfl (by decide) ?_
  refine V_iload_n hC dX9_count_4 rfl 1 rfl ?_
  refine V_tblIn (tgt := 79) hC dX9_count_5 (by decide) (by decide) rfl (by decide) ?_
  refine V_aload_n hC dX9_count_79 rfl 0 rfl ?_
  refine V_get (ci := 9) (v := .int (nI ((sB (cM p b g n e)).length))) hC in_X9 0 rfl cls_X9 10 (by decide) fl_X9_44 rfl dX9_count_80 ?_
  subst hQ
  exact V_iret hC hr hlk rfl (by decide) (by decide) dX9_count_83 ((fb2_1, fc2_2)) [0, 1, 2, 3, 4] rfl (by decide) (⟨rfl, trivial⟩)
abbrev rm_X9_count_2 : Room := { frames := 6, cells := 0, slots := 0, locals := 132 }
set_option maxHeartbeats 4000000 in
set_option maxRecDepth 100000 in
theorem c_X9_count_2 (l : Launch) (D : va_G) (cI cQ : ClassId) (m9 al hs hL ct tt hv lo hi wt bt bL cs gv gL tk vv rd rM tx tL pl n e p b : Nat) (g f fb fc : Nat → Nat) (hn : n ≤ 40) (hg : ∀ j, j < n → g j < 8) (he : e < 2) (hp : p ≤ 64) (hb : b ≤ 2000) : MI l yX9_count cX9_count 2 (some .int) rm_X9_count_2 D (TY cI cQ) [.ref m9, .int (nI 2)] [(m9, .inr (9, [.ref al, .ref hs, .int (nI hL), .ref ct, .int (nI tt), .int (nI hv), .int (nI lo), .int (nI hi), .int (nI wt), .ref bt, .int (nI bL), .ref cs, .ref gv, .int (nI gL), .int (nI tk), .int (nI vv), .ref rd, .int (nI rM), .ref tx, .int (nI tL), .int (nI pl)])), (al, .inl (cI, 44, .inl (fun j => nI ((allF g n e p b) j)))), (ct, .inl (cI, 9, .inl (fun j => nI (f j)))), (bt, .inl (cI, 1400, .inl (fun j => nI (fb j)))), (cs, .inl (cI, 40, .inl (fun j => nI (fc j))))] (fun (r9 : Int32) (u : (Nat → Nat) × (Nat → Nat)) => r9 = (nI (sW (cM p b g n e))) ∧ (True)) (fun (u : (Nat → Nat) × (Nat → Nat)) => [(m9, .inr (9, [.ref al, .ref hs, .int (nI hL), .ref ct, .int (nI (sT (cM p b g n e))), .int (nI (sH (cM p b g n e))), .int (nI (sL (cM p b g n e))), .int (nI (sU (cM p b g n e))), .int (nI (sW (cM p b g n e))), .ref bt, .int (nI ((sB (cM p b g n e)).length)), .ref cs, .ref gv, .int (nI gL), .int (nI tk), .int (nI vv), .ref rd, .int (nI rM), .ref tx, .int (nI tL), .int (nI pl)])), (al, .inl (cI, 44, .inl (fun j => nI ((allF g n e p b) j)))), (ct, .inl (cI, 9, .inl (fun j => nI ((sF (cM p b g n e)) j)))), (bt, .inl (cI, 1400, .inl (fun j => nI (u.1 j)))), (cs, .inl (cI, 40, .inl (fun j => nI (u.2 j))))]) 0 0 := by
  refine MI.start (by decide) (Nat.le_of_ble_eq_true rfl) (lv0 := [(0, .ref m9), (1, .int (nI 2))]) rfl ?_
  intro pp9 ee9 ss9 mm9 args9 below9 meth9 co9 A9 Q9 hQ hC hr hlk hnm
  refine V_aload_n hC dX9_count_0 rfl 0 rfl ?_
  refine V_callvV (As := []) (rest := []) (wr := []) hC (c_X9_putsNow l D cI cQ m9 al hs hL ct tt hv lo hi wt bt bL cs gv gL tk vv rd rM tx tL pl n e p b g f fb fc (by omega) (hg) (by omega) (by omega) (by omega)) mok_X9_putsNow ml_X9_97 (q1 := 0) rfl cls_X9 rfl rfl rfl (by decide) (by decide) (by decide) (Nat.le_of_ble_eq_true rfl) [0, 1, 2, 3, 4] [] rfl (by decide) rfl (by decide) (by decide) dX9_count_1 rfl (fun u9 h1 => ?_)
  obtain ⟨fb2_1, fc2_2⟩ := u9
  have h1 : rep fb2_1 (sB (cM p b g n e)) ∧ ∀ j, j < n → fc2_2 j = cost p b g j := h1
  refine V_perm (ws2 := [(m9, .inr (9, [.ref al, .ref hs, .int (nI hL), .ref ct, .int (nI (sT (cM p b g n e))), .int (nI (sH (cM p b g n e))), .int (nI (sL (cM p b g n e))), .int (nI (sU (cM p b g n e))), .int (nI (sW (cM p b g n e))), .ref bt, .int (nI ((sB (cM p b g n e)).length)), .ref cs, .ref gv, .int (nI gL), .int (nI tk), .int (nI vv), .ref rd, .int (nI rM), .ref tx, .int (nI tL), .int (nI pl)])), (al, .inl (cI, 44, .inl (fun j => nI ((allF g n e p b) j)))), (ct, .inl (cI, 9, .inl (fun j => nI ((sF (cM p b g n e)) j)))), (bt, .inl (cI, 1400, .inl (fun j => nI (fb2_1 j)))), (cs, .inl (cI, 40, .inl (fun j => nI (fc2_2 j))))]) [0, 1, 2, 3, 4] rfl (by decide) ?_
  refine V_iload_n hC dX9_count_4 rfl 1 rfl ?_
  refine V_tblIn (tgt := 84) hC dX9_count_5 (by decide) (by decide) rfl (by decide) ?_
  refine V_aload_n hC dX9_count_84 rfl 0 rfl ?_
  refine V_get (ci := 9) (v := .int (nI (sW (cM p b g n e)))) hC in_X9 0 rfl cls_X9 8 (by decide) fl_X9_47 rfl dX9_count_85 ?_
  subst hQ
  exact V_iret hC hr hlk rfl (by decide) (by decide) dX9_count_88 ((fb2_1, fc2_2)) [0, 1, 2, 3, 4] rfl (by decide) (⟨rfl, trivial⟩)
abbrev rm_X9_count_3 : Room := { frames := 6, cells := 0, slots := 0, locals := 132 }
set_option maxHeartbeats 4000000 in
set_option maxRecDepth 100000 in
theorem c_X9_count_3 (l : Launch) (D : va_G) (cI cQ : ClassId) (m9 al hs hL ct tt hv lo hi wt bt bL cs gv gL tk vv rd rM tx tL pl n e p b : Nat) (g f fb fc : Nat → Nat) (hn : n ≤ 40) (hg : ∀ j, j < n → g j < 8) (he : e < 2) (hp : p ≤ 64) (hb : b ≤ 2000) : MI l yX9_count cX9_count 2 (some .int) rm_X9_count_3 D (TY cI cQ) [.ref m9, .int (nI 3)] [(m9, .inr (9, [.ref al, .ref hs, .int (nI hL), .ref ct, .int (nI tt), .int (nI hv), .int (nI lo), .int (nI hi), .int (nI wt), .ref bt, .int (nI bL), .ref cs, .ref gv, .int (nI gL), .int (nI tk), .int (nI vv), .ref rd, .int (nI rM), .ref tx, .int (nI tL), .int (nI pl)])), (al, .inl (cI, 44, .inl (fun j => nI ((allF g n e p b) j)))), (ct, .inl (cI, 9, .inl (fun j => nI (f j)))), (bt, .inl (cI, 1400, .inl (fun j => nI (fb j)))), (cs, .inl (cI, 40, .inl (fun j => nI (fc j))))] (fun (r9 : Int32) (u : (Nat → Nat) × (Nat → Nat)) => r9 = (nI (sL (cM p b g n e))) ∧ (True)) (fun (u : (Nat → Nat) × (Nat → Nat)) => [(m9, .inr (9, [.ref al, .ref hs, .int (nI hL), .ref ct, .int (nI (sT (cM p b g n e))), .int (nI (sH (cM p b g n e))), .int (nI (sL (cM p b g n e))), .int (nI (sU (cM p b g n e))), .int (nI (sW (cM p b g n e))), .ref bt, .int (nI ((sB (cM p b g n e)).length)), .ref cs, .ref gv, .int (nI gL), .int (nI tk), .int (nI vv), .ref rd, .int (nI rM), .ref tx, .int (nI tL), .int (nI pl)])), (al, .inl (cI, 44, .inl (fun j => nI ((allF g n e p b) j)))), (ct, .inl (cI, 9, .inl (fun j => nI ((sF (cM p b g n e)) j)))), (bt, .inl (cI, 1400, .inl (fun j => nI (u.1 j)))), (cs, .inl (cI, 40, .inl (fun j => nI (u.2 j))))]) 0 0 := by
  refine MI.start (by decide) (Nat.le_of_ble_eq_true rfl) (lv0 := [(0, .ref m9), (1, .int (nI 3))]) rfl ?_
  intro pp9 ee9 ss9 mm9 args9 below9 meth9 co9 A9 Q9 hQ hC hr hlk hnm
  refine V_aload_n hC dX9_count_0 rfl 0 rfl ?_
  refine V_callvV (As := []) (rest := []) (wr := []) hC (c_X9_putsNow l D cI cQ m9 al hs hL ct tt hv lo hi wt bt bL cs gv gL tk vv rd rM tx tL pl n e p b g f fb fc (by omega) (hg) (by omega) (by omega) (by omega)) mok_X9_putsNow ml_X9_97 (q1 := 0) rfl cls_X9 rfl rfl rfl (by decide) (by decide) (by decide) (Nat.le_of_ble_eq_true rfl) [0, 1, 2, 3, 4] [] rfl (by decide) rfl (by decide) (by decide) dX9_count_1 rfl (fun u9 h1 => ?_)
  obtain ⟨fb2_1, fc2_2⟩ := u9
  have h1 : rep fb2_1 (sB (cM p b g n e)) ∧ ∀ j, j < n → fc2_2 j = cost p b g j := h1
  refine V_perm (ws2 := [(m9, .inr (9, [.ref al, .ref hs, .int (nI hL), .ref ct, .int (nI (sT (cM p b g n e))), .int (nI (sH (cM p b g n e))), .int (nI (sL (cM p b g n e))), .int (nI (sU (cM p b g n e))), .int (nI (sW (cM p b g n e))), .ref bt, .int (nI ((sB (cM p b g n e)).length)), .ref cs, .ref gv, .int (nI gL), .int (nI tk), .int (nI vv), .ref rd, .int (nI rM), .ref tx, .int (nI tL), .int (nI pl)])), (al, .inl (cI, 44, .inl (fun j => nI ((allF g n e p b) j)))), (ct, .inl (cI, 9, .inl (fun j => nI ((sF (cM p b g n e)) j)))), (bt, .inl (cI, 1400, .inl (fun j => nI (fb2_1 j)))), (cs, .inl (cI, 40, .inl (fun j => nI (fc2_2 j))))]) [0, 1, 2, 3, 4] rfl (by decide) ?_
  refine V_iload_n hC dX9_count_4 rfl 1 rfl ?_
  refine V_tblIn (tgt := 89) hC dX9_count_5 (by decide) (by decide) rfl (by decide) ?_
  refine V_aload_n hC dX9_count_89 rfl 0 rfl ?_
  refine V_get (ci := 9) (v := .int (nI (sL (cM p b g n e)))) hC in_X9 0 rfl cls_X9 6 (by decide) fl_X9_53 rfl dX9_count_90 ?_
  subst hQ
  exact V_iret hC hr hlk rfl (by decide) (by decide) dX9_count_93 ((fb2_1, fc2_2)) [0, 1, 2, 3, 4] rfl (by decide) (⟨rfl, trivial⟩)
abbrev rm_X9_count_4 : Room := { frames := 6, cells := 0, slots := 0, locals := 132 }
set_option maxHeartbeats 4000000 in
set_option maxRecDepth 100000 in
theorem c_X9_count_4 (l : Launch) (D : va_G) (cI cQ : ClassId) (m9 al hs hL ct tt hv lo hi wt bt bL cs gv gL tk vv rd rM tx tL pl n e p b : Nat) (g f fb fc : Nat → Nat) (hn : n ≤ 40) (hg : ∀ j, j < n → g j < 8) (he : e < 2) (hp : p ≤ 64) (hb : b ≤ 2000) : MI l yX9_count cX9_count 2 (some .int) rm_X9_count_4 D (TY cI cQ) [.ref m9, .int (nI 4)] [(m9, .inr (9, [.ref al, .ref hs, .int (nI hL), .ref ct, .int (nI tt), .int (nI hv), .int (nI lo), .int (nI hi), .int (nI wt), .ref bt, .int (nI bL), .ref cs, .ref gv, .int (nI gL), .int (nI tk), .int (nI vv), .ref rd, .int (nI rM), .ref tx, .int (nI tL), .int (nI pl)])), (al, .inl (cI, 44, .inl (fun j => nI ((allF g n e p b) j)))), (ct, .inl (cI, 9, .inl (fun j => nI (f j)))), (bt, .inl (cI, 1400, .inl (fun j => nI (fb j)))), (cs, .inl (cI, 40, .inl (fun j => nI (fc j))))] (fun (r9 : Int32) (u : (Nat → Nat) × (Nat → Nat)) => r9 = (nI (sU (cM p b g n e))) ∧ (True)) (fun (u : (Nat → Nat) × (Nat → Nat)) => [(m9, .inr (9, [.ref al, .ref hs, .int (nI hL), .ref ct, .int (nI (sT (cM p b g n e))), .int (nI (sH (cM p b g n e))), .int (nI (sL (cM p b g n e))), .int (nI (sU (cM p b g n e))), .int (nI (sW (cM p b g n e))), .ref bt, .int (nI ((sB (cM p b g n e)).length)), .ref cs, .ref gv, .int (nI gL), .int (nI tk), .int (nI vv), .ref rd, .int (nI rM), .ref tx, .int (nI tL), .int (nI pl)])), (al, .inl (cI, 44, .inl (fun j => nI ((allF g n e p b) j)))), (ct, .inl (cI, 9, .inl (fun j => nI ((sF (cM p b g n e)) j)))), (bt, .inl (cI, 1400, .inl (fun j => nI (u.1 j)))), (cs, .inl (cI, 40, .inl (fun j => nI (u.2 j))))]) 0 0 := by
  refine MI.start (by decide) (Nat.le_of_ble_eq_true rfl) (lv0 := [(0, .ref m9), (1, .int (nI 4))]) rfl ?_
  intro pp9 ee9 ss9 mm9 args9 below9 meth9 co9 A9 Q9 hQ hC hr hlk hnm
  refine V_aload_n hC dX9_count_0 rfl 0 rfl ?_
  refine V_callvV (As := []) (rest := []) (wr := []) hC (c_X9_putsNow l D cI cQ m9 al hs hL ct tt hv lo hi wt bt bL cs gv gL tk vv rd rM tx tL pl n e p b g f fb fc (by omega) (hg) (by omega) (by omega) (by omega)) mok_X9_putsNow ml_X9_97 (q1 := 0) rfl cls_X9 rfl rfl rfl (by decide) (by decide) (by decide) (Nat.le_of_ble_eq_true rfl) [0, 1, 2, 3, 4] [] rfl (by decide) rfl (by decide) (by decide) dX9_count_1 rfl (fun u9 h1 => ?_)
  obtain ⟨fb2_1, fc2_2⟩ := u9
  have h1 : rep fb2_1 (sB (cM p b g n e)) ∧ ∀ j, j < n → fc2_2 j = cost p b g j := h1
  refine V_perm (ws2 := [(m9, .inr (9, [.ref al, .ref hs, .int (nI hL), .ref ct, .int (nI (sT (cM p b g n e))), .int (nI (sH (cM p b g n e))), .int (nI (sL (cM p b g n e))), .int (nI (sU (cM p b g n e))), .int (nI (sW (cM p b g n e))), .ref bt, .int (nI ((sB (cM p b g n e)).length)), .ref cs, .ref gv, .int (nI gL), .int (nI tk), .int (nI vv), .ref rd, .int (nI rM), .ref tx, .int (nI tL), .int (nI pl)])), (al, .inl (cI, 44, .inl (fun j => nI ((allF g n e p b) j)))), (ct, .inl (cI, 9, .inl (fun j => nI ((sF (cM p b g n e)) j)))), (bt, .inl (cI, 1400, .inl (fun j => nI (fb2_1 j)))), (cs, .inl (cI, 40, .inl (fun j => nI (fc2_2 j))))]) [0, 1, 2, 3, 4] rfl (by decide) ?_
  refine V_iload_n hC dX9_count_4 rfl 1 rfl ?_
  refine V_tblIn (tgt := 94) hC dX9_count_5 (by decide) (by decide) rfl (by decide) ?_
  refine V_aload_n hC dX9_count_94 rfl 0 rfl ?_
  refine V_get (ci := 9) (v := .int (nI (sU (cM p b g n e)))) hC in_X9 0 rfl cls_X9 7 (by decide) fl_X9_50 rfl dX9_count_95 ?_
  subst hQ
  exact V_iret hC hr hlk rfl (by decide) (by decide) dX9_count_98 ((fb2_1, fc2_2)) [0, 1, 2, 3, 4] rfl (by decide) (⟨rfl, trivial⟩)
abbrev rm_X9_count_5 : Room := { frames := 6, cells := 0, slots := 0, locals := 132 }
set_option maxHeartbeats 4000000 in
set_option maxRecDepth 100000 in
theorem c_X9_count_5 (l : Launch) (D : va_G) (cI cQ : ClassId) (m9 al hs hL ct tt hv lo hi wt bt bL cs gv gL tk vv rd rM tx tL pl n e p b : Nat) (g f fb fc : Nat → Nat) (hn : n ≤ 40) (hg : ∀ j, j < n → g j < 8) (he : e < 2) (hp : p ≤ 64) (hb : b ≤ 2000) : MI l yX9_count cX9_count 2 (some .int) rm_X9_count_5 D (TY cI cQ) [.ref m9, .int (nI 5)] [(m9, .inr (9, [.ref al, .ref hs, .int (nI hL), .ref ct, .int (nI tt), .int (nI hv), .int (nI lo), .int (nI hi), .int (nI wt), .ref bt, .int (nI bL), .ref cs, .ref gv, .int (nI gL), .int (nI tk), .int (nI vv), .ref rd, .int (nI rM), .ref tx, .int (nI tL), .int (nI pl)])), (al, .inl (cI, 44, .inl (fun j => nI ((allF g n e p b) j)))), (ct, .inl (cI, 9, .inl (fun j => nI (f j)))), (bt, .inl (cI, 1400, .inl (fun j => nI (fb j)))), (cs, .inl (cI, 40, .inl (fun j => nI (fc j))))] (fun (r9 : Int32) (u : (Nat → Nat) × (Nat → Nat)) => r9 = (nI (sT (cM p b g n e))) ∧ (True)) (fun (u : (Nat → Nat) × (Nat → Nat)) => [(m9, .inr (9, [.ref al, .ref hs, .int (nI hL), .ref ct, .int (nI (sT (cM p b g n e))), .int (nI (sH (cM p b g n e))), .int (nI (sL (cM p b g n e))), .int (nI (sU (cM p b g n e))), .int (nI (sW (cM p b g n e))), .ref bt, .int (nI ((sB (cM p b g n e)).length)), .ref cs, .ref gv, .int (nI gL), .int (nI tk), .int (nI vv), .ref rd, .int (nI rM), .ref tx, .int (nI tL), .int (nI pl)])), (al, .inl (cI, 44, .inl (fun j => nI ((allF g n e p b) j)))), (ct, .inl (cI, 9, .inl (fun j => nI ((sF (cM p b g n e)) j)))), (bt, .inl (cI, 1400, .inl (fun j => nI (u.1 j)))), (cs, .inl (cI, 40, .inl (fun j => nI (u.2 j))))]) 0 0 := by
  refine MI.start (by decide) (Nat.le_of_ble_eq_true rfl) (lv0 := [(0, .ref m9), (1, .int (nI 5))]) rfl ?_
  intro pp9 ee9 ss9 mm9 args9 below9 meth9 co9 A9 Q9 hQ hC hr hlk hnm
  refine V_aload_n hC dX9_count_0 rfl 0 rfl ?_
  refine V_callvV (As := []) (rest := []) (wr := []) hC (c_X9_putsNow l D cI cQ m9 al hs hL ct tt hv lo hi wt bt bL cs gv gL tk vv rd rM tx tL pl n e p b g f fb fc (by omega) (hg) (by omega) (by omega) (by omega)) mok_X9_putsNow ml_X9_97 (q1 := 0) rfl cls_X9 rfl rfl rfl (by decide) (by decide) (by decide) (Nat.le_of_ble_eq_true rfl) [0, 1, 2, 3, 4] [] rfl (by decide) rfl (by decide) (by decide) dX9_count_1 rfl (fun u9 h1 => ?_)
  obtain ⟨fb2_1, fc2_2⟩ := u9
  have h1 : rep fb2_1 (sB (cM p b g n e)) ∧ ∀ j, j < n → fc2_2 j = cost p b g j := h1
  refine V_perm (ws2 := [(m9, .inr (9, [.ref al, .ref hs, .int (nI hL), .ref ct, .int (nI (sT (cM p b g n e))), .int (nI (sH (cM p b g n e))), .int (nI (sL (cM p b g n e))), .int (nI (sU (cM p b g n e))), .int (nI (sW (cM p b g n e))), .ref bt, .int (nI ((sB (cM p b g n e)).length)), .ref cs, .ref gv, .int (nI gL), .int (nI tk), .int (nI vv), .ref rd, .int (nI rM), .ref tx, .int (nI tL), .int (nI pl)])), (al, .inl (cI, 44, .inl (fun j => nI ((allF g n e p b) j)))), (ct, .inl (cI, 9, .inl (fun j => nI ((sF (cM p b g n e)) j)))), (bt, .inl (cI, 1400, .inl (fun j => nI (fb2_1 j)))), (cs, .inl (cI, 40, .inl (fun j => nI (fc2_2 j))))]) [0, 1, 2, 3, 4] rfl (by decide) ?_
  refine V_iload_n hC dX9_count_4 rfl 1 rfl ?_
  refine V_tblIn (tgt := 99) hC dX9_count_5 (by decide) (by decide) rfl (by decide) ?_
  refine V_aload_n hC dX9_count_99 rfl 0 rfl ?_
  refine V_get (ci := 9) (v := .int (nI (sT (cM p b g n e)))) hC in_X9 0 rfl cls_X9 4 (by decide) fl_X9_38 rfl dX9_count_100 ?_
  subst hQ
  exact V_iret hC hr hlk rfl (by decide) (by decide) dX9_count_103 ((fb2_1, fc2_2)) [0, 1, 2, 3, 4] rfl (by decide) (⟨rfl, trivial⟩)
abbrev rm_X9_count_6 : Room := { frames := 6, cells := 0, slots := 0, locals := 132 }
set_option maxHeartbeats 4000000 in
set_option maxRecDepth 100000 in
theorem c_X9_count_6 (l : Launch) (D : va_G) (cI cQ : ClassId) (m9 al hs hL ct tt hv lo hi wt bt bL cs gv gL tk vv rd rM tx tL pl n e p b : Nat) (g f fb fc : Nat → Nat) (hn : n ≤ 40) (hg : ∀ j, j < n → g j < 8) (he : e < 2) (hp : p ≤ 64) (hb : b ≤ 2000) : MI l yX9_count cX9_count 2 (some .int) rm_X9_count_6 D (TY cI cQ) [.ref m9, .int (nI 6)] [(m9, .inr (9, [.ref al, .ref hs, .int (nI hL), .ref ct, .int (nI tt), .int (nI hv), .int (nI lo), .int (nI hi), .int (nI wt), .ref bt, .int (nI bL), .ref cs, .ref gv, .int (nI gL), .int (nI tk), .int (nI vv), .ref rd, .int (nI rM), .ref tx, .int (nI tL), .int (nI pl)])), (al, .inl (cI, 44, .inl (fun j => nI ((allF g n e p b) j)))), (ct, .inl (cI, 9, .inl (fun j => nI (f j)))), (bt, .inl (cI, 1400, .inl (fun j => nI (fb j)))), (cs, .inl (cI, 40, .inl (fun j => nI (fc j))))] (fun (r9 : Int32) (u : (Nat → Nat) × (Nat → Nat)) => r9 = (nI (sH (cM p b g n e))) ∧ (True)) (fun (u : (Nat → Nat) × (Nat → Nat)) => [(m9, .inr (9, [.ref al, .ref hs, .int (nI hL), .ref ct, .int (nI (sT (cM p b g n e))), .int (nI (sH (cM p b g n e))), .int (nI (sL (cM p b g n e))), .int (nI (sU (cM p b g n e))), .int (nI (sW (cM p b g n e))), .ref bt, .int (nI ((sB (cM p b g n e)).length)), .ref cs, .ref gv, .int (nI gL), .int (nI tk), .int (nI vv), .ref rd, .int (nI rM), .ref tx, .int (nI tL), .int (nI pl)])), (al, .inl (cI, 44, .inl (fun j => nI ((allF g n e p b) j)))), (ct, .inl (cI, 9, .inl (fun j => nI ((sF (cM p b g n e)) j)))), (bt, .inl (cI, 1400, .inl (fun j => nI (u.1 j)))), (cs, .inl (cI, 40, .inl (fun j => nI (u.2 j))))]) 0 0 := by
  refine MI.start (by decide) (Nat.le_of_ble_eq_true rfl) (lv0 := [(0, .ref m9), (1, .int (nI 6))]) rfl ?_
  intro pp9 ee9 ss9 mm9 args9 below9 meth9 co9 A9 Q9 hQ hC hr hlk hnm
  refine V_aload_n hC dX9_count_0 rfl 0 rfl ?_
  refine V_callvV (As := []) (rest := []) (wr := []) hC (c_X9_putsNow l D cI cQ m9 al hs hL ct tt hv lo hi wt bt bL cs gv gL tk vv rd rM tx tL pl n e p b g f fb fc (by omega) (hg) (by omega) (by omega) (by omega)) mok_X9_putsNow ml_X9_97 (q1 := 0) rfl cls_X9 rfl rfl rfl (by decide) (by decide) (by decide) (Nat.le_of_ble_eq_true rfl) [0, 1, 2, 3, 4] [] rfl (by decide) rfl (by decide) (by decide) dX9_count_1 rfl (fun u9 h1 => ?_)
  obtain ⟨fb2_1, fc2_2⟩ := u9
  have h1 : rep fb2_1 (sB (cM p b g n e)) ∧ ∀ j, j < n → fc2_2 j = cost p b g j := h1
  refine V_perm (ws2 := [(m9, .inr (9, [.ref al, .ref hs, .int (nI hL), .ref ct, .int (nI (sT (cM p b g n e))), .int (nI (sH (cM p b g n e))), .int (nI (sL (cM p b g n e))), .int (nI (sU (cM p b g n e))), .int (nI (sW (cM p b g n e))), .ref bt, .int (nI ((sB (cM p b g n e)).length)), .ref cs, .ref gv, .int (nI gL), .int (nI tk), .int (nI vv), .ref rd, .int (nI rM), .ref tx, .int (nI tL), .int (nI pl)])), (al, .inl (cI, 44, .inl (fun j => nI ((allF g n e p b) j)))), (ct, .inl (cI, 9, .inl (fun j => nI ((sF (cM p b g n e)) j)))), (bt, .inl (cI, 1400, .inl (fun j => nI (fb2_1 j)))), (cs, .inl (cI, 40, .inl (fun j => nI (fc2_2 j))))]) [0, 1, 2, 3, 4] rfl (by decide) ?_
  refine V_iload_n hC dX9_count_4 rfl 1 rfl ?_
  refine V_tblIn (tgt := 104) hC dX9_count_5 (by decide) (by decide) rfl (by decide) ?_
  refine V_aload_n hC dX9_count_104 rfl 0 rfl ?_
  refine V_get (ci := 9) (v := .int (nI (sH (cM p b g n e)))) hC in_X9 0 rfl cls_X9 5 (by decide) fl_X9_41 rfl dX9_count_105 ?_
  subst hQ
  exact V_iret hC hr hlk rfl (by decide) (by decide) dX9_count_108 ((fb2_1, fc2_2)) [0, 1, 2, 3, 4] rfl (by decide) (⟨rfl, trivial⟩)
abbrev rm_X9_count_7 : Room := { frames := 6, cells := 0, slots := 0, locals := 132 }
set_option maxHeartbeats 4000000 in
set_option maxRecDepth 100000 in
theorem c_X9_count_7 (l : Launch) (D : va_G) (cI cQ : ClassId) (m9 al hs hL ct tt hv lo hi wt bt bL cs gv gL tk vv rd rM tx tL pl n e p b : Nat) (g f fb fc : Nat → Nat) (hn : n ≤ 40) (hg : ∀ j, j < n → g j < 8) (he : e < 2) (hp : p ≤ 64) (hb : b ≤ 2000) : MI l yX9_count cX9_count 2 (some .int) rm_X9_count_7 D (TY cI cQ) [.ref m9, .int (nI 7)] [(m9, .inr (9, [.ref al, .ref hs, .int (nI hL), .ref ct, .int (nI tt), .int (nI hv), .int (nI lo), .int (nI hi), .int (nI wt), .ref bt, .int (nI bL), .ref cs, .ref gv, .int (nI gL), .int (nI tk), .int (nI vv), .ref rd, .int (nI rM), .ref tx, .int (nI tL), .int (nI pl)])), (al, .inl (cI, 44, .inl (fun j => nI ((allF g n e p b) j)))), (ct, .inl (cI, 9, .inl (fun j => nI (f j)))), (bt, .inl (cI, 1400, .inl (fun j => nI (fb j)))), (cs, .inl (cI, 40, .inl (fun j => nI (fc j))))] (fun (r9 : Int32) (u : (Nat → Nat) × (Nat → Nat)) => r9 = (nI e) ∧ (True)) (fun (u : (Nat → Nat) × (Nat → Nat)) => [(m9, .inr (9, [.ref al, .ref hs, .int (nI hL), .ref ct, .int (nI (sT (cM p b g n e))), .int (nI (sH (cM p b g n e))), .int (nI (sL (cM p b g n e))), .int (nI (sU (cM p b g n e))), .int (nI (sW (cM p b g n e))), .ref bt, .int (nI ((sB (cM p b g n e)).length)), .ref cs, .ref gv, .int (nI gL), .int (nI tk), .int (nI vv), .ref rd, .int (nI rM), .ref tx, .int (nI tL), .int (nI pl)])), (al, .inl (cI, 44, .inl (fun j => nI ((allF g n e p b) j)))), (ct, .inl (cI, 9, .inl (fun j => nI ((sF (cM p b g n e)) j)))), (bt, .inl (cI, 1400, .inl (fun j => nI (u.1 j)))), (cs, .inl (cI, 40, .inl (fun j => nI (u.2 j))))]) 0 0 := by
  refine MI.start (by decide) (Nat.le_of_ble_eq_true rfl) (lv0 := [(0, .ref m9), (1, .int (nI 7))]) rfl ?_
  intro pp9 ee9 ss9 mm9 args9 below9 meth9 co9 A9 Q9 hQ hC hr hlk hnm
  refine V_aload_n hC dX9_count_0 rfl 0 rfl ?_
  refine V_callvV (As := []) (rest := []) (wr := []) hC (c_X9_putsNow l D cI cQ m9 al hs hL ct tt hv lo hi wt bt bL cs gv gL tk vv rd rM tx tL pl n e p b g f fb fc (by omega) (hg) (by omega) (by omega) (by omega)) mok_X9_putsNow ml_X9_97 (q1 := 0) rfl cls_X9 rfl rfl rfl (by decide) (by decide) (by decide) (Nat.le_of_ble_eq_true rfl) [0, 1, 2, 3, 4] [] rfl (by decide) rfl (by decide) (by decide) dX9_count_1 rfl (fun u9 h1 => ?_)
  obtain ⟨fb2_1, fc2_2⟩ := u9
  have h1 : rep fb2_1 (sB (cM p b g n e)) ∧ ∀ j, j < n → fc2_2 j = cost p b g j := h1
  refine V_perm (ws2 := [(m9, .inr (9, [.ref al, .ref hs, .int (nI hL), .ref ct, .int (nI (sT (cM p b g n e))), .int (nI (sH (cM p b g n e))), .int (nI (sL (cM p b g n e))), .int (nI (sU (cM p b g n e))), .int (nI (sW (cM p b g n e))), .ref bt, .int (nI ((sB (cM p b g n e)).length)), .ref cs, .ref gv, .int (nI gL), .int (nI tk), .int (nI vv), .ref rd, .int (nI rM), .ref tx, .int (nI tL), .int (nI pl)])), (al, .inl (cI, 44, .inl (fun j => nI ((allF g n e p b) j)))), (ct, .inl (cI, 9, .inl (fun j => nI ((sF (cM p b g n e)) j)))), (bt, .inl (cI, 1400, .inl (fun j => nI (fb2_1 j)))), (cs, .inl (cI, 40, .inl (fun j => nI (fc2_2 j))))]) [0, 1, 2, 3, 4] rfl (by decide) ?_
  refine V_iload_n hC dX9_count_4 rfl 1 rfl ?_
  refine V_tblIn (tgt := 109) hC dX9_count_5 (by decide) (by decide) rfl (by decide) ?_
  refine V_aload_n hC dX9_count_109 rfl 0 rfl ?_
  refine V_get (ci := 9) (v := .ref al) hC in_X9 0 rfl cls_X9 0 (by decide) fl_X9_7 rfl dX9_count_110 ?_
  refine V_iconst (v := nI 3) hC dX9_count_113 (by decide) ?_
  refine V_iald hC 1 0 rfl rfl (by omega) (by decide) dX9_count_114 ?_
  refine V_st (st2 := [.int (nI e)]) (by rw [show ((allF g n e p b) 3) = (e) from rfl]) ?_
  subst hQ
  exact V_iret hC hr hlk rfl (by decide) (by decide) dX9_count_115 ((fb2_1, fc2_2)) [0, 1, 2, 3, 4] rfl (by decide) (⟨rfl, trivial⟩)
abbrev rm_X9_count_8 : Room := { frames := 6, cells := 0, slots := 0, locals := 132 }
set_option maxHeartbeats 4000000 in
set_option maxRecDepth 100000 in
theorem c_X9_count_8 (l : Launch) (D : va_G) (cI cQ : ClassId) (m9 al hs hL ct tt hv lo hi wt bt bL cs gv gL tk vv rd rM tx tL pl n e p b : Nat) (g f fb fc : Nat → Nat) (hn : n ≤ 40) (hg : ∀ j, j < n → g j < 8) (he : e < 2) (hp : p ≤ 64) (hb : b ≤ 2000) : MI l yX9_count cX9_count 2 (some .int) rm_X9_count_8 D (TY cI cQ) [.ref m9, .int (nI 8)] [(m9, .inr (9, [.ref al, .ref hs, .int (nI hL), .ref ct, .int (nI tt), .int (nI hv), .int (nI lo), .int (nI hi), .int (nI wt), .ref bt, .int (nI bL), .ref cs, .ref gv, .int (nI gL), .int (nI tk), .int (nI vv), .ref rd, .int (nI rM), .ref tx, .int (nI tL), .int (nI pl)])), (al, .inl (cI, 44, .inl (fun j => nI ((allF g n e p b) j)))), (ct, .inl (cI, 9, .inl (fun j => nI (f j)))), (bt, .inl (cI, 1400, .inl (fun j => nI (fb j)))), (cs, .inl (cI, 40, .inl (fun j => nI (fc j))))] (fun (r9 : Int32) (u : (Nat → Nat) × (Nat → Nat)) => r9 = (nI hL) ∧ (True)) (fun (u : (Nat → Nat) × (Nat → Nat)) => [(m9, .inr (9, [.ref al, .ref hs, .int (nI hL), .ref ct, .int (nI (sT (cM p b g n e))), .int (nI (sH (cM p b g n e))), .int (nI (sL (cM p b g n e))), .int (nI (sU (cM p b g n e))), .int (nI (sW (cM p b g n e))), .ref bt, .int (nI ((sB (cM p b g n e)).length)), .ref cs, .ref gv, .int (nI gL), .int (nI tk), .int (nI vv), .ref rd, .int (nI rM), .ref tx, .int (nI tL), .int (nI pl)])), (al, .inl (cI, 44, .inl (fun j => nI ((allF g n e p b) j)))), (ct, .inl (cI, 9, .inl (fun j => nI ((sF (cM p b g n e)) j)))), (bt, .inl (cI, 1400, .inl (fun j => nI (u.1 j)))), (cs, .inl (cI, 40, .inl (fun j => nI (u.2 j))))]) 0 0 := by
  refine MI.start (by decide) (Nat.le_of_ble_eq_true rfl) (lv0 := [(0, .ref m9), (1, .int (nI 8))]) rfl ?_
  intro pp9 ee9 ss9 mm9 args9 below9 meth9 co9 A9 Q9 hQ hC hr hlk hnm
  refine V_aload_n hC dX9_count_0 rfl 0 rfl ?_
  refine V_callvV (As := []) (rest := []) (wr := []) hC (c_X9_putsNow l D cI cQ m9 al hs hL ct tt hv lo hi wt bt bL cs gv gL tk vv rd rM tx tL pl n e p b g f fb fc (by omega) (hg) (by omega) (by omega) (by omega)) mok_X9_putsNow ml_X9_97 (q1 := 0) rfl cls_X9 rfl rfl rfl (by decide) (by decide) (by decide) (Nat.le_of_ble_eq_true rfl) [0, 1, 2, 3, 4] [] rfl (by decide) rfl (by decide) (by decide) dX9_count_1 rfl (fun u9 h1 => ?_)
  obtain ⟨fb2_1, fc2_2⟩ := u9
  have h1 : rep fb2_1 (sB (cM p b g n e)) ∧ ∀ j, j < n → fc2_2 j = cost p b g j := h1
  refine V_perm (ws2 := [(m9, .inr (9, [.ref al, .ref hs, .int (nI hL), .ref ct, .int (nI (sT (cM p b g n e))), .int (nI (sH (cM p b g n e))), .int (nI (sL (cM p b g n e))), .int (nI (sU (cM p b g n e))), .int (nI (sW (cM p b g n e))), .ref bt, .int (nI ((sB (cM p b g n e)).length)), .ref cs, .ref gv, .int (nI gL), .int (nI tk), .int (nI vv), .ref rd, .int (nI rM), .ref tx, .int (nI tL), .int (nI pl)])), (al, .inl (cI, 44, .inl (fun j => nI ((allF g n e p b) j)))), (ct, .inl (cI, 9, .inl (fun j => nI ((sF (cM p b g n e)) j)))), (bt, .inl (cI, 1400, .inl (fun j => nI (fb2_1 j)))), (cs, .inl (cI, 40, .inl (fun j => nI (fc2_2 j))))]) [0, 1, 2, 3, 4] rfl (by decide) ?_
  refine V_iload_n hC dX9_count_4 rfl 1 rfl ?_
  refine V_tblIn (tgt := 116) hC dX9_count_5 (by decide) (by decide) rfl (by decide) ?_
  refine V_aload_n hC dX9_count_116 rfl 0 rfl ?_
  refine V_get (ci := 9) (v := .int (nI hL)) hC in_X9 0 rfl cls_X9 2 (by decide) fl_X9_34 rfl dX9_count_117 ?_
  subst hQ
  exact V_iret hC hr hlk rfl (by decide) (by decide) dX9_count_120 ((fb2_1, fc2_2)) [0, 1, 2, 3, 4] rfl (by decide) (⟨rfl, trivial⟩)
abbrev rm_X9_count_9 : Room := { frames := 6, cells := 0, slots := 0, locals := 132 }
set_option maxHeartbeats 4000000 in
set_option maxRecDepth 100000 in
theorem c_X9_count_9 (l : Launch) (D : va_G) (cI cQ : ClassId) (m9 al hs hL ct tt hv lo hi wt bt bL cs gv gL tk vv rd rM tx tL pl n e p b : Nat) (g f fb fc : Nat → Nat) (hn : n ≤ 40) (hg : ∀ j, j < n → g j < 8) (he : e < 2) (hp : p ≤ 64) (hb : b ≤ 2000) : MI l yX9_count cX9_count 2 (some .int) rm_X9_count_9 D (TY cI cQ) [.ref m9, .int (nI 9)] [(m9, .inr (9, [.ref al, .ref hs, .int (nI hL), .ref ct, .int (nI tt), .int (nI hv), .int (nI lo), .int (nI hi), .int (nI wt), .ref bt, .int (nI bL), .ref cs, .ref gv, .int (nI gL), .int (nI tk), .int (nI vv), .ref rd, .int (nI rM), .ref tx, .int (nI tL), .int (nI pl)])), (al, .inl (cI, 44, .inl (fun j => nI ((allF g n e p b) j)))), (ct, .inl (cI, 9, .inl (fun j => nI (f j)))), (bt, .inl (cI, 1400, .inl (fun j => nI (fb j)))), (cs, .inl (cI, 40, .inl (fun j => nI (fc j))))] (fun (r9 : Int32) (u : (Nat → Nat) × (Nat → Nat)) => r9 = (nI tL) ∧ (True)) (fun (u : (Nat → Nat) × (Nat → Nat)) => [(m9, .inr (9, [.ref al, .ref hs, .int (nI hL), .ref ct, .int (nI (sT (cM p b g n e))), .int (nI (sH (cM p b g n e))), .int (nI (sL (cM p b g n e))), .int (nI (sU (cM p b g n e))), .int (nI (sW (cM p b g n e))), .ref bt, .int (nI ((sB (cM p b g n e)).length)), .ref cs, .ref gv, .int (nI gL), .int (nI tk), .int (nI vv), .ref rd, .int (nI rM), .ref tx, .int (nI tL), .int (nI pl)])), (al, .inl (cI, 44, .inl (fun j => nI ((allF g n e p b) j)))), (ct, .inl (cI, 9, .inl (fun j => nI ((sF (cM p b g n e)) j)))), (bt, .inl (cI, 1400, .inl (fun j => nI (u.1 j)))), (cs, .inl (cI, 40, .inl (fun j => nI (u.2 j))))]) 0 0 := by
  refine MI.start (by decide) (Nat.le_of_ble_eq_true rfl) (lv0 := [(0, .ref m9), (1, .int (nI 9))]) rfl ?_
  intro pp9 ee9 ss9 mm9 args9 below9 meth9 co9 A9 Q9 hQ hC hr hlk hnm
  refine V_aload_n hC dX9_count_0 rfl 0 rfl ?_
  refine V_callvV (As := []) (rest := []) (wr := []) hC (c_X9_putsNow l D cI cQ m9 al hs hL ct tt hv lo hi wt bt bL cs gv gL tk vv rd rM tx tL pl n e p b g f fb fc (by omega) (hg) (by omega) (by omega) (by omega)) mok_X9_putsNow ml_X9_97 (q1 := 0) rfl cls_X9 rfl rfl rfl (by decide) (by decide) (by decide) (Nat.le_of_ble_eq_true rfl) [0, 1, 2, 3, 4] [] rfl (by decide) rfl (by decide) (by decide) dX9_count_1 rfl (fun u9 h1 => ?_)
  obtain ⟨fb2_1, fc2_2⟩ := u9
  have h1 : rep fb2_1 (sB (cM p b g n e)) ∧ ∀ j, j < n → fc2_2 j = cost p b g j := h1
  refine V_perm (ws2 := [(m9, .inr (9, [.ref al, .ref hs, .int (nI hL), .ref ct, .int (nI (sT (cM p b g n e))), .int (nI (sH (cM p b g n e))), .int (nI (sL (cM p b g n e))), .int (nI (sU (cM p b g n e))), .int (nI (sW (cM p b g n e))), .ref bt, .int (nI ((sB (cM p b g n e)).length)), .ref cs, .ref gv, .int (nI gL), .int (nI tk), .int (nI vv), .ref rd, .int (nI rM), .ref tx, .int (nI tL), .int (nI pl)])), (al, .inl (cI, 44, .inl (fun j => nI ((allF g n e p b) j)))), (ct, .inl (cI, 9, .inl (fun j => nI ((sF (cM p b g n e)) j)))), (bt, .inl (cI, 1400, .inl (fun j => nI (fb2_1 j)))), (cs, .inl (cI, 40, .inl (fun j => nI (fc2_2 j))))]) [0, 1, 2, 3, 4] rfl (by decide) ?_
  refine V_iload_n hC dX9_count_4 rfl 1 rfl ?_
  refine V_tblIn (tgt := 121) hC dX9_count_5 (by decide) (by decide) rfl (by decide) ?_
  refine V_aload_n hC dX9_count_121 rfl 0 rfl ?_
  refine V_get (ci := 9) (v := .int (nI tL)) hC in_X9 0 rfl cls_X9 19 (by decide) fl_X9_133 rfl dX9_count_122 ?_
  subst hQ
  exact V_iret hC hr hlk rfl (by decide) (by decide) dX9_count_125 ((fb2_1, fc2_2)) [0, 1, 2, 3, 4] rfl (by decide) (⟨rfl, trivial⟩)
abbrev rm_X9_count_10 : Room := { frames := 6, cells := 0, slots := 0, locals := 132 }
set_option maxHeartbeats 4000000 in
set_option maxRecDepth 100000 in
theorem c_X9_count_10 (l : Launch) (D : va_G) (cI cQ : ClassId) (m9 al hs hL ct tt hv lo hi wt bt bL cs gv gL tk vv rd rM tx tL pl n e p b : Nat) (g f fb fc : Nat → Nat) (hn : n ≤ 40) (hg : ∀ j, j < n → g j < 8) (he : e < 2) (hp : p ≤ 64) (hb : b ≤ 2000) : MI l yX9_count cX9_count 2 (some .int) rm_X9_count_10 D (TY cI cQ) [.ref m9, .int (nI 10)] [(m9, .inr (9, [.ref al, .ref hs, .int (nI hL), .ref ct, .int (nI tt), .int (nI hv), .int (nI lo), .int (nI hi), .int (nI wt), .ref bt, .int (nI bL), .ref cs, .ref gv, .int (nI gL), .int (nI tk), .int (nI vv), .ref rd, .int (nI rM), .ref tx, .int (nI tL), .int (nI pl)])), (al, .inl (cI, 44, .inl (fun j => nI ((allF g n e p b) j)))), (ct, .inl (cI, 9, .inl (fun j => nI (f j)))), (bt, .inl (cI, 1400, .inl (fun j => nI (fb j)))), (cs, .inl (cI, 40, .inl (fun j => nI (fc j))))] (fun (r9 : Int32) (u : (Nat → Nat) × (Nat → Nat)) => r9 = (nI p) ∧ (True)) (fun (u : (Nat → Nat) × (Nat → Nat)) => [(m9, .inr (9, [.ref al, .ref hs, .int (nI hL), .ref ct, .int (nI (sT (cM p b g n e))), .int (nI (sH (cM p b g n e))), .int (nI (sL (cM p b g n e))), .int (nI (sU (cM p b g n e))), .int (nI (sW (cM p b g n e))), .ref bt, .int (nI ((sB (cM p b g n e)).length)), .ref cs, .ref gv, .int (nI gL), .int (nI tk), .int (nI vv), .ref rd, .int (nI rM), .ref tx, .int (nI tL), .int (nI pl)])), (al, .inl (cI, 44, .inl (fun j => nI ((allF g n e p b) j)))), (ct, .inl (cI, 9, .inl (fun j => nI ((sF (cM p b g n e)) j)))), (bt, .inl (cI, 1400, .inl (fun j => nI (u.1 j)))), (cs, .inl (cI, 40, .inl (fun j => nI (u.2 j))))]) 0 0 := by
  refine MI.start (by decide) (Nat.le_of_ble_eq_true rfl) (lv0 := [(0, .ref m9), (1, .int (nI 10))]) rfl ?_
  intro pp9 ee9 ss9 mm9 args9 below9 meth9 co9 A9 Q9 hQ hC hr hlk hnm
  refine V_aload_n hC dX9_count_0 rfl 0 rfl ?_
  refine V_callvV (As := []) (rest := []) (wr := []) hC (c_X9_putsNow l D cI cQ m9 al hs hL ct tt hv lo hi wt bt bL cs gv gL tk vv rd rM tx tL pl n e p b g f fb fc (by omega) (hg) (by omega) (by omega) (by omega)) mok_X9_putsNow ml_X9_97 (q1 := 0) rfl cls_X9 rfl rfl rfl (by decide) (by decide) (by decide) (Nat.le_of_ble_eq_true rfl) [0, 1, 2, 3, 4] [] rfl (by decide) rfl (by decide) (by decide) dX9_count_1 rfl (fun u9 h1 => ?_)
  obtain ⟨fb2_1, fc2_2⟩ := u9
  have h1 : rep fb2_1 (sB (cM p b g n e)) ∧ ∀ j, j < n → fc2_2 j = cost p b g j := h1
  refine V_perm (ws2 := [(m9, .inr (9, [.ref al, .ref hs, .int (nI hL), .ref ct, .int (nI (sT (cM p b g n e))), .int (nI (sH (cM p b g n e))), .int (nI (sL (cM p b g n e))), .int (nI (sU (cM p b g n e))), .int (nI (sW (cM p b g n e))), .ref bt, .int (nI ((sB (cM p b g n e)).length)), .ref cs, .ref gv, .int (nI gL), .int (nI tk), .int (nI vv), .ref rd, .int (nI rM), .ref tx, .int (nI tL), .int (nI pl)])), (al, .inl (cI, 44, .inl (fun j => nI ((allF g n e p b) j)))), (ct, .inl (cI, 9, .inl (fun j => nI ((sF (cM p b g n e)) j)))), (bt, .inl (cI, 1400, .inl (fun j => nI (fb2_1 j)))), (cs, .inl (cI, 40, .inl (fun j => nI (fc2_2 j))))]) [0, 1, 2, 3, 4] rfl (by decide) ?_
  refine V_iload_n hC dX9_count_4 rfl 1 rfl ?_
  refine V_tblIn (tgt := 126) hC dX9_count_5 (by decide) (by decide) rfl (by decide) ?_
  refine V_aload_n hC dX9_count_126 rfl 0 rfl ?_
  refine V_get (ci := 9) (v := .ref al) hC in_X9 0 rfl cls_X9 0 (by decide) fl_X9_7 rfl dX9_count_127 ?_
  refine V_iload_n hC dX9_count_130 rfl 1 rfl ?_
  refine V_bipush (v := nI 10) hC dX9_count_131 (by decide) ?_
  refine V_isub hC dX9_count_133 (by omega) ?_
  refine V_iald hC 1 0 rfl rfl (by omega) (by decide) dX9_count_134 ?_
  refine V_st (st2 := [.int (nI p)]) (by rw [show ((allF g n e p b) 0) = (p) from rfl]) ?_
  subst hQ
  exact V_iret hC hr hlk rfl (by decide) (by decide) dX9_count_135 ((fb2_1, fc2_2)) [0, 1, 2, 3, 4] rfl (by decide) (⟨rfl, trivial⟩)
abbrev rm_X9_count_11 : Room := { frames := 6, cells := 0, slots := 0, locals := 132 }
set_option maxHeartbeats 4000000 in
set_option maxRecDepth 100000 in
theorem c_X9_count_11 (l : Launch) (D : va_G) (cI cQ : ClassId) (m9 al hs hL ct tt hv lo hi wt bt bL cs gv gL tk vv rd rM tx tL pl n e p b : Nat) (g f fb fc : Nat → Nat) (hn : n ≤ 40) (hg : ∀ j, j < n → g j < 8) (he : e < 2) (hp : p ≤ 64) (hb : b ≤ 2000) : MI l yX9_count cX9_count 2 (some .int) rm_X9_count_11 D (TY cI cQ) [.ref m9, .int (nI 11)] [(m9, .inr (9, [.ref al, .ref hs, .int (nI hL), .ref ct, .int (nI tt), .int (nI hv), .int (nI lo), .int (nI hi), .int (nI wt), .ref bt, .int (nI bL), .ref cs, .ref gv, .int (nI gL), .int (nI tk), .int (nI vv), .ref rd, .int (nI rM), .ref tx, .int (nI tL), .int (nI pl)])), (al, .inl (cI, 44, .inl (fun j => nI ((allF g n e p b) j)))), (ct, .inl (cI, 9, .inl (fun j => nI (f j)))), (bt, .inl (cI, 1400, .inl (fun j => nI (fb j)))), (cs, .inl (cI, 40, .inl (fun j => nI (fc j))))] (fun (r9 : Int32) (u : (Nat → Nat) × (Nat → Nat)) => r9 = (nI b) ∧ (True)) (fun (u : (Nat → Nat) × (Nat → Nat)) => [(m9, .inr (9, [.ref al, .ref hs, .int (nI hL), .ref ct, .int (nI (sT (cM p b g n e))), .int (nI (sH (cM p b g n e))), .int (nI (sL (cM p b g n e))), .int (nI (sU (cM p b g n e))), .int (nI (sW (cM p b g n e))), .ref bt, .int (nI ((sB (cM p b g n e)).length)), .ref cs, .ref gv, .int (nI gL), .int (nI tk), .int (nI vv), .ref rd, .int (nI rM), .ref tx, .int (nI tL), .int (nI pl)])), (al, .inl (cI, 44, .inl (fun j => nI ((allF g n e p b) j)))), (ct, .inl (cI, 9, .inl (fun j => nI ((sF (cM p b g n e)) j)))), (bt, .inl (cI, 1400, .inl (fun j => nI (u.1 j)))), (cs, .inl (cI, 40, .inl (fun j => nI (u.2 j))))]) 0 0 := by
  refine MI.start (by decide) (Nat.le_of_ble_eq_true rfl) (lv0 := [(0, .ref m9), (1, .int (nI 11))]) rfl ?_
  intro pp9 ee9 ss9 mm9 args9 below9 meth9 co9 A9 Q9 hQ hC hr hlk hnm
  refine V_aload_n hC dX9_count_0 rfl 0 rfl ?_
  refine V_callvV (As := []) (rest := []) (wr := []) hC (c_X9_putsNow l D cI cQ m9 al hs hL ct tt hv lo hi wt bt bL cs gv gL tk vv rd rM tx tL pl n e p b g f fb fc (by omega) (hg) (by omega) (by omega) (by omega)) mok_X9_putsNow ml_X9_97 (q1 := 0) rfl cls_X9 rfl rfl rfl (by decide) (by decide) (by decide) (Nat.le_of_ble_eq_true rfl) [0, 1, 2, 3, 4] [] rfl (by decide) rfl (by decide) (by decide) dX9_count_1 rfl (fun u9 h1 => ?_)
  obtain ⟨fb2_1, fc2_2⟩ := u9
  have h1 : rep fb2_1 (sB (cM p b g n e)) ∧ ∀ j, j < n → fc2_2 j = cost p b g j := h1
  refine V_perm (ws2 := [(m9, .inr (9, [.ref al, .ref hs, .int (nI hL), .ref ct, .int (nI (sT (cM p b g n e))), .int (nI (sH (cM p b g n e))), .int (nI (sL (cM p b g n e))), .int (nI (sU (cM p b g n e))), .int (nI (sW (cM p b g n e))), .ref bt, .int (nI ((sB (cM p b g n e)).length)), .ref cs, .ref gv, .int (nI gL), .int (nI tk), .int (nI vv), .ref rd, .int (nI rM), .ref tx, .int (nI tL), .int (nI pl)])), (al, .inl (cI, 44, .inl (fun j => nI ((allF g n e p b) j)))), (ct, .inl (cI, 9, .inl (fun j => nI ((sF (cM p b g n e)) j)))), (bt, .inl (cI, 1400, .inl (fun j => nI (fb2_1 j)))), (cs, .inl (cI, 40, .inl (fun j => nI (fc2_2 j))))]) [0, 1, 2, 3, 4] rfl (by decide) ?_
  refine V_iload_n hC dX9_count_4 rfl 1 rfl ?_
  refine V_tblIn (tgt := 126) hC dX9_count_5 (by decide) (by decide) rfl (by decide) ?_
  refine V_aload_n hC dX9_count_126 rfl 0 rfl ?_
  refine V_get (ci := 9) (v := .ref al) hC in_X9 0 rfl cls_X9 0 (by decide) fl_X9_7 rfl dX9_count_127 ?_
  refine V_iload_n hC dX9_count_130 rfl 1 rfl ?_
  refine V_bipush (v := nI 10) hC dX9_count_131 (by decide) ?_
  refine V_isub hC dX9_count_133 (by omega) ?_
  refine V_iald hC 1 0 rfl rfl (by omega) (by decide) dX9_count_134 ?_
  refine V_st (st2 := [.int (nI b)]) (by rw [show ((allF g n e p b) 1) = (b) from rfl]) ?_
  subst hQ
  exact V_iret hC hr hlk rfl (by decide) (by decide) dX9_count_135 ((fb2_1, fc2_2)) [0, 1, 2, 3, 4] rfl (by decide) (⟨rfl, trivial⟩)
abbrev rm_X9_count_12 : Room := { frames := 6, cells := 0, slots := 0, locals := 132 }
set_option maxHeartbeats 4000000 in
set_option maxRecDepth 100000 in
theorem c_X9_count_12 (l : Launch) (D : va_G) (cI cQ : ClassId) (m9 al hs hL ct tt hv lo hi wt bt bL cs gv gL tk vv rd rM tx tL pl n e p b : Nat) (g f fb fc : Nat → Nat) (hn : n ≤ 40) (hg : ∀ j, j < n → g j < 8) (he : e < 2) (hp : p ≤ 64) (hb : b ≤ 2000) : MI l yX9_count cX9_count 2 (some .int) rm_X9_count_12 D (TY cI cQ) [.ref m9, .int (nI 12)] [(m9, .inr (9, [.ref al, .ref hs, .int (nI hL), .ref ct, .int (nI tt), .int (nI hv), .int (nI lo), .int (nI hi), .int (nI wt), .ref bt, .int (nI bL), .ref cs, .ref gv, .int (nI gL), .int (nI tk), .int (nI vv), .ref rd, .int (nI rM), .ref tx, .int (nI tL), .int (nI pl)])), (al, .inl (cI, 44, .inl (fun j => nI ((allF g n e p b) j)))), (ct, .inl (cI, 9, .inl (fun j => nI (f j)))), (bt, .inl (cI, 1400, .inl (fun j => nI (fb j)))), (cs, .inl (cI, 40, .inl (fun j => nI (fc j))))] (fun (r9 : Int32) (u : (Nat → Nat) × (Nat → Nat)) => r9 = (nI (mxF (cost p b g) n)) ∧ (True)) (fun (u : (Nat → Nat) × (Nat → Nat)) => [(m9, .inr (9, [.ref al, .ref hs, .int (nI hL), .ref ct, .int (nI (sT (cM p b g n e))), .int (nI (sH (cM p b g n e))), .int (nI (sL (cM p b g n e))), .int (nI (sU (cM p b g n e))), .int (nI (sW (cM p b g n e))), .ref bt, .int (nI ((sB (cM p b g n e)).length)), .ref cs, .ref gv, .int (nI gL), .int (nI tk), .int (nI vv), .ref rd, .int (nI rM), .ref tx, .int (nI tL), .int (nI pl)])), (al, .inl (cI, 44, .inl (fun j => nI ((allF g n e p b) j)))), (ct, .inl (cI, 9, .inl (fun j => nI ((sF (cM p b g n e)) j)))), (bt, .inl (cI, 1400, .inl (fun j => nI (u.1 j)))), (cs, .inl (cI, 40, .inl (fun j => nI (u.2 j))))]) 0 0 := by
  refine MI.start (by decide) (Nat.le_of_ble_eq_true rfl) (lv0 := [(0, .ref m9), (1, .int (nI 12))]) rfl ?_
  intro pp9 ee9 ss9 mm9 args9 below9 meth9 co9 A9 Q9 hQ hC hr hlk hnm
  refine V_aload_n hC dX9_count_0 rfl 0 rfl ?_
  refine V_callvV (As := []) (rest := []) (wr := []) hC (c_X9_putsNow l D cI cQ m9 al hs hL ct tt hv lo hi wt bt bL cs gv gL tk vv rd rM tx tL pl n e p b g f fb fc (by omega) (hg) (by omega) (by omega) (by omega)) mok_X9_putsNow ml_X9_97 (q1 := 0) rfl cls_X9 rfl rfl rfl (by decide) (by decide) (by decide) (Nat.le_of_ble_eq_true rfl) [0, 1, 2, 3, 4] [] rfl (by decide) rfl (by decide) (by decide) dX9_count_1 rfl (fun u9 h1 => ?_)
  obtain ⟨fb2_1, fc2_2⟩ := u9
  have h1 : rep fb2_1 (sB (cM p b g n e)) ∧ ∀ j, j < n → fc2_2 j = cost p b g j := h1
  refine V_perm (ws2 := [(m9, .inr (9, [.ref al, .ref hs, .int (nI hL), .ref ct, .int (nI (sT (cM p b g n e))), .int (nI (sH (cM p b g n e))), .int (nI (sL (cM p b g n e))), .int (nI (sU (cM p b g n e))), .int (nI (sW (cM p b g n e))), .ref bt, .int (nI ((sB (cM p b g n e)).length)), .ref cs, .ref gv, .int (nI gL), .int (nI tk), .int (nI vv), .ref rd, .int (nI rM), .ref tx, .int (nI tL), .int (nI pl)])), (al, .inl (cI, 44, .inl (fun j => nI ((allF g n e p b) j)))), (ct, .inl (cI, 9, .inl (fun j => nI ((sF (cM p b g n e)) j)))), (bt, .inl (cI, 1400, .inl (fun j => nI (fb2_1 j)))), (cs, .inl (cI, 40, .inl (fun j => nI (fc2_2 j))))]) [0, 1, 2, 3, 4] rfl (by decide) ?_
  refine V_iload_n hC dX9_count_4 rfl 1 rfl ?_
  refine V_tblIn (tgt := 136) hC dX9_count_5 (by decide) (by decide) rfl (by decide) ?_
  refine V_aload_n hC dX9_count_136 rfl 0 rfl ?_
  refine V_calliV (As := []) (rest := []) (wr := [(ct, .inl (cI, 9, .inl (fun j => nI ((sF (cM p b g n e)) j)))), (bt, .inl (cI, 1400, .inl (fun j => nI (fb2_1 j))))]) hC (c_X9_mostWritten l D cI cQ m9 al hs hL ct (sT (cM p b g n e)) (sH (cM p b g n e)) (sL (cM p b g n e)) (sU (cM p b g n e)) (sW (cM p b g n e)) bt ((sB (cM p b g n e)).length) cs gv gL tk vv rd rM tx tL pl n e p b g fc2_2 (by omega) (fun j hj => by rw [h1.2 j hj]; have := cost_le p b g (show j < 40 by omega); omega)) mok_X9_mostWritten ml_X9_136 (q1 := 0) rfl cls_X9 rfl rfl rfl (by decide) (by decide) (by decide) (Nat.le_of_ble_eq_true rfl) [0, 1, 4] [2, 3] rfl (by decide) rfl (by decide) (by decide) dX9_count_137 rfl (fun r9 u9 h137 => ?_)
  obtain ⟨rfl, h137⟩ := h137
  clear h137
  refine V_perm (ws2 := [(m9, .inr (9, [.ref al, .ref hs, .int (nI hL), .ref ct, .int (nI ((sT (cM p b g n e)))), .int (nI ((sH (cM p b g n e)))), .int (nI ((sL (cM p b g n e)))), .int (nI ((sU (cM p b g n e)))), .int (nI ((sW (cM p b g n e)))), .ref bt, .int (nI (((sB (cM p b g n e)).length))), .ref cs, .ref gv, .int (nI gL), .int (nI tk), .int (nI vv), .ref rd, .int (nI rM), .ref tx, .int (nI tL), .int (nI pl)])), (al, .inl (cI, 44, .inl (fun j => nI ((allF g n e p b) j)))), (ct, .inl (cI, 9, .inl (fun j => nI ((sF (cM p b g n e)) j)))), (bt, .inl (cI, 1400, .inl (fun j => nI (fb2_1 j)))), (cs, .inl (cI, 40, .inl (fun j => nI (fc2_2 j))))]) [2, 3, 0, 1, 4] rfl (by decide) ?_
  refine V_st (st2 := [.int (nI (mxF (cost p b g) n))]) (by rw [show (mxF fc2_2 n) = (mxF (cost p b g) n) from mxF_cong h1.2]) ?_
  subst hQ
  exact V_iret hC hr hlk rfl (by decide) (by decide) dX9_count_140 ((fb2_1, fc2_2)) [0, 1, 2, 3, 4] rfl (by decide) (⟨rfl, trivial⟩)
abbrev rm_X9_count_neg : Room := { frames := 6, cells := 0, slots := 0, locals := 132 }
set_option maxHeartbeats 4000000 in
set_option maxRecDepth 100000 in
theorem c_X9_count_neg (l : Launch) (D : va_G) (cI cQ : ClassId) (m9 al hs hL ct tt hv lo hi wt bt bL cs gv gL tk vv rd rM tx tL pl n e p b : Nat) (g f fb fc : Nat → Nat) (x : Int32) (hn : n ≤ 40) (hg : ∀ j, j < n → g j < 8) (he : e < 2) (hp : p ≤ 64) (hb : b ≤ 2000) (hx : x.toInt < 0) : MI l yX9_count cX9_count 2 (some .int) rm_X9_count_neg D (TY cI cQ) [.ref m9, .int (x)] [(m9, .inr (9, [.ref al, .ref hs, .int (nI hL), .ref ct, .int (nI tt), .int (nI hv), .int (nI lo), .int (nI hi), .int (nI wt), .ref bt, .int (nI bL), .ref cs, .ref gv, .int (nI gL), .int (nI tk), .int (nI vv), .ref rd, .int (nI rM), .ref tx, .int (nI tL), .int (nI pl)])), (al, .inl (cI, 44, .inl (fun j => nI ((allF g n e p b) j)))), (ct, .inl (cI, 9, .inl (fun j => nI (f j)))), (bt, .inl (cI, 1400, .inl (fun j => nI (fb j)))), (cs, .inl (cI, 40, .inl (fun j => nI (fc j))))] (fun (r9 : Int32) (u : (Nat → Nat) × (Nat → Nat)) => r9 = (-1) ∧ (True)) (fun (u : (Nat → Nat) × (Nat → Nat)) => [(m9, .inr (9, [.ref al, .ref hs, .int (nI hL), .ref ct, .int (nI (sT (cM p b g n e))), .int (nI (sH (cM p b g n e))), .int (nI (sL (cM p b g n e))), .int (nI (sU (cM p b g n e))), .int (nI (sW (cM p b g n e))), .ref bt, .int (nI ((sB (cM p b g n e)).length)), .ref cs, .ref gv, .int (nI gL), .int (nI tk), .int (nI vv), .ref rd, .int (nI rM), .ref tx, .int (nI tL), .int (nI pl)])), (al, .inl (cI, 44, .inl (fun j => nI ((allF g n e p b) j)))), (ct, .inl (cI, 9, .inl (fun j => nI ((sF (cM p b g n e)) j)))), (bt, .inl (cI, 1400, .inl (fun j => nI (u.1 j)))), (cs, .inl (cI, 40, .inl (fun j => nI (u.2 j))))]) 0 0 := by
  refine MI.start (by decide) (Nat.le_of_ble_eq_true rfl) (lv0 := [(0, .ref m9), (1, .int (x))]) rfl ?_
  intro pp9 ee9 ss9 mm9 args9 below9 meth9 co9 A9 Q9 hQ hC hr hlk hnm
  refine V_aload_n hC dX9_count_0 rfl 0 rfl ?_
  refine V_callvV (As := []) (rest := []) (wr := []) hC (c_X9_putsNow l D cI cQ m9 al hs hL ct tt hv lo hi wt bt bL cs gv gL tk vv rd rM tx tL pl n e p b g f fb fc (by omega) (hg) (by omega) (by omega) (by omega)) mok_X9_putsNow ml_X9_97 (q1 := 0) rfl cls_X9 rfl rfl rfl (by decide) (by decide) (by decide) (Nat.le_of_ble_eq_true rfl) [0, 1, 2, 3, 4] [] rfl (by decide) rfl (by decide) (by decide) dX9_count_1 rfl (fun u9 h1 => ?_)
  obtain ⟨fb2_1, fc2_2⟩ := u9
  have h1 : rep fb2_1 (sB (cM p b g n e)) ∧ ∀ j, j < n → fc2_2 j = cost p b g j := h1
  refine V_perm (ws2 := [(m9, .inr (9, [.ref al, .ref hs, .int (nI hL), .ref ct, .int (nI (sT (cM p b g n e))), .int (nI (sH (cM p b g n e))), .int (nI (sL (cM p b g n e))), .int (nI (sU (cM p b g n e))), .int (nI (sW (cM p b g n e))), .ref bt, .int (nI ((sB (cM p b g n e)).length)), .ref cs, .ref gv, .int (nI gL), .int (nI tk), .int (nI vv), .ref rd, .int (nI rM), .ref tx, .int (nI tL), .int (nI pl)])), (al, .inl (cI, 44, .inl (fun j => nI ((allF g n e p b) j)))), (ct, .inl (cI, 9, .inl (fun j => nI ((sF (cM p b g n e)) j)))), (bt, .inl (cI, 1400, .inl (fun j => nI (fb2_1 j)))), (cs, .inl (cI, 40, .inl (fun j => nI (fc2_2 j))))]) [0, 1, 2, 3, 4] rfl (by decide) ?_
  refine V_iload_n hC dX9_count_4 rfl 1 rfl ?_
  refine V_tblOut (tgt := 141) hC dX9_count_5 (Or.inl hx) (by decide) ?_
  refine V_iconst (v := -1) hC dX9_count_141 (by decide) ?_
  subst hQ
  exact V_iret hC hr hlk rfl (by decide) (by decide) dX9_count_142 ((fb2_1, fc2_2)) [0, 1, 2, 3, 4] rfl (by decide) (⟨rfl, trivial⟩)
abbrev rm_X9_count_bad : Room := { frames := 6, cells := 0, slots := 0, locals := 132 }
set_option maxHeartbeats 4000000 in
set_option maxRecDepth 100000 in
theorem c_X9_count_bad (l : Launch) (D : va_G) (cI cQ : ClassId) (m9 al hs hL ct tt hv lo hi wt bt bL cs gv gL tk vv rd rM tx tL pl n e p b x : Nat) (g f fb fc : Nat → Nat) (hn : n ≤ 40) (hg : ∀ j, j < n → g j < 8) (he : e < 2) (hp : p ≤ 64) (hb : b ≤ 2000) (hx : 13 ≤ x ∧ x < 2147483648) : MI l yX9_count cX9_count 2 (some .int) rm_X9_count_bad D (TY cI cQ) [.ref m9, .int (nI x)] [(m9, .inr (9, [.ref al, .ref hs, .int (nI hL), .ref ct, .int (nI tt), .int (nI hv), .int (nI lo), .int (nI hi), .int (nI wt), .ref bt, .int (nI bL), .ref cs, .ref gv, .int (nI gL), .int (nI tk), .int (nI vv), .ref rd, .int (nI rM), .ref tx, .int (nI tL), .int (nI pl)])), (al, .inl (cI, 44, .inl (fun j => nI ((allF g n e p b) j)))), (ct, .inl (cI, 9, .inl (fun j => nI (f j)))), (bt, .inl (cI, 1400, .inl (fun j => nI (fb j)))), (cs, .inl (cI, 40, .inl (fun j => nI (fc j))))] (fun (r9 : Int32) (u : (Nat → Nat) × (Nat → Nat)) => r9 = (-1) ∧ (True)) (fun (u : (Nat → Nat) × (Nat → Nat)) => [(m9, .inr (9, [.ref al, .ref hs, .int (nI hL), .ref ct, .int (nI (sT (cM p b g n e))), .int (nI (sH (cM p b g n e))), .int (nI (sL (cM p b g n e))), .int (nI (sU (cM p b g n e))), .int (nI (sW (cM p b g n e))), .ref bt, .int (nI ((sB (cM p b g n e)).length)), .ref cs, .ref gv, .int (nI gL), .int (nI tk), .int (nI vv), .ref rd, .int (nI rM), .ref tx, .int (nI tL), .int (nI pl)])), (al, .inl (cI, 44, .inl (fun j => nI ((allF g n e p b) j)))), (ct, .inl (cI, 9, .inl (fun j => nI ((sF (cM p b g n e)) j)))), (bt, .inl (cI, 1400, .inl (fun j => nI (u.1 j)))), (cs, .inl (cI, 40, .inl (fun j => nI (u.2 j))))]) 0 0 := by
  refine MI.start (by decide) (Nat.le_of_ble_eq_true rfl) (lv0 := [(0, .ref m9), (1, .int (nI x))]) rfl ?_
  intro pp9 ee9 ss9 mm9 args9 below9 meth9 co9 A9 Q9 hQ hC hr hlk hnm
  refine V_aload_n hC dX9_count_0 rfl 0 rfl ?_
  refine V_callvV (As := []) (rest := []) (wr := []) hC (c_X9_putsNow l D cI cQ m9 al hs hL ct tt hv lo hi wt bt bL cs gv gL tk vv rd rM tx tL pl n e p b g f fb fc (by omega) (hg) (by omega) (by omega) (by omega)) mok_X9_putsNow ml_X9_97 (q1 := 0) rfl cls_X9 rfl rfl rfl (by decide) (by decide) (by decide) (Nat.le_of_ble_eq_true rfl) [0, 1, 2, 3, 4] [] rfl (by decide) rfl (by decide) (by decide) dX9_count_1 rfl (fun u9 h1 => ?_)
  obtain ⟨fb2_1, fc2_2⟩ := u9
  have h1 : rep fb2_1 (sB (cM p b g n e)) ∧ ∀ j, j < n → fc2_2 j = cost p b g j := h1
  refine V_perm (ws2 := [(m9, .inr (9, [.ref al, .ref hs, .int (nI hL), .ref ct, .int (nI (sT (cM p b g n e))), .int (nI (sH (cM p b g n e))), .int (nI (sL (cM p b g n e))), .int (nI (sU (cM p b g n e))), .int (nI (sW (cM p b g n e))), .ref bt, .int (nI ((sB (cM p b g n e)).length)), .ref cs, .ref gv, .int (nI gL), .int (nI tk), .int (nI vv), .ref rd, .int (nI rM), .ref tx, .int (nI tL), .int (nI pl)])), (al, .inl (cI, 44, .inl (fun j => nI ((allF g n e p b) j)))), (ct, .inl (cI, 9, .inl (fun j => nI ((sF (cM p b g n e)) j)))), (bt, .inl (cI, 1400, .inl (fun j => nI (fb2_1 j)))), (cs, .inl (cI, 40, .inl (fun j => nI (fc2_2 j))))]) [0, 1, 2, 3, 4] rfl (by decide) ?_
  refine V_iload_n hC dX9_count_4 rfl 1 rfl ?_
  refine V_tblOut (tgt := 141) hC dX9_count_5 (Or.inr (by rw [nI_toInt (by omega)]; omega)) (by decide) ?_
  refine V_iconst (v := -1) hC dX9_count_141 (by decide) ?_
  subst hQ
  exact V_iret hC hr hlk rfl (by decide) (by decide) dX9_count_142 ((fb2_1, fc2_2)) [0, 1, 2, 3, 4] rfl (by decide) (⟨rfl, trivial⟩)
abbrev rm_X9_cost_neg : Room := { frames := 0, cells := 0, slots := 0, locals := 0 }
set_option maxHeartbeats 4000000 in
set_option maxRecDepth 100000 in
theorem c_X9_cost_neg (l : Launch) (D : va_G) (cI cQ : ClassId) (m9 al hs hL ct tt hv lo hi wt bt bL cs gv gL tk vv rd rM tx tL pl : Nat) (x : Int32) (hx : x.toInt < 0) : MI l yX9_cost cX9_cost 2 (some .int) rm_X9_cost_neg D (TY cI cQ) [.ref m9, .int (x)] [(m9, .inr (9, [.ref al, .ref hs, .int (nI hL), .ref ct, .int (nI tt), .int (nI hv), .int (nI lo), .int (nI hi), .int (nI wt), .ref bt, .int (nI bL), .ref cs, .ref gv, .int (nI gL), .int (nI tk), .int (nI vv), .ref rd, .int (nI rM), .ref tx, .int (nI tL), .int (nI pl)]))] (fun (r9 : Int32) (u : Unit) => r9 = (-1) ∧ (True)) (fun (u : Unit) => [(m9, .inr (9, [.ref al, .ref hs, .int (nI hL), .ref ct, .int (nI tt), .int (nI hv), .int (nI lo), .int (nI hi), .int (nI wt), .ref bt, .int (nI bL), .ref cs, .ref gv, .int (nI gL), .int (nI tk), .int (nI vv), .ref rd, .int (nI rM), .ref tx, .int (nI tL), .int (nI pl)]))]) 0 0 := by
  refine MI.start (by decide) (Nat.le_of_ble_eq_true rfl) (lv0 := [(0, .ref m9), (1, .int (x))]) rfl ?_
  intro pp9 ee9 ss9 mm9 args9 below9 meth9 co9 A9 Q9 hQ hC hr hlk hnm
  refine V_iload_n hC dX9_cost_0 rfl 1 rfl ?_
  refine V_if_ge_F (tgt := 6) hC dX9_cost_1 (by decide) (Int32.not_le.mpr (Int32.lt_iff_toInt_lt.mpr hx)) ?_
  refine V_iconst (v := -1) hC dX9_cost_4 (by decide) ?_
  subst hQ
  exact V_iret hC hr hlk rfl (by decide) (by decide) dX9_cost_5 (()) [0] rfl (by decide) (⟨rfl, trivial⟩)
abbrev rm_X9_cost_ok : Room := { frames := 6, cells := 0, slots := 0, locals := 132 }
set_option maxHeartbeats 4000000 in
set_option maxRecDepth 100000 in
theorem c_X9_cost_ok (l : Launch) (D : va_G) (cI cQ : ClassId) (m9 al hs hL ct tt hv lo hi wt bt bL cs gv gL tk vv rd rM tx tL pl n e p b i : Nat) (g f fb fc : Nat → Nat) (hn : n ≤ 40) (hg : ∀ j, j < n → g j < 8) (he : e < 2) (hp : p ≤ 64) (hb : b ≤ 2000) (hi9 : i < n) : MI l yX9_cost cX9_cost 2 (some .int) rm_X9_cost_ok D (TY cI cQ) [.ref m9, .int (nI i)] [(m9, .inr (9, [.ref al, .ref hs, .int (nI hL), .ref ct, .int (nI tt), .int (nI hv), .int (nI lo), .int (nI hi), .int (nI wt), .ref bt, .int (nI bL), .ref cs, .ref gv, .int (nI gL), .int (nI tk), .int (nI vv), .ref rd, .int (nI rM), .ref tx, .int (nI tL), .int (nI pl)])), (al, .inl (cI, 44, .inl (fun j => nI ((allF g n e p b) j)))), (ct, .inl (cI, 9, .inl (fun j => nI (f j)))), (bt, .inl (cI, 1400, .inl (fun j => nI (fb j)))), (cs, .inl (cI, 40, .inl (fun j => nI (fc j))))] (fun (r9 : Int32) (u : (Nat → Nat) × (Nat → Nat)) => r9 = (nI (cost p b g i)) ∧ (True)) (fun (u : (Nat → Nat) × (Nat → Nat)) => [(m9, .inr (9, [.ref al, .ref hs, .int (nI hL), .ref ct, .int (nI (sT (cM p b g n e))), .int (nI (sH (cM p b g n e))), .int (nI (sL (cM p b g n e))), .int (nI (sU (cM p b g n e))), .int (nI (sW (cM p b g n e))), .ref bt, .int (nI ((sB (cM p b g n e)).length)), .ref cs, .ref gv, .int (nI gL), .int (nI tk), .int (nI vv), .ref rd, .int (nI rM), .ref tx, .int (nI tL), .int (nI pl)])), (al, .inl (cI, 44, .inl (fun j => nI ((allF g n e p b) j)))), (ct, .inl (cI, 9, .inl (fun j => nI ((sF (cM p b g n e)) j)))), (bt, .inl (cI, 1400, .inl (fun j => nI (u.1 j)))), (cs, .inl (cI, 40, .inl (fun j => nI (u.2 j))))]) 0 0 := by
  refine MI.start (by decide) (Nat.le_of_ble_eq_true rfl) (lv0 := [(0, .ref m9), (1, .int (nI i))]) rfl ?_
  intro pp9 ee9 ss9 mm9 args9 below9 meth9 co9 A9 Q9 hQ hC hr hlk hnm
  refine V_iload_n hC dX9_cost_0 rfl 1 rfl ?_
  refine V_if_ge_T (tgt := 6) hC dX9_cost_1 (by decide) (nI_pos' (by omega)) ?_
  refine V_aload_n hC dX9_cost_6 rfl 0 rfl ?_
  refine V_callvV (As := []) (rest := []) (wr := []) hC (c_X9_putsNow l D cI cQ m9 al hs hL ct tt hv lo hi wt bt bL cs gv gL tk vv rd rM tx tL pl n e p b g f fb fc (by omega) (hg) (by omega) (by omega) (by omega)) mok_X9_putsNow ml_X9_97 (q1 := 0) rfl cls_X9 rfl rfl rfl (by decide) (by decide) (by decide) (Nat.le_of_ble_eq_true rfl) [0, 1, 2, 3, 4] [] rfl (by decide) rfl (by decide) (by decide) dX9_cost_7 rfl (fun u9 h7 => ?_)
  obtain ⟨fb2_1, fc2_2⟩ := u9
  have h7 : rep fb2_1 (sB (cM p b g n e)) ∧ ∀ j, j < n → fc2_2 j = cost p b g j := h7
  refine V_perm (ws2 := [(m9, .inr (9, [.ref al, .ref hs, .int (nI hL), .ref ct, .int (nI (sT (cM p b g n e))), .int (nI (sH (cM p b g n e))), .int (nI (sL (cM p b g n e))), .int (nI (sU (cM p b g n e))), .int (nI (sW (cM p b g n e))), .ref bt, .int (nI ((sB (cM p b g n e)).length)), .ref cs, .ref gv, .int (nI gL), .int (nI tk), .int (nI vv), .ref rd, .int (nI rM), .ref tx, .int (nI tL), .int (nI pl)])), (al, .inl (cI, 44, .inl (fun j => nI ((allF g n e p b) j)))), (ct, .inl (cI, 9, .inl (fun j => nI ((sF (cM p b g n e)) j)))), (bt, .inl (cI, 1400, .inl (fun j => nI (fb2_1 j)))), (cs, .inl (cI, 40, .inl (fun j => nI (fc2_2 j))))]) [0, 1, 2, 3, 4] rfl (by decide) ?_
  refine V_iload_n hC dX9_cost_10 rfl 1 rfl ?_
  refine V_aload_n hC dX9_cost_11 rfl 0 rfl ?_
  refine V_get (ci := 9) (v := .ref al) hC in_X9 0 rfl cls_X9 0 (by decide) fl_X9_7 rfl dX9_cost_12 ?_
  refine V_iconst (v := nI 2) hC dX9_cost_15 (by decide) ?_
  refine V_iald hC 1 0 rfl rfl (by omega) (by decide) dX9_cost_16 ?_
  refine V_st (st2 := [.int (nI n), .int (nI i)]) (by rw [show ((allF g n e p b) 2) = (n) from rfl]) ?_
  refine V_icmp_ge (tgt := 29) hC (by omega) (by omega) dX9_cost_17 (by decide) (fun c17 => ?_) (fun c17 => ?_)
  · exact False.elim (by omega)
  · refine V_aload_n hC dX9_cost_20 rfl 0 rfl ?_
    refine V_get (ci := 9) (v := .ref cs) hC in_X9 0 rfl cls_X9 11 (by decide) fl_X9_22 rfl dX9_cost_21 ?_
    refine V_iload_n hC dX9_cost_24 rfl 1 rfl ?_
    refine V_iald hC 4 0 rfl rfl (by omega) (by decide) dX9_cost_25 ?_
    refine V_st (st2 := [.int (nI (cost p b g i))]) (by rw [show (fc2_2 i) = (cost p b g i) from h7.2 i hi9]) ?_
    refine V_goto (tgt := 31) hC dX9_cost_26 (by decide) ?_
    subst hQ
    exact V_iret hC hr hlk rfl (by decide) (by decide) dX9_cost_31 ((fb2_1, fc2_2)) [0, 1, 2, 3, 4] rfl (by decide) (⟨rfl, trivial⟩)
abbrev rm_X9_cost_no : Room := { frames := 6, cells := 0, slots := 0, locals := 132 }
set_option maxHeartbeats 4000000 in
set_option maxRecDepth 100000 in
theorem c_X9_cost_no (l : Launch) (D : va_G) (cI cQ : ClassId) (m9 al hs hL ct tt hv lo hi wt bt bL cs gv gL tk vv rd rM tx tL pl n e p b i : Nat) (g f fb fc : Nat → Nat) (hn : n ≤ 40) (hg : ∀ j, j < n → g j < 8) (he : e < 2) (hp : p ≤ 64) (hb : b ≤ 2000) (hi9 : n ≤ i ∧ i < 2147483648) : MI l yX9_cost cX9_cost 2 (some .int) rm_X9_cost_no D (TY cI cQ) [.ref m9, .int (nI i)] [(m9, .inr (9, [.ref al, .ref hs, .int (nI hL), .ref ct, .int (nI tt), .int (nI hv), .int (nI lo), .int (nI hi), .int (nI wt), .ref bt, .int (nI bL), .ref cs, .ref gv, .int (nI gL), .int (nI tk), .int (nI vv), .ref rd, .int (nI rM), .ref tx, .int (nI tL), .int (nI pl)])), (al, .inl (cI, 44, .inl (fun j => nI ((allF g n e p b) j)))), (ct, .inl (cI, 9, .inl (fun j => nI (f j)))), (bt, .inl (cI, 1400, .inl (fun j => nI (fb j)))), (cs, .inl (cI, 40, .inl (fun j => nI (fc j))))] (fun (r9 : Int32) (u : (Nat → Nat) × (Nat → Nat)) => r9 = (-4) ∧ (True)) (fun (u : (Nat → Nat) × (Nat → Nat)) => [(m9, .inr (9, [.ref al, .ref hs, .int (nI hL), .ref ct, .int (nI (sT (cM p b g n e))), .int (nI (sH (cM p b g n e))), .int (nI (sL (cM p b g n e))), .int (nI (sU (cM p b g n e))), .int (nI (sW (cM p b g n e))), .ref bt, .int (nI ((sB (cM p b g n e)).length)), .ref cs, .ref gv, .int (nI gL), .int (nI tk), .int (nI vv), .ref rd, .int (nI rM), .ref tx, .int (nI tL), .int (nI pl)])), (al, .inl (cI, 44, .inl (fun j => nI ((allF g n e p b) j)))), (ct, .inl (cI, 9, .inl (fun j => nI ((sF (cM p b g n e)) j)))), (bt, .inl (cI, 1400, .inl (fun j => nI (u.1 j)))), (cs, .inl (cI, 40, .inl (fun j => nI (u.2 j))))]) 0 0 := by
  refine MI.start (by decide) (Nat.le_of_ble_eq_true rfl) (lv0 := [(0, .ref m9), (1, .int (nI i))]) rfl ?_
  intro pp9 ee9 ss9 mm9 args9 below9 meth9 co9 A9 Q9 hQ hC hr hlk hnm
  refine V_iload_n hC dX9_cost_0 rfl 1 rfl ?_
  refine V_if_ge_T (tgt := 6) hC dX9_cost_1 (by decide) (nI_pos' (by omega)) ?_
  refine V_aload_n hC dX9_cost_6 rfl 0 rfl ?_
  refine V_callvV (As := []) (rest := []) (wr := []) hC (c_X9_putsNow l D cI cQ m9 al hs hL ct tt hv lo hi wt bt bL cs gv gL tk vv rd rM tx tL pl n e p b g f fb fc (by omega) (hg) (by omega) (by omega) (by omega)) mok_X9_putsNow ml_X9_97 (q1 := 0) rfl cls_X9 rfl rfl rfl (by decide) (by decide) (by decide) (Nat.le_of_ble_eq_true rfl) [0, 1, 2, 3, 4] [] rfl (by decide) rfl (by decide) (by decide) dX9_cost_7 rfl (fun u9 h7 => ?_)
  obtain ⟨fb2_1, fc2_2⟩ := u9
  have h7 : rep fb2_1 (sB (cM p b g n e)) ∧ ∀ j, j < n → fc2_2 j = cost p b g j := h7
  refine V_perm (ws2 := [(m9, .inr (9, [.ref al, .ref hs, .int (nI hL), .ref ct, .int (nI (sT (cM p b g n e))), .int (nI (sH (cM p b g n e))), .int (nI (sL (cM p b g n e))), .int (nI (sU (cM p b g n e))), .int (nI (sW (cM p b g n e))), .ref bt, .int (nI ((sB (cM p b g n e)).length)), .ref cs, .ref gv, .int (nI gL), .int (nI tk), .int (nI vv), .ref rd, .int (nI rM), .ref tx, .int (nI tL), .int (nI pl)])), (al, .inl (cI, 44, .inl (fun j => nI ((allF g n e p b) j)))), (ct, .inl (cI, 9, .inl (fun j => nI ((sF (cM p b g n e)) j)))), (bt, .inl (cI, 1400, .inl (fun j => nI (fb2_1 j)))), (cs, .inl (cI, 40, .inl (fun j => nI (fc2_2 j))))]) [0, 1, 2, 3, 4] rfl (by decide) ?_
  refine V_iload_n hC dX9_cost_10 rfl 1 rfl ?_
  refine V_aload_n hC dX9_cost_11 rfl 0 rfl ?_
  refine V_get (ci := 9) (v := .ref al) hC in_X9 0 rfl cls_X9 0 (by decide) fl_X9_7 rfl dX9_cost_12 ?_
  refine V_iconst (v := nI 2) hC dX9_cost_15 (by decide) ?_
  refine V_iald hC 1 0 rfl rfl (by omega) (by decide) dX9_cost_16 ?_
  refine V_st (st2 := [.int (nI n), .int (nI i)]) (by rw [show ((allF g n e p b) 2) = (n) from rfl]) ?_
  refine V_icmp_ge (tgt := 29) hC (by omega) (by omega) dX9_cost_17 (by decide) (fun c17 => ?_) (fun c17 => ?_)
  · refine V_bipush (v := -4) hC dX9_cost_29 (by decide) ?_
    subst hQ
    exact V_iret hC hr hlk rfl (by decide) (by decide) dX9_cost_31 ((fb2_1, fc2_2)) [0, 1, 2, 3, 4] rfl (by decide) (⟨rfl, trivial⟩)
  · exact False.elim (by omega)
abbrev rm_X9_bitsBy_neg : Room := { frames := 1, cells := 0, slots := 0, locals := 25 }
set_option maxHeartbeats 4000000 in
set_option maxRecDepth 100000 in
theorem c_X9_bitsBy_neg (l : Launch) (D : va_G) (cI cQ : ClassId) (m9 al hs hL ct tt hv lo hi wt bt bL cs gv gL tk vv rd rM tx tL pl : Nat) (x : Int32) (hx : x.toInt < 0) : MI l yX9_bitsBy cX9_bitsBy 2 (some .int) rm_X9_bitsBy_neg D (TY cI cQ) [.ref m9, .int (x)] [(m9, .inr (9, [.ref al, .ref hs, .int (nI hL), .ref ct, .int (nI tt), .int (nI hv), .int (nI lo), .int (nI hi), .int (nI wt), .ref bt, .int (nI bL), .ref cs, .ref gv, .int (nI gL), .int (nI tk), .int (nI vv), .ref rd, .int (nI rM), .ref tx, .int (nI tL), .int (nI pl)]))] (fun (r9 : Int32) (u : Unit) => r9 = (-1) ∧ (True)) (fun (u : Unit) => [(m9, .inr (9, [.ref al, .ref hs, .int (nI hL), .ref ct, .int (nI tt), .int (nI hv), .int (nI lo), .int (nI hi), .int (nI wt), .ref bt, .int (nI bL), .ref cs, .ref gv, .int (nI gL), .int (nI tk), .int (nI vv), .ref rd, .int (nI rM), .ref tx, .int (nI tL), .int (nI pl)]))]) 0 0 := by
  refine MI.start (by decide) (Nat.le_of_ble_eq_true rfl) (lv0 := [(0, .ref m9), (1, .int (x))]) rfl ?_
  intro pp9 ee9 ss9 mm9 args9 below9 meth9 co9 A9 Q9 hQ hC hr hlk hnm
  refine V_iload_n hC dX9_bitsBy_0 rfl 1 rfl ?_
  refine V_i2l (v := (x).toInt64) hC dX9_bitsBy_1 rfl ?_
  refine V_lconst (v := lN 1) hC dX9_bitsBy_2 rfl ?_
  refine V_ldc2 (v2 := lN 64) hC dX9_bitsBy_3 cstl_X9_117 rfl ?_
  refine V_calliS (As := [.long ((x).toInt64), .long (lN 1), .long (lN 64)]) (rest := []) (wr := [(m9, .inr (9, [.ref al, .ref hs, .int (nI hL), .ref ct, .int (nI tt), .int (nI hv), .int (nI lo), .int (nI hi), .int (nI wt), .ref bt, .int (nI bL), .ref cs, .ref gv, .int (nI gL), .int (nI tk), .int (nI vv), .ref rd, .int (nI rM), .ref tx, .int (nI tL), .int (nI pl)]))]) hC (c_X9_in_neg l D cI cQ x 1 64 (hx) (by omega)) mok_X9_in ml_X9_102 rfl rfl rfl (by decide) (by decide) (by decide) (Nat.le_of_ble_eq_true rfl) [] [0] rfl (by decide) rfl (by decide) (by decide) dX9_bitsBy_6 rfl (fun r9 u9 h6 => ?_)
  obtain ⟨rfl, h6⟩ := h6
  clear h6
  refine V_perm (ws2 := [(m9, .inr (9, [.ref al, .ref hs, .int (nI hL), .ref ct, .int (nI tt), .int (nI hv), .int (nI lo), .int (nI hi), .int (nI wt), .ref bt, .int (nI bL), .ref cs, .ref gv, .int (nI gL), .int (nI tk), .int (nI vv), .ref rd, .int (nI rM), .ref tx, .int (nI tL), .int (nI pl)]))]) [0] rfl (by decide) ?_
  refine V_if_eq_T (tgt := 20) hC dX9_bitsBy_9 (by decide) ((congrArg nI (show 0 = 0 by omega)).trans nI_0) ?_
  refine V_iconst (v := -1) hC dX9_bitsBy_20 (by decide) ?_
  subst hQ
  exact V_iret hC hr hlk rfl (by decide) (by decide) dX9_bitsBy_21 (()) [0] rfl (by decide) (⟨rfl, trivial⟩)
abbrev rm_X9_bitsBy_bad : Room := { frames := 1, cells := 0, slots := 0, locals := 25 }
set_option maxHeartbeats 4000000 in
set_option maxRecDepth 100000 in
theorem c_X9_bitsBy_bad (l : Launch) (D : va_G) (cI cQ : ClassId) (m9 al hs hL ct tt hv lo hi wt bt bL cs gv gL tk vv rd rM tx tL pl q : Nat) (hq9 : (q < 1 ∨ 64 < q) ∧ q < 2147483648) : MI l yX9_bitsBy cX9_bitsBy 2 (some .int) rm_X9_bitsBy_bad D (TY cI cQ) [.ref m9, .int (nI q)] [(m9, .inr (9, [.ref al, .ref hs, .int (nI hL), .ref ct, .int (nI tt), .int (nI hv), .int (nI lo), .int (nI hi), .int (nI wt), .ref bt, .int (nI bL), .ref cs, .ref gv, .int (nI gL), .int (nI tk), .int (nI vv), .ref rd, .int (nI rM), .ref tx, .int (nI tL), .int (nI pl)]))] (fun (r9 : Int32) (u : Unit) => r9 = (-1) ∧ (True)) (fun (u : Unit) => [(m9, .inr (9, [.ref al, .ref hs, .int (nI hL), .ref ct, .int (nI tt), .int (nI hv), .int (nI lo), .int (nI hi), .int (nI wt), .ref bt, .int (nI bL), .ref cs, .ref gv, .int (nI gL), .int (nI tk), .int (nI vv), .ref rd, .int (nI rM), .ref tx, .int (nI tL), .int (nI pl)]))]) 0 0 := by
  refine MI.start (by decide) (Nat.le_of_ble_eq_true rfl) (lv0 := [(0, .ref m9), (1, .int (nI q))]) rfl ?_
  intro pp9 ee9 ss9 mm9 args9 below9 meth9 co9 A9 Q9 hQ hC hr hlk hnm
  refine V_iload_n hC dX9_bitsBy_0 rfl 1 rfl ?_
  refine V_i2l (v := lN q) hC dX9_bitsBy_1 (nI_l (by omega)) ?_
  refine V_lconst (v := lN 1) hC dX9_bitsBy_2 rfl ?_
  refine V_ldc2 (v2 := lN 64) hC dX9_bitsBy_3 cstl_X9_117 rfl ?_
  refine V_calliS (As := [.long (lN q), .long (lN 1), .long (lN 64)]) (rest := []) (wr := [(m9, .inr (9, [.ref al, .ref hs, .int (nI hL), .ref ct, .int (nI tt), .int (nI hv), .int (nI lo), .int (nI hi), .int (nI wt), .ref bt, .int (nI bL), .ref cs, .ref gv, .int (nI gL), .int (nI tk), .int (nI vv), .ref rd, .int (nI rM), .ref tx, .int (nI tL), .int (nI pl)]))]) hC (c_X9_in l D cI cQ q 1 64 (by omega) (by omega) (by omega)) mok_X9_in ml_X9_102 rfl rfl rfl (by decide) (by decide) (by decide) (Nat.le_of_ble_eq_true rfl) [] [0] rfl (by decide) rfl (by decide) (by decide) dX9_bitsBy_6 rfl (fun r9 u9 h6 => ?_)
  obtain ⟨u_1, rfl⟩ : ∃ z, z = u9 := ⟨_, rfl⟩
  obtain ⟨rfl, h6⟩ := h6
  have h6 : (u_1 = 1 ∧ 1 ≤ q ∧ q ≤ 64) ∨ (u_1 = 0 ∧ (q < 1 ∨ 64 < q)) := h6
  refine V_perm (ws2 := [(m9, .inr (9, [.ref al, .ref hs, .int (nI hL), .ref ct, .int (nI tt), .int (nI hv), .int (nI lo), .int (nI hi), .int (nI wt), .ref bt, .int (nI bL), .ref cs, .ref gv, .int (nI gL), .int (nI tk), .int (nI vv), .ref rd, .int (nI rM), .ref tx, .int (nI tL), .int (nI pl)]))]) [0] rfl (by decide) ?_
  refine V_if_eq (tgt := 20) hC (by omega) dX9_bitsBy_9 (by decide) (fun c9 => ?_) (fun c9 => ?_)
  · refine V_iconst (v := -1) hC dX9_bitsBy_20 (by decide) ?_
    subst hQ
    exact V_iret hC hr hlk rfl (by decide) (by decide) dX9_bitsBy_21 (()) [0] rfl (by decide) (⟨rfl, trivial⟩)
  · exact False.elim (by omega)
abbrev rm_X9_bitsBy_ok : Room := { frames := 6, cells := 0, slots := 0, locals := 133 }
set_option maxHeartbeats 4000000 in
set_option maxRecDepth 100000 in
theorem c_X9_bitsBy_ok (l : Launch) (D : va_G) (cI cQ : ClassId) (m9 al hs hL ct tt hv lo hi wt bt bL cs gv gL tk vv rd rM tx tL pl n e p b q : Nat) (g f fb fc : Nat → Nat) (hq9 : 1 ≤ q ∧ q ≤ 64) (hn : n ≤ 40) (hg : ∀ j, j < n → g j < 8) (hb : b ≤ 2000) : MI l yX9_bitsBy cX9_bitsBy 2 (some .int) rm_X9_bitsBy_ok D (TY cI cQ) [.ref m9, .int (nI q)] [(m9, .inr (9, [.ref al, .ref hs, .int (nI hL), .ref ct, .int (nI tt), .int (nI hv), .int (nI lo), .int (nI hi), .int (nI wt), .ref bt, .int (nI bL), .ref cs, .ref gv, .int (nI gL), .int (nI tk), .int (nI vv), .ref rd, .int (nI rM), .ref tx, .int (nI tL), .int (nI pl)])), (al, .inl (cI, 44, .inl (fun j => nI ((allF g n e p b) j)))), (ct, .inl (cI, 9, .inl (fun j => nI (f j)))), (bt, .inl (cI, 1400, .inl (fun j => nI (fb j)))), (cs, .inl (cI, 40, .inl (fun j => nI (fc j))))] (fun (r9 : Int32) (u : (Nat) × (Nat) × (Nat) × (Nat) × (Nat) × (Nat) × (Nat → Nat) × (Nat → Nat) × (Nat → Nat)) => r9 = (nI (bE q b g n)) ∧ (True)) (fun (u : (Nat) × (Nat) × (Nat) × (Nat) × (Nat) × (Nat) × (Nat → Nat) × (Nat → Nat) × (Nat → Nat)) => [(m9, .inr (9, [.ref al, .ref hs, .int (nI hL), .ref ct, .int (nI (u.1)), .int (nI (u.2.1)), .int (nI (u.2.2.1)), .int (nI (u.2.2.2.1)), .int (nI (u.2.2.2.2.1)), .ref bt, .int (nI (u.2.2.2.2.2.1)), .ref cs, .ref gv, .int (nI gL), .int (nI tk), .int (nI vv), .ref rd, .int (nI rM), .ref tx, .int (nI tL), .int (nI pl)])), (al, .inl (cI, 44, .inl (fun j => nI ((allF g n e p b) j)))), (ct, .inl (cI, 9, .inl (fun j => nI (u.2.2.2.2.2.2.1 j)))), (bt, .inl (cI, 1400, .inl (fun j => nI (u.2.2.2.2.2.2.2.1 j)))), (cs, .inl (cI, 40, .inl (fun j => nI (u.2.2.2.2.2.2.2.2 j))))]) 0 0 := by
  refine MI.start (by decide) (Nat.le_of_ble_eq_true rfl) (lv0 := [(0, .ref m9), (1, .int (nI q))]) rfl ?_
  intro pp9 ee9 ss9 mm9 args9 below9 meth9 co9 A9 Q9 hQ hC hr hlk hnm
  refine V_iload_n hC dX9_bitsBy_0 rfl 1 rfl ?_
  refine V_i2l (v := lN q) hC dX9_bitsBy_1 (nI_l (by omega)) ?_
  refine V_lconst (v := lN 1) hC dX9_bitsBy_2 rfl ?_
  refine V_ldc2 (v2 := lN 64) hC dX9_bitsBy_3 cstl_X9_117 rfl ?_
  refine V_calliS (As := [.long (lN q), .long (lN 1), .long (lN 64)]) (rest := []) (wr := [(m9, .inr (9, [.ref al, .ref hs, .int (nI hL), .ref ct, .int (nI tt), .int (nI hv), .int (nI lo), .int (nI hi), .int (nI wt), .ref bt, .int (nI bL), .ref cs, .ref gv, .int (nI gL), .int (nI tk), .int (nI vv), .ref rd, .int (nI rM), .ref tx, .int (nI tL), .int (nI pl)])), (al, .inl (cI, 44, .inl (fun j => nI ((allF g n e p b) j)))), (ct, .inl (cI, 9, .inl (fun j => nI (f j)))), (bt, .inl (cI, 1400, .inl (fun j => nI (fb j)))), (cs, .inl (cI, 40, .inl (fun j => nI (fc j))))]) hC (c_X9_in l D cI cQ q 1 64 (by omega) (by omega) (by omega)) mok_X9_in ml_X9_102 rfl rfl rfl (by decide) (by decide) (by decide) (Nat.le_of_ble_eq_true rfl) [] [0, 1, 2, 3, 4] rfl (by decide) rfl (by decide) (by decide) dX9_bitsBy_6 rfl (fun r9 u9 h6 => ?_)
  obtain ⟨u_1, rfl⟩ : ∃ z, z = u9 := ⟨_, rfl⟩
  obtain ⟨rfl, h6⟩ := h6
  have h6 : (u_1 = 1 ∧ 1 ≤ q ∧ q ≤ 64) ∨ (u_1 = 0 ∧ (q < 1 ∨ 64 < q)) := h6
  refine V_perm (ws2 := [(m9, .inr (9, [.ref al, .ref hs, .int (nI hL), .ref ct, .int (nI tt), .int (nI hv), .int (nI lo), .int (nI hi), .int (nI wt), .ref bt, .int (nI bL), .ref cs, .ref gv, .int (nI gL), .int (nI tk), .int (nI vv), .ref rd, .int (nI rM), .ref tx, .int (nI tL), .int (nI pl)])), (al, .inl (cI, 44, .inl (fun j => nI ((allF g n e p b) j)))), (ct, .inl (cI, 9, .inl (fun j => nI (f j)))), (bt, .inl (cI, 1400, .inl (fun j => nI (fb j)))), (cs, .inl (cI, 40, .inl (fun j => nI (fc j))))]) [0, 1, 2, 3, 4] rfl (by decide) ?_
  refine V_if_eq (tgt := 20) hC (by omega) dX9_bitsBy_9 (by decide) (fun c9 => ?_) (fun c9 => ?_)
  · exact False.elim (by omega)
  · refine V_aload_n hC dX9_bitsBy_12 rfl 0 rfl ?_
    refine V_iload_n hC dX9_bitsBy_13 rfl 1 rfl ?_
    refine V_calliV (As := [.int (nI q)]) (rest := []) (wr := []) hC (c_X9_bitsOf l D cI cQ m9 al hs hL ct tt hv lo hi wt bt bL cs gv gL tk vv rd rM tx tL pl n e p b q g f fb fc (by omega) (hg) (by omega) (by omega)) mok_X9_bitsOf ml_X9_139 (q1 := 0) rfl cls_X9 rfl rfl rfl (by decide) (by decide) (by decide) (Nat.le_of_ble_eq_true rfl) [0, 1, 2, 3, 4] [] rfl (by decide) rfl (by decide) (by decide) dX9_bitsBy_14 rfl (fun r9 u9 h14 => ?_)
    obtain ⟨fb2_2, fc2_3⟩ := u9
    obtain ⟨rfl, h14⟩ := h14
    clear h14
    refine V_perm (ws2 := [(m9, .inr (9, [.ref al, .ref hs, .int (nI hL), .ref ct, .int (nI (sT (cEnd (cR q b g n)))), .int (nI (sH (cEnd (cR q b g n)))), .int (nI (sL (cEnd (cR q b g n)))), .int (nI (sU (cEnd (cR q b g n)))), .int (nI (sW (cEnd (cR q b g n)))), .ref bt, .int (nI ((sB (cEnd (cR q b g n))).length)), .ref cs, .ref gv, .int (nI gL), .int (nI tk), .int (nI vv), .ref rd, .int (nI rM), .ref tx, .int (nI tL), .int (nI pl)])), (al, .inl (cI, 44, .inl (fun j => nI ((allF g n e p b) j)))), (ct, .inl (cI, 9, .inl (fun j => nI ((sF (cEnd (cR q b g n))) j)))), (bt, .inl (cI, 1400, .inl (fun j => nI (fb2_2 j)))), (cs, .inl (cI, 40, .inl (fun j => nI (fc2_3 j))))]) [0, 1, 2, 3, 4] rfl (by decide) ?_
    refine V_goto (tgt := 21) hC dX9_bitsBy_17 (by decide) ?_
    subst hQ
    exact V_iret hC hr hlk rfl (by decide) (by decide) dX9_bitsBy_21 ((sT (cEnd (cR q b g n)), sH (cEnd (cR q b g n)), sL (cEnd (cR q b g n)), sU (cEnd (cR q b g n)), sW (cEnd (cR q b g n)), (sB (cEnd (cR q b g n))).length, sF (cEnd (cR q b g n)), fb2_2, fc2_3)) [0, 1, 2, 3, 4] rfl (by decide) (⟨rfl, trivial⟩)
abbrev rm_X9_bestPace : Room := { frames := 6, cells := 0, slots := 0, locals := 133 }
set_option maxHeartbeats 4000000 in
set_option maxRecDepth 100000 in
theorem c_X9_bestPace (l : Launch) (D : va_G) (cI cQ : ClassId) (m9 al hs hL ct tt hv lo hi wt bt bL cs gv gL tk vv rd rM tx tL pl n e p b : Nat) (g f fb fc : Nat → Nat) (hn : n ≤ 40) (hg : ∀ j, j < n → g j < 8) (hb : b ≤ 2000) : MI l yX9_bestPace cX9_bestPace 5 (some .int) rm_X9_bestPace D (TY cI cQ) [.ref m9] [(m9, .inr (9, [.ref al, .ref hs, .int (nI hL), .ref ct, .int (nI tt), .int (nI hv), .int (nI lo), .int (nI hi), .int (nI wt), .ref bt, .int (nI bL), .ref cs, .ref gv, .int (nI gL), .int (nI tk), .int (nI vv), .ref rd, .int (nI rM), .ref tx, .int (nI tL), .int (nI pl)])), (al, .inl (cI, 44, .inl (fun j => nI ((allF g n e p b) j)))), (ct, .inl (cI, 9, .inl (fun j => nI (f j)))), (bt, .inl (cI, 1400, .inl (fun j => nI (fb j)))), (cs, .inl (cI, 40, .inl (fun j => nI (fc j))))] (fun (r9 : Int32) (u : (Nat) × (Nat) × (Nat) × (Nat) × (Nat) × (Nat) × (Nat → Nat) × (Nat → Nat) × (Nat → Nat)) => r9 = (nI ((bp (fun q => bE q b g n) 63).1)) ∧ (True)) (fun (u : (Nat) × (Nat) × (Nat) × (Nat) × (Nat) × (Nat) × (Nat → Nat) × (Nat → Nat) × (Nat → Nat)) => [(m9, .inr (9, [.ref al, .ref hs, .int (nI hL), .ref ct, .int (nI (u.1)), .int (nI (u.2.1)), .int (nI (u.2.2.1)), .int (nI (u.2.2.2.1)), .int (nI (u.2.2.2.2.1)), .ref bt, .int (nI (u.2.2.2.2.2.1)), .ref cs, .ref gv, .int (nI gL), .int (nI tk), .int (nI vv), .ref rd, .int (nI rM), .ref tx, .int (nI tL), .int (nI pl)])), (al, .inl (cI, 44, .inl (fun j => nI ((allF g n e p b) j)))), (ct, .inl (cI, 9, .inl (fun j => nI (u.2.2.2.2.2.2.1 j)))), (bt, .inl (cI, 1400, .inl (fun j => nI (u.2.2.2.2.2.2.2.1 j)))), (cs, .inl (cI, 40, .inl (fun j => nI (u.2.2.2.2.2.2.2.2 j))))]) 0 0 := by
  refine MI.start (by decide) (Nat.le_of_ble_eq_true rfl) (lv0 := [(0, .ref m9)]) rfl ?_
  intro pp9 ee9 ss9 mm9 args9 below9 meth9 co9 A9 Q9 hQ hC hr hlk hnm
  have hbe : ∀ q, bE q b g n ≤ 658 := fun q => bE_le q b g hn
  refine V_iconst (v := nI 1) hC dX9_bestPace_0 (by decide) ?_
  refine V_istore_n (lv2 := [(0, .ref m9), (1, .int (nI 1))]) hC dX9_bestPace_1 rfl (by decide) [1, 0] rfl ?_
  refine V_aload_n hC dX9_bestPace_2 rfl 0 rfl ?_
  refine V_iconst (v := nI 1) hC dX9_bestPace_3 (by decide) ?_
  refine V_calliV (As := [.int (nI 1)]) (rest := []) (wr := []) hC (c_X9_bitsOf l D cI cQ m9 al hs hL ct tt hv lo hi wt bt bL cs gv gL tk vv rd rM tx tL pl n e p b 1 g f fb fc (by omega) (hg) (by omega) (by omega)) mok_X9_bitsOf ml_X9_139 (q1 := 0) rfl cls_X9 rfl rfl rfl (by decide) (by decide) (by decide) (Nat.le_of_ble_eq_true rfl) [0, 1, 2, 3, 4] [] rfl (by decide) rfl (by decide) (by decide) dX9_bestPace_4 rfl (fun r9 u9 h4 => ?_)
  obtain ⟨fb2_1, fc2_2⟩ := u9
  obtain ⟨rfl, h4⟩ := h4
  clear h4
  refine V_perm (ws2 := [(m9, .inr (9, [.ref al, .ref hs, .int (nI hL), .ref ct, .int (nI (sT (cEnd (cR 1 b g n)))), .int (nI (sH (cEnd (cR 1 b g n)))), .int (nI (sL (cEnd (cR 1 b g n)))), .int (nI (sU (cEnd (cR 1 b g n)))), .int (nI (sW (cEnd (cR 1 b g n)))), .ref bt, .int (nI ((sB (cEnd (cR 1 b g n))).length)), .ref cs, .ref gv, .int (nI gL), .int (nI tk), .int (nI vv), .ref rd, .int (nI rM), .ref tx, .int (nI tL), .int (nI pl)])), (al, .inl (cI, 44, .inl (fun j => nI ((allF g n e p b) j)))), (ct, .inl (cI, 9, .inl (fun j => nI ((sF (cEnd (cR 1 b g n))) j)))), (bt, .inl (cI, 1400, .inl (fun j => nI (fb2_1 j)))), (cs, .inl (cI, 40, .inl (fun j => nI (fc2_2 j))))]) [0, 1, 2, 3, 4] rfl (by decide) ?_
  refine V_istore_n (lv2 := [(0, .ref m9), (1, .int (nI 1)), (2, .int (nI (bE 1 b g n)))]) hC dX9_bestPace_7 rfl (by decide) [1, 2, 0] rfl ?_
  refine V_iconst (v := nI 2) hC dX9_bestPace_8 (by decide) ?_
  refine V_istore_n (lv2 := [(0, .ref m9), (1, .int (nI 1)), (2, .int (nI (bE 1 b g n))), (3, .int (nI 2))]) hC dX9_bestPace_9 rfl (by decide) [1, 2, 3, 0] rfl ?_
  have L10 : ∀ (n9 : Nat) (i : Nat) (be : Nat) (fe : Nat) (tt2 : Nat) (hv2 : Nat) (lo2 : Nat) (hi2 : Nat) (wt2 : Nat) (bL2 : Nat) (f2 : Nat → Nat) (fb2 : Nat → Nat) (fc2 : Nat → Nat), (2 ≤ i ∧ i ≤ 65) → ((be, fe) = bp (fun q => bE q b g n) (i - 2)) → (be ≤ 64 ∧ fe ≤ 658) → 65 - i < n9 → V pp9 l ee9 rm_X9_bestPace ss9 mm9 args9 below9 meth9 co9 D A9 ss9.heap 5 Q9 [(m9, .inr (9, [.ref al, .ref hs, .int (nI hL), .ref ct, .int (nI tt2), .int (nI hv2), .int (nI lo2), .int (nI hi2), .int (nI wt2), .ref bt, .int (nI bL2), .ref cs, .ref gv, .int (nI gL), .int (nI tk), .int (nI vv), .ref rd, .int (nI rM), .ref tx, .int (nI tL), .int (nI pl)])), (al, .inl (cI, 44, .inl (fun j => nI ((allF g n e p b) j)))), (ct, .inl (cI, 9, .inl (fun j => nI (f2 j)))), (bt, .inl (cI, 1400, .inl (fun j => nI (fb2 j)))), (cs, .inl (cI, 40, .inl (fun j => nI (fc2 j))))] [(0, .ref m9), (1, .int (nI be)), (2, .int (nI fe)), (3, .int (nI i))] 0 0 10 [] := by
    intro n9
    induction n9 with
    | zero => intro i be fe tt2 hv2 lo2 hi2 wt2 bL2 f2 fb2 fc2 h1 h2 h3 h9; exact absurd h9 (Nat.not_lt_zero _)
    | succ n9 ih10 =>
      intro i be fe tt2 hv2 lo2 hi2 wt2 bL2 f2 fb2 fc2 h1 h2 h3 h9
      refine V_iload_n hC dX9_bestPace_10 rfl 3 rfl ?_
      refine V_bipush (v := nI 64) hC dX9_bestPace_11 (by decide) ?_
      refine V_icmp_gt (tgt := 54) hC (by omega) (by omega) dX9_bestPace_13 (by decide) (fun c13 => ?_) (fun c13 => ?_)
      · refine V_iload_n hC dX9_bestPace_54 rfl 1 rfl ?_
        subst hQ
        exact V_iret hC hr hlk rfl (by decide) (by decide) dX9_bestPace_55 ((tt2, hv2, lo2, hi2, wt2, bL2, f2, fb2, fc2)) [0, 1, 2, 3, 4] rfl (by decide) (⟨by rw [show i - 2 = 63 by omega] at h2; rw [← h2], trivial⟩)
      · refine V_aload_n hC dX9_bestPace_16 rfl 0 rfl ?_
        refine V_iload_n hC dX9_bestPace_17 rfl 3 rfl ?_
        refine V_calliV (As := [.int (nI i)]) (rest := []) (wr := []) hC (c_X9_bitsOf l D cI cQ m9 al hs hL ct tt2 hv2 lo2 hi2 wt2 bt bL2 cs gv gL tk vv rd rM tx tL pl n e p b i g f2 fb2 fc2 (by omega) (hg) (by omega) (by omega)) mok_X9_bitsOf ml_X9_139 (q1 := 0) rfl cls_X9 rfl rfl rfl (by decide) (by decide) (by decide) (Nat.le_of_ble_eq_true rfl) [0, 1, 2, 3, 4] [] rfl (by decide) rfl (by decide) (by decide) dX9_bestPace_18 rfl (fun r9 u9 h18 => ?_)
        obtain ⟨fb2_3, fc2_4⟩ := u9
        obtain ⟨rfl, h18⟩ := h18
        clear h18
        refine V_perm (ws2 := [(m9, .inr (9, [.ref al, .ref hs, .int (nI hL), .ref ct, .int (nI (sT (cEnd (cR i b g n)))), .int (nI (sH (cEnd (cR i b g n)))), .int (nI (sL (cEnd (cR i b g n)))), .int (nI (sU (cEnd (cR i b g n)))), .int (nI (sW (cEnd (cR i b g n)))), .ref bt, .int (nI ((sB (cEnd (cR i b g n))).length)), .ref cs, .ref gv, .int (nI gL), .int (nI tk), .int (nI vv), .ref rd, .int (nI rM), .ref tx, .int (nI tL), .int (nI pl)])), (al, .inl (cI, 44, .inl (fun j => nI ((allF g n e p b) j)))), (ct, .inl (cI, 9, .inl (fun j => nI ((sF (cEnd (cR i b g n))) j)))), (bt, .inl (cI, 1400, .inl (fun j => nI (fb2_3 j)))), (cs, .inl (cI, 40, .inl (fun j => nI (fc2_4 j))))]) [0, 1, 2, 3, 4] rfl (by decide) ?_
        have hb3 := hbe i
        refine V_istore (lv2 := [(0, .ref m9), (1, .int (nI be)), (2, .int (nI fe)), (3, .int (nI i)), (4, .int (nI (bE i b g n)))]) hC dX9_bestPace_21 (by decide) [1, 2, 3, 4, 0] rfl ?_
        refine V_iload hC dX9_bestPace_23 4 rfl ?_
        refine V_iload_n hC dX9_bestPace_25 rfl 2 rfl ?_
        refine V_icmp_ge (tgt := 33) hC (by omega) (by omega) dX9_bestPace_26 (by decide) (fun c26 => ?_) (fun c26 => ?_)
        · refine V_iload_n hC dX9_bestPace_33 rfl 1 rfl ?_
          refine V_istore_n (lv2 := [(0, .ref m9), (1, .int (nI be)), (2, .int (nI fe)), (3, .int (nI i)), (4, .int (nI (bE i b g n)))]) hC dX9_bestPace_34 rfl (by decide) [1, 0, 2, 3, 4] rfl ?_
          refine V_iload hC dX9_bestPace_35 4 rfl ?_
          refine V_iload_n hC dX9_bestPace_37 rfl 2 rfl ?_
          refine V_icmp_ge_T (tgt := 46) hC dX9_bestPace_38 (by decide) (nI_le (by omega) (by omega)) ?_
          refine V_iload_n hC dX9_bestPace_46 rfl 2 rfl ?_
          refine V_istore_n (lv2 := [(0, .ref m9), (1, .int (nI be)), (2, .int (nI fe)), (3, .int (nI i)), (4, .int (nI (bE i b g n)))]) hC dX9_bestPace_47 rfl (by decide) [1, 2, 0, 3, 4] rfl ?_
          refine V_iinc (v := (nI (i + 1))) (lv2 := [(0, .ref m9), (1, .int (nI be)), (2, .int (nI fe)), (3, .int (nI (i + 1))), (4, .int (nI (bE i b g n)))]) (q := 3) hC dX9_bestPace_48 rfl (nI_add _ _) (by decide) [1, 2, 3, 0, 4] rfl ?_
          refine V_goto (tgt := 10) hC dX9_bestPace_51 (by decide) ?_
          refine V_pick (lv2 := [(0, .ref m9), (1, .int (nI be)), (2, .int (nI fe)), (3, .int (nI ((i + 1))))]) [0, 1, 2, 3] rfl ?_
          exact ih10 (i + 1) be fe (sT (cEnd (cR i b g n))) (sH (cEnd (cR i b g n))) (sL (cEnd (cR i b g n))) (sU (cEnd (cR i b g n))) (sW (cEnd (cR i b g n))) ((sB (cEnd (cR i b g n))).length) (sF (cEnd (cR i b g n))) fb2_3 fc2_4 (by omega) (by rw [show i + 1 - 2 = (i - 2) + 1 by omega, bp, ← h2, show i - 2 + 2 = i by omega, if_neg (show ¬ bE i b g n < fe by omega)]) (by omega) (by omega)
        · refine V_iload_n hC dX9_bestPace_29 rfl 3 rfl ?_
          refine V_goto (tgt := 34) hC dX9_bestPace_30 (by decide) ?_
          refine V_istore_n (lv2 := [(0, .ref m9), (1, .int (nI i)), (2, .int (nI fe)), (3, .int (nI i)), (4, .int (nI (bE i b g n)))]) hC dX9_bestPace_34 rfl (by decide) [1, 0, 2, 3, 4] rfl ?_
          refine V_iload hC dX9_bestPace_35 4 rfl ?_
          refine V_iload_n hC dX9_bestPace_37 rfl 2 rfl ?_
          refine V_icmp_ge_F (tgt := 46) hC dX9_bestPace_38 (by decide) (nI_ge (by omega) (by omega)) ?_
          refine V_iload hC dX9_bestPace_41 4 rfl ?_
          refine V_goto (tgt := 47) hC dX9_bestPace_43 (by decide) ?_
          refine V_istore_n (lv2 := [(0, .ref m9), (1, .int (nI i)), (2, .int (nI (bE i b g n))), (3, .int (nI i)), (4, .int (nI (bE i b g n)))]) hC dX9_bestPace_47 rfl (by decide) [1, 2, 0, 3, 4] rfl ?_
          refine V_iinc (v := (nI (i + 1))) (lv2 := [(0, .ref m9), (1, .int (nI i)), (2, .int (nI (bE i b g n))), (3, .int (nI (i + 1))), (4, .int (nI (bE i b g n)))]) (q := 3) hC dX9_bestPace_48 rfl (nI_add _ _) (by decide) [1, 2, 3, 0, 4] rfl ?_
          refine V_goto (tgt := 10) hC dX9_bestPace_51 (by decide) ?_
          refine V_pick (lv2 := [(0, .ref m9), (1, .int (nI i)), (2, .int (nI ((bE i b g n)))), (3, .int (nI ((i + 1))))]) [0, 1, 2, 3] rfl ?_
          exact ih10 (i + 1) i (bE i b g n) (sT (cEnd (cR i b g n))) (sH (cEnd (cR i b g n))) (sL (cEnd (cR i b g n))) (sU (cEnd (cR i b g n))) (sW (cEnd (cR i b g n))) ((sB (cEnd (cR i b g n))).length) (sF (cEnd (cR i b g n))) fb2_3 fc2_4 (by omega) (by rw [show i + 1 - 2 = (i - 2) + 1 by omega, bp, ← h2, show i - 2 + 2 = i by omega, if_pos c26]) (by omega) (by omega)
  exact L10 _ 2 1 (bE 1 b g n) (sT (cEnd (cR 1 b g n))) (sH (cEnd (cR 1 b g n))) (sL (cEnd (cR 1 b g n))) (sU (cEnd (cR 1 b g n))) (sW (cEnd (cR 1 b g n))) ((sB (cEnd (cR 1 b g n))).length) (sF (cEnd (cR 1 b g n))) fb2_1 fc2_2 (by omega) (rfl) (⟨by decide, hbe 1⟩) (Nat.lt_succ_self _)
abbrev rm_X9_readBack_neg : Room := { frames := 1, cells := 0, slots := 0, locals := 25 }
set_option maxHeartbeats 4000000 in
set_option maxRecDepth 100000 in
theorem c_X9_readBack_neg (l : Launch) (D : va_G) (cI cQ : ClassId) (m9 al hs hL ct tt hv lo hi wt bt bL cs gv gL tk vv rd rM tx tL pl : Nat) (x : Int32) (hx : x.toInt < 0) : MI l yX9_readBack cX9_readBack 4 (some .int) rm_X9_readBack_neg D (TY cI cQ) [.ref m9, .int (x)] [(m9, .inr (9, [.ref al, .ref hs, .int (nI hL), .ref ct, .int (nI tt), .int (nI hv), .int (nI lo), .int (nI hi), .int (nI wt), .ref bt, .int (nI bL), .ref cs, .ref gv, .int (nI gL), .int (nI tk), .int (nI vv), .ref rd, .int (nI rM), .ref tx, .int (nI tL), .int (nI pl)]))] (fun (r9 : Int32) (u : Unit) => r9 = (-1) ∧ (True)) (fun (u : Unit) => [(m9, .inr (9, [.ref al, .ref hs, .int (nI hL), .ref ct, .int (nI tt), .int (nI hv), .int (nI lo), .int (nI hi), .int (nI wt), .ref bt, .int (nI bL), .ref cs, .ref gv, .int (nI gL), .int (nI tk), .int (nI vv), .ref rd, .int (nI rM), .ref tx, .int (nI tL), .int (nI pl)]))]) 0 0 := by
  refine MI.start (by decide) (Nat.le_of_ble_eq_true rfl) (lv0 := [(0, .ref m9), (1, .int (x))]) rfl ?_
  intro pp9 ee9 ss9 mm9 args9 below9 meth9 co9 A9 Q9 hQ hC hr hlk hnm
  refine V_iload_n hC dX9_readBack_0 rfl 1 rfl ?_
  refine V_i2l (v := (x).toInt64) hC dX9_readBack_1 rfl ?_
  refine V_lconst (v := lN 0) hC dX9_readBack_2 rfl ?_
  refine V_ldc2 (v2 := lN 2) hC dX9_readBack_3 cstl_X9_160 rfl ?_
  refine V_calliS (As := [.long ((x).toInt64), .long (lN 0), .long (lN 2)]) (rest := []) (wr := [(m9, .inr (9, [.ref al, .ref hs, .int (nI hL), .ref ct, .int (nI tt), .int (nI hv), .int (nI lo), .int (nI hi), .int (nI wt), .ref bt, .int (nI bL), .ref cs, .ref gv, .int (nI gL), .int (nI tk), .int (nI vv), .ref rd, .int (nI rM), .ref tx, .int (nI tL), .int (nI pl)]))]) hC (c_X9_in_neg l D cI cQ x 0 2 (hx) (by omega)) mok_X9_in ml_X9_102 rfl rfl rfl (by decide) (by decide) (by decide) (Nat.le_of_ble_eq_true rfl) [] [0] rfl (by decide) rfl (by decide) (by decide) dX9_readBack_6 rfl (fun r9 u9 h6 => ?_)
  obtain ⟨rfl, h6⟩ := h6
  clear h6
  refine V_perm (ws2 := [(m9, .inr (9, [.ref al, .ref hs, .int (nI hL), .ref ct, .int (nI tt), .int (nI hv), .int (nI lo), .int (nI hi), .int (nI wt), .ref bt, .int (nI bL), .ref cs, .ref gv, .int (nI gL), .int (nI tk), .int (nI vv), .ref rd, .int (nI rM), .ref tx, .int (nI tL), .int (nI pl)]))]) [0] rfl (by decide) ?_
  refine V_if_ne_F (tgt := 14) hC dX9_readBack_9 (by decide) ((congrArg nI (show 0 = 0 by omega)).trans nI_0) ?_
  refine V_iconst (v := -1) hC dX9_readBack_12 (by decide) ?_
  subst hQ
  exact V_iret hC hr hlk rfl (by decide) (by decide) dX9_readBack_13 (()) [0] rfl (by decide) (⟨rfl, trivial⟩)
abbrev rm_X9_readBack_bad : Room := { frames := 1, cells := 0, slots := 0, locals := 25 }
set_option maxHeartbeats 4000000 in
set_option maxRecDepth 100000 in
theorem c_X9_readBack_bad (l : Launch) (D : va_G) (cI cQ : ClassId) (m9 al hs hL ct tt hv lo hi wt bt bL cs gv gL tk vv rd rM tx tL pl x : Nat) (hx : 2 < x ∧ x < 2147483648) : MI l yX9_readBack cX9_readBack 4 (some .int) rm_X9_readBack_bad D (TY cI cQ) [.ref m9, .int (nI x)] [(m9, .inr (9, [.ref al, .ref hs, .int (nI hL), .ref ct, .int (nI tt), .int (nI hv), .int (nI lo), .int (nI hi), .int (nI wt), .ref bt, .int (nI bL), .ref cs, .ref gv, .int (nI gL), .int (nI tk), .int (nI vv), .ref rd, .int (nI rM), .ref tx, .int (nI tL), .int (nI pl)]))] (fun (r9 : Int32) (u : Unit) => r9 = (-1) ∧ (True)) (fun (u : Unit) => [(m9, .inr (9, [.ref al, .ref hs, .int (nI hL), .ref ct, .int (nI tt), .int (nI hv), .int (nI lo), .int (nI hi), .int (nI wt), .ref bt, .int (nI bL), .ref cs, .ref gv, .int (nI gL), .int (nI tk), .int (nI vv), .ref rd, .int (nI rM), .ref tx, .int (nI tL), .int (nI pl)]))]) 0 0 := by
  refine MI.start (by decide) (Nat.le_of_ble_eq_true rfl) (lv0 := [(0, .ref m9), (1, .int (nI x))]) rfl ?_
  intro pp9 ee9 ss9 mm9 args9 below9 meth9 co9 A9 Q9 hQ hC hr hlk hnm
  refine V_iload_n hC dX9_readBack_0 rfl 1 rfl ?_
  refine V_i2l (v := lN x) hC dX9_readBack_1 (nI_l (by omega)) ?_
  refine V_lconst (v := lN 0) hC dX9_readBack_2 rfl ?_
  refine V_ldc2 (v2 := lN 2) hC dX9_readBack_3 cstl_X9_160 rfl ?_
  refine V_calliS (As := [.long (lN x), .long (lN 0), .long (lN 2)]) (rest := []) (wr := [(m9, .inr (9, [.ref al, .ref hs, .int (nI hL), .ref ct, .int (nI tt), .int (nI hv), .int (nI lo), .int (nI hi), .int (nI wt), .ref bt, .int (nI bL), .ref cs, .ref gv, .int (nI gL), .int (nI tk), .int (nI vv), .ref rd, .int (nI rM), .ref tx, .int (nI tL), .int (nI pl)]))]) hC (c_X9_in l D cI cQ x 0 2 (by omega) (by omega) (by omega)) mok_X9_in ml_X9_102 rfl rfl rfl (by decide) (by decide) (by decide) (Nat.le_of_ble_eq_true rfl) [] [0] rfl (by decide) rfl (by decide) (by decide) dX9_readBack_6 rfl (fun r9 u9 h6 => ?_)
  obtain ⟨u_1, rfl⟩ : ∃ z, z = u9 := ⟨_, rfl⟩
  obtain ⟨rfl, h6⟩ := h6
  have h6 : (u_1 = 1 ∧ 0 ≤ x ∧ x ≤ 2) ∨ (u_1 = 0 ∧ (x < 0 ∨ 2 < x)) := h6
  refine V_perm (ws2 := [(m9, .inr (9, [.ref al, .ref hs, .int (nI hL), .ref ct, .int (nI tt), .int (nI hv), .int (nI lo), .int (nI hi), .int (nI wt), .ref bt, .int (nI bL), .ref cs, .ref gv, .int (nI gL), .int (nI tk), .int (nI vv), .ref rd, .int (nI rM), .ref tx, .int (nI tL), .int (nI pl)]))]) [0] rfl (by decide) ?_
  refine V_if_ne (tgt := 14) hC (by omega) dX9_readBack_9 (by decide) (fun c9 => ?_) (fun c9 => ?_)
  · exact False.elim (by omega)
  · refine V_iconst (v := -1) hC dX9_readBack_12 (by decide) ?_
    subst hQ
    exact V_iret hC hr hlk rfl (by decide) (by decide) dX9_readBack_13 (()) [0] rfl (by decide) (⟨rfl, trivial⟩)
abbrev rm_X9_readBack_0 : Room := { frames := 7, cells := 0, slots := 0, locals := 152 }
set_option maxHeartbeats 4000000 in
set_option maxRecDepth 100000 in
theorem c_X9_readBack_0 (l : Launch) (D : va_G) (cI cQ : ClassId) (m9 al hs hL ct tt hv lo hi wt bt bL cs gv gL tk vv rd rM tx tL pl n e p b : Nat) (g f fb fc fg frd : Nat → Nat) (hn : n ≤ 40) (hg : ∀ j, j < n → g j < 8) (he : e < 2) (hp : p ≤ 64) (hb : b ≤ 2000) : MI l yX9_readBack cX9_readBack 4 (some .int) rm_X9_readBack_0 D (TY cI cQ) [.ref m9, .int (nI 0)] [(m9, .inr (9, [.ref al, .ref hs, .int (nI hL), .ref ct, .int (nI tt), .int (nI hv), .int (nI lo), .int (nI hi), .int (nI wt), .ref bt, .int (nI bL), .ref cs, .ref gv, .int (nI gL), .int (nI tk), .int (nI vv), .ref rd, .int (nI rM), .ref tx, .int (nI tL), .int (nI pl)])), (al, .inl (cI, 44, .inl (fun j => nI ((allF g n e p b) j)))), (ct, .inl (cI, 9, .inl (fun j => nI (f j)))), (bt, .inl (cI, 1400, .inl (fun j => nI (fb j)))), (cs, .inl (cI, 40, .inl (fun j => nI (fc j)))), (gv, .inl (cI, 1400, .inl (fun j => nI (fg j)))), (rd, .inl (cI, 40, .inl (fun j => nI (frd j))))] (fun (r9 : Int32) (u : (Nat → Nat) × (Nat → Nat) × (Nat → Nat) × (Nat → Nat)) => r9 = (nI ((qR (rdF p b (βl (sB (cM p b g n e)))).2).length)) ∧ (True)) (fun (u : (Nat → Nat) × (Nat → Nat) × (Nat → Nat) × (Nat → Nat)) => [(m9, .inr (9, [.ref al, .ref hs, .int (nI hL), .ref ct, .int (nI (qT (rdF p b (βl (sB (cM p b g n e)))).2)), .int (nI (qH (rdF p b (βl (sB (cM p b g n e)))).2)), .int (nI (qL (rdF p b (βl (sB (cM p b g n e)))).2)), .int (nI (qU (rdF p b (βl (sB (cM p b g n e)))).2)), .int (nI (sW (cM p b g n e))), .ref bt, .int (nI ((sB (cM p b g n e)).length)), .ref cs, .ref gv, .int (nI ((sB (cM p b g n e)).length)), .int (nI (qK (rdF p b (βl (sB (cM p b g n e)))).2)), .int (nI (qV (rdF p b (βl (sB (cM p b g n e)))).2)), .ref rd, .int (nI ((qR (rdF p b (βl (sB (cM p b g n e)))).2).length)), .ref tx, .int (nI tL), .int (nI pl)])), (al, .inl (cI, 44, .inl (fun j => nI ((allF g n e p b) j)))), (ct, .inl (cI, 9, .inl (fun j => nI ((qF (rdF p b (βl (sB (cM p b g n e)))).2) j)))), (bt, .inl (cI, 1400, .inl (fun j => nI (u.1 j)))), (cs, .inl (cI, 40, .inl (fun j => nI (u.2.1 j)))), (gv, .inl (cI, 1400, .inl (fun j => nI (u.2.2.1 j)))), (rd, .inl (cI, 40, .inl (fun j => nI (u.2.2.2 j))))]) 0 0 := by
  refine MI.start (by decide) (Nat.le_of_ble_eq_true rfl) (lv0 := [(0, .ref m9), (1, .int (nI 0))]) rfl ?_
  intro pp9 ee9 ss9 mm9 args9 below9 meth9 co9 A9 Q9 hQ hC hr hlk hnm
  have hml := cM_len p b g (e := e) hn
  refine V_iload_n hC dX9_readBack_0 rfl 1 rfl ?_
  refine V_i2l (v := lN 0) hC dX9_readBack_1 (nI_l (by omega)) ?_
  refine V_lconst (v := lN 0) hC dX9_readBack_2 rfl ?_
  refine V_ldc2 (v2 := lN 2) hC dX9_readBack_3 cstl_X9_160 rfl ?_
  refine V_calliS (As := [.long (lN 0), .long (lN 0), .long (lN 2)]) (rest := []) (wr := [(m9, .inr (9, [.ref al, .ref hs, .int (nI hL), .ref ct, .int (nI tt), .int (nI hv), .int (nI lo), .int (nI hi), .int (nI wt), .ref bt, .int (nI bL), .ref cs, .ref gv, .int (nI gL), .int (nI tk), .int (nI vv), .ref rd, .int (nI rM), .ref tx, .int (nI tL), .int (nI pl)])), (al, .inl (cI, 44, .inl (fun j => nI ((allF g n e p b) j)))), (ct, .inl (cI, 9, .inl (fun j => nI (f j)))), (bt, .inl (cI, 1400, .inl (fun j => nI (fb j)))), (cs, .inl (cI, 40, .inl (fun j => nI (fc j)))), (gv, .inl (cI, 1400, .inl (fun j => nI (fg j)))), (rd, .inl (cI, 40, .inl (fun j => nI (frd j))))]) hC (c_X9_in l D cI cQ 0 0 2 (by omega) (by omega) (by omega)) mok_X9_in ml_X9_102 rfl rfl rfl (by decide) (by decide) (by decide) (Nat.le_of_ble_eq_true rfl) [] [0, 1, 2, 3, 4, 5, 6] rfl (by decide) rfl (by decide) (by decide) dX9_readBack_6 rfl (fun r9 u9 h6 => ?_)
  obtain ⟨u_1, rfl⟩ : ∃ z, z = u9 := ⟨_, rfl⟩
  obtain ⟨rfl, h6⟩ := h6
  have h6 : (u_1 = 1 ∧ 0 ≤ 0 ∧ 0 ≤ 2) ∨ (u_1 = 0 ∧ (0 < 0 ∨ 2 < 0)) := h6
  refine V_perm (ws2 := [(m9, .inr (9, [.ref al, .ref hs, .int (nI hL), .ref ct, .int (nI tt), .int (nI hv), .int (nI lo), .int (nI hi), .int (nI wt), .ref bt, .int (nI bL), .ref cs, .ref gv, .int (nI gL), .int (nI tk), .int (nI vv), .ref rd, .int (nI rM), .ref tx, .int (nI tL), .int (nI pl)])), (al, .inl (cI, 44, .inl (fun j => nI ((allF g n e p b) j)))), (ct, .inl (cI, 9, .inl (fun j => nI (f j)))), (bt, .inl (cI, 1400, .inl (fun j => nI (fb j)))), (cs, .inl (cI, 40, .inl (fun j => nI (fc j)))), (gv, .inl (cI, 1400, .inl (fun j => nI (fg j)))), (rd, .inl (cI, 40, .inl (fun j => nI (frd j))))]) [0, 1, 2, 3, 4, 5, 6] rfl (by decide) ?_
  refine V_if_ne (tgt := 14) hC (by omega) dX9_readBack_9 (by decide) (fun c9 => ?_) (fun c9 => ?_)
  · refine V_aload_n hC dX9_readBack_14 rfl 0 rfl ?_
    refine V_aload_n hC dX9_readBack_15 rfl 0 rfl ?_
    refine V_calliV (As := []) (rest := [.ref m9]) (wr := [(gv, .inl (cI, 1400, .inl (fun j => nI (fg j)))), (rd, .inl (cI, 40, .inl (fun j => nI (frd j))))]) hC (c_X9_bitsNow l D cI cQ m9 al hs hL ct tt hv lo hi wt bt bL cs gv gL tk vv rd rM tx tL pl n e p b g f fb fc (by omega) (hg) (by omega) (by omega) (by omega)) mok_X9_bitsNow ml_X9_109 (q1 := 0) rfl cls_X9 rfl rfl rfl (by decide) (by decide) (by decide) (Nat.le_of_ble_eq_true rfl) [0, 1, 2, 3, 4] [5, 6] rfl (by decide) rfl (by decide) (by decide) dX9_readBack_16 rfl (fun r9 u9 h16 => ?_)
    obtain ⟨fb2_2, fc2_3⟩ := u9
    obtain ⟨rfl, h16⟩ := h16
    have h16 : rep fb2_2 (sB (cM p b g n e)) ∧ ∀ j, j < n → fc2_3 j = cost p b g j := h16
    refine V_perm (ws2 := [(m9, .inr (9, [.ref al, .ref hs, .int (nI hL), .ref ct, .int (nI (sT (cM p b g n e))), .int (nI (sH (cM p b g n e))), .int (nI (sL (cM p b g n e))), .int (nI (sU (cM p b g n e))), .int (nI (sW (cM p b g n e))), .ref bt, .int (nI ((sB (cM p b g n e)).length)), .ref cs, .ref gv, .int (nI gL), .int (nI tk), .int (nI vv), .ref rd, .int (nI rM), .ref tx, .int (nI tL), .int (nI pl)])), (al, .inl (cI, 44, .inl (fun j => nI ((allF g n e p b) j)))), (ct, .inl (cI, 9, .inl (fun j => nI ((sF (cM p b g n e)) j)))), (bt, .inl (cI, 1400, .inl (fun j => nI (fb2_2 j)))), (cs, .inl (cI, 40, .inl (fun j => nI (fc2_3 j)))), (gv, .inl (cI, 1400, .inl (fun j => nI (fg j)))), (rd, .inl (cI, 40, .inl (fun j => nI (frd j))))]) [2, 3, 4, 5, 6, 0, 1] rfl (by decide) ?_
    refine V_put (ci := 9) (v := .int (nI ((sB (cM p b g n e)).length))) hC tyX9 tyX9_ok nmX9 in_X9 0 rfl cls_X9 13 (by decide) fl_X9_148 rfl rfl rfl (Nat.le_of_ble_eq_true rfl) dX9_readBack_19 (ws2 := [(m9, .inr (9, [.ref al, .ref hs, .int (nI hL), .ref ct, .int (nI (sT (cM p b g n e))), .int (nI (sH (cM p b g n e))), .int (nI (sL (cM p b g n e))), .int (nI (sU (cM p b g n e))), .int (nI (sW (cM p b g n e))), .ref bt, .int (nI ((sB (cM p b g n e)).length)), .ref cs, .ref gv, .int (nI ((sB (cM p b g n e)).length)), .int (nI tk), .int (nI vv), .ref rd, .int (nI rM), .ref tx, .int (nI tL), .int (nI pl)])), (al, .inl (cI, 44, .inl (fun j => nI ((allF g n e p b) j)))), (ct, .inl (cI, 9, .inl (fun j => nI ((sF (cM p b g n e)) j)))), (bt, .inl (cI, 1400, .inl (fun j => nI (fb2_2 j)))), (cs, .inl (cI, 40, .inl (fun j => nI (fc2_3 j)))), (gv, .inl (cI, 1400, .inl (fun j => nI (fg j)))), (rd, .inl (cI, 40, .inl (fun j => nI (frd j))))]) rfl ?_
    refine V_iconst (v := nI 0) hC dX9_readBack_22 (by decide) ?_
    refine V_istore_n (lv2 := [(0, .ref m9), (1, .int (nI 0)), (2, .int (nI 0))]) hC dX9_readBack_23 rfl (by decide) [1, 2, 0] rfl ?_
    have L24 : ∀ (n9 : Nat) (i : Nat) (fg2 : Nat → Nat), (i ≤ (sB (cM p b g n e)).length) → (∀ j, j < i → fg2 j = (sB (cM p b g n e)).getD j 0) → (sB (cM p b g n e)).length - i < n9 → V pp9 l ee9 rm_X9_readBack_0 ss9 mm9 args9 below9 meth9 co9 D A9 ss9.heap 4 Q9 [(m9, .inr (9, [.ref al, .ref hs, .int (nI hL), .ref ct, .int (nI (sT (cM p b g n e))), .int (nI (sH (cM p b g n e))), .int (nI (sL (cM p b g n e))), .int (nI (sU (cM p b g n e))), .int (nI (sW (cM p b g n e))), .ref bt, .int (nI ((sB (cM p b g n e)).length)), .ref cs, .ref gv, .int (nI ((sB (cM p b g n e)).length)), .int (nI tk), .int (nI vv), .ref rd, .int (nI rM), .ref tx, .int (nI tL), .int (nI pl)])), (al, .inl (cI, 44, .inl (fun j => nI ((allF g n e p b) j)))), (ct, .inl (cI, 9, .inl (fun j => nI ((sF (cM p b g n e)) j)))), (bt, .inl (cI, 1400, .inl (fun j => nI (fb2_2 j)))), (cs, .inl (cI, 40, .inl (fun j => nI (fc2_3 j)))), (gv, .inl (cI, 1400, .inl (fun j => nI (fg2 j)))), (rd, .inl (cI, 40, .inl (fun j => nI (frd j))))] [(0, .ref m9), (1, .int (nI 0)), (2, .int (nI i))] 0 0 24 [] := by
      intro n9
      induction n9 with
      | zero => intro i fg2 h1 h2 h9; exact absurd h9 (Nat.not_lt_zero _)
      | succ n9 ih24 =>
        intro i fg2 h1 h2 h9
        refine V_iload_n hC dX9_readBack_24 rfl 2 rfl ?_
        refine V_aload_n hC dX9_readBack_25 rfl 0 rfl ?_
        refine V_get (ci := 9) (v := .int (nI ((sB (cM p b g n e)).length))) hC in_X9 0 rfl cls_X9 13 (by decide) fl_X9_148 rfl dX9_readBack_26 ?_
        refine V_icmp_ge (tgt := 50) hC (by omega) (by omega) dX9_readBack_29 (by decide) (fun c29 => ?_) (fun c29 => ?_)
        · have ei9 : i = (sB (cM p b g n e)).length := by omega
          have hbr : rep fg2 (sB (cM p b g n e)) := fun j hj => h2 j (by omega)
          refine V_aload_n hC dX9_readBack_50 rfl 0 rfl ?_
          refine V_calliV (As := []) (rest := []) (wr := [(bt, .inl (cI, 1400, .inl (fun j => nI (fb2_2 j)))), (cs, .inl (cI, 40, .inl (fun j => nI (fc2_3 j))))]) hC (c_X9_reads l D cI cQ m9 al hs hL ct (sT (cM p b g n e)) (sH (cM p b g n e)) (sL (cM p b g n e)) (sU (cM p b g n e)) (sW (cM p b g n e)) bt ((sB (cM p b g n e)).length) cs gv ((sB (cM p b g n e)).length) tk vv rd rM tx tL pl n e p b g (sF (cM p b g n e)) fg2 (βl (sB (cM p b g n e))) frd (by omega) (rep_β hbr) (β2 (cM_bits p b g n e)) (hp) (hb)) mok_X9_reads ml_X9_162 (q1 := 0) rfl cls_X9 rfl rfl rfl (by decide) (by decide) (by decide) (Nat.le_of_ble_eq_true rfl) [0, 1, 2, 5, 6] [3, 4] rfl (by decide) rfl (by decide) (by decide) dX9_readBack_51 rfl (fun r9 u9 h51 => ?_)
          obtain ⟨frd2_4, rfl⟩ : ∃ z, z = u9 := ⟨_, rfl⟩
          obtain ⟨rfl, h51⟩ := h51
          have h51 : rep frd2_4 (qR (rdF p b (βl (sB (cM p b g n e)))).2) := h51
          refine V_perm (ws2 := [(m9, .inr (9, [.ref al, .ref hs, .int (nI hL), .ref ct, .int (nI (qT ((rdF p b (βl (sB (cM p b g n e)))).2))), .int (nI (qH ((rdF p b (βl (sB (cM p b g n e)))).2))), .int (nI (qL ((rdF p b (βl (sB (cM p b g n e)))).2))), .int (nI (qU ((rdF p b (βl (sB (cM p b g n e)))).2))), .int (nI ((sW (cM p b g n e)))), .ref bt, .int (nI (((sB (cM p b g n e)).length))), .ref cs, .ref gv, .int (nI (((sB (cM p b g n e)).length))), .int (nI (qK ((rdF p b (βl (sB (cM p b g n e)))).2))), .int (nI (qV ((rdF p b (βl (sB (cM p b g n e)))).2))), .ref rd, .int (nI ((qR ((rdF p b (βl (sB (cM p b g n e)))).2)).length)), .ref tx, .int (nI tL), .int (nI pl)])), (al, .inl (cI, 44, .inl (fun j => nI ((allF g n e p b) j)))), (ct, .inl (cI, 9, .inl (fun j => nI ((qF ((rdF p b (βl (sB (cM p b g n e)))).2)) j)))), (bt, .inl (cI, 1400, .inl (fun j => nI (fb2_2 j)))), (cs, .inl (cI, 40, .inl (fun j => nI (fc2_3 j)))), (gv, .inl (cI, 1400, .inl (fun j => nI (fg2 j)))), (rd, .inl (cI, 40, .inl (fun j => nI (frd2_4 j))))]) [2, 3, 4, 0, 1, 5, 6] rfl (by decide) ?_
          have hok := rdd_ok (β2 (cM_bits p b g n e)) hp hb 41 (rd0 (βl (sB (cM p b g n e)))) (okR_0 (β2 (cM_bits p b g n e)))
          have hov : (rdF p b (βl (sB (cM p b g n e)))).1 < 2 := hok.2
          have hqr : (qR (rdF p b (βl (sB (cM p b g n e)))).2).length ≤ 40 := hok.1.2.2.2.2.2.2
          have hq9 := rdd_lt (β2 (cM_bits p b g n e)) hp hb 41 (rd0 (βl (sB (cM p b g n e)))) (okR_0 (β2 (cM_bits p b g n e))) (fun x hx => absurd hx List.not_mem_nil)
          refine V_istore_n (lv2 := [(0, .ref m9), (1, .int (nI 0)), (2, .int (nI ((rdF p b (βl (sB (cM p b g n e)))).1)))]) hC dX9_readBack_54 rfl (by decide) [1, 2, 0] rfl ?_
          refine V_iconst (v := nI 0) hC dX9_readBack_55 (by decide) ?_
          refine V_istore_n (lv2 := [(0, .ref m9), (1, .int (nI 0)), (2, .int (nI ((rdF p b (βl (sB (cM p b g n e)))).1))), (3, .int (nI 0))]) hC dX9_readBack_56 rfl (by decide) [1, 2, 3, 0] rfl ?_
          have L57 : ∀ (n9 : Nat) (i : Nat), (i ≤ min (qR (rdF p b (βl (sB (cM p b g n e)))).2).length n) → (alA (βl (qR (rdF p b (βl (sB (cM p b g n e)))).2)) g (min (qR (rdF p b (βl (sB (cM p b g n e)))).2).length n - i) i = alk (βl (qR (rdF p b (βl (sB (cM p b g n e)))).2)) g (min (qR (rdF p b (βl (sB (cM p b g n e)))).2).length n)) → min (qR (rdF p b (βl (sB (cM p b g n e)))).2).length n - i < n9 → V pp9 l ee9 rm_X9_readBack_0 ss9 mm9 args9 below9 meth9 co9 D A9 ss9.heap 4 Q9 [(m9, .inr (9, [.ref al, .ref hs, .int (nI hL), .ref ct, .int (nI (qT (rdF p b (βl (sB (cM p b g n e)))).2)), .int (nI (qH (rdF p b (βl (sB (cM p b g n e)))).2)), .int (nI (qL (rdF p b (βl (sB (cM p b g n e)))).2)), .int (nI (qU (rdF p b (βl (sB (cM p b g n e)))).2)), .int (nI (sW (cM p b g n e))), .ref bt, .int (nI ((sB (cM p b g n e)).length)), .ref cs, .ref gv, .int (nI ((sB (cM p b g n e)).length)), .int (nI (qK (rdF p b (βl (sB (cM p b g n e)))).2)), .int (nI (qV (rdF p b (βl (sB (cM p b g n e)))).2)), .ref rd, .int (nI ((qR (rdF p b (βl (sB (cM p b g n e)))).2).length)), .ref tx, .int (nI tL), .int (nI pl)])), (al, .inl (cI, 44, .inl (fun j => nI ((allF g n e p b) j)))), (ct, .inl (cI, 9, .inl (fun j => nI ((qF (rdF p b (βl (sB (cM p b g n e)))).2) j)))), (bt, .inl (cI, 1400, .inl (fun j => nI (fb2_2 j)))), (cs, .inl (cI, 40, .inl (fun j => nI (fc2_3 j)))), (gv, .inl (cI, 1400, .inl (fun j => nI (fg2 j)))), (rd, .inl (cI, 40, .inl (fun j => nI (frd2_4 j))))] [(0, .ref m9), (1, .int (nI 0)), (2, .int (nI ((rdF p b (βl (sB (cM p b g n e)))).1))), (3, .int (nI i))] 0 0 57 [] := by
            intro n9
            induction n9 with
            | zero => intro i h6 h7 h9; exact absurd h9 (Nat.not_lt_zero _)
            | succ n9 ih57 =>
              intro i h6 h7 h9
              refine V_iload_n hC dX9_readBack_57 rfl 3 rfl ?_
              refine V_aload_n hC dX9_readBack_58 rfl 0 rfl ?_
              refine V_get (ci := 9) (v := .int (nI ((qR (rdF p b (βl (sB (cM p b g n e)))).2).length))) hC in_X9 0 rfl cls_X9 17 (by decide) fl_X9_151 rfl dX9_readBack_59 ?_
              refine V_icmp_ge (tgt := 98) hC (by omega) (by omega) dX9_readBack_62 (by decide) (fun c62 => ?_) (fun c62 => ?_)
              · refine V_iload_n hC dX9_readBack_98 rfl 1 rfl ?_
                refine V_if_ne_F (tgt := 109) hC dX9_readBack_99 (by decide) ((congrArg nI (show 0 = 0 by omega)).trans nI_0) ?_
                refine V_aload_n hC dX9_readBack_102 rfl 0 rfl ?_
                refine V_get (ci := 9) (v := .int (nI ((qR (rdF p b (βl (sB (cM p b g n e)))).2).length))) hC in_X9 0 rfl cls_X9 17 (by decide) fl_X9_151 rfl dX9_readBack_103 ?_
                refine V_goto (tgt := 127) hC dX9_readBack_106 (by decide) ?_
                subst hQ
                exact V_iret hC hr hlk rfl (by decide) (by decide) dX9_readBack_127 ((fb2_2, fc2_3, fg2, frd2_4)) [0, 1, 2, 3, 4, 5, 6] rfl (by decide) (⟨rfl, trivial⟩)
              · refine V_iload_n hC dX9_readBack_65 rfl 3 rfl ?_
                refine V_aload_n hC dX9_readBack_66 rfl 0 rfl ?_
                refine V_get (ci := 9) (v := .ref al) hC in_X9 0 rfl cls_X9 0 (by decide) fl_X9_7 rfl dX9_readBack_67 ?_
                refine V_iconst (v := nI 2) hC dX9_readBack_70 (by decide) ?_
                refine V_iald hC 1 0 rfl rfl (by omega) (by decide) dX9_readBack_71 ?_
                refine V_st (st2 := [.int (nI n), .int (nI i)]) (by rw [show ((allF g n e p b) 2) = (n) from rfl]) ?_
                refine V_icmp_ge (tgt := 98) hC (by omega) (by omega) dX9_readBack_72 (by decide) (fun c72 => ?_) (fun c72 => ?_)
                · refine V_iload_n hC dX9_readBack_98 rfl 1 rfl ?_
                  refine V_if_ne_F (tgt := 109) hC dX9_readBack_99 (by decide) ((congrArg nI (show 0 = 0 by omega)).trans nI_0) ?_
                  refine V_aload_n hC dX9_readBack_102 rfl 0 rfl ?_
                  refine V_get (ci := 9) (v := .int (nI ((qR (rdF p b (βl (sB (cM p b g n e)))).2).length))) hC in_X9 0 rfl cls_X9 17 (by decide) fl_X9_151 rfl dX9_readBack_103 ?_
                  refine V_goto (tgt := 127) hC dX9_readBack_106 (by decide) ?_
                  subst hQ
                  exact V_iret hC hr hlk rfl (by decide) (by decide) dX9_readBack_127 ((fb2_2, fc2_3, fg2, frd2_4)) [0, 1, 2, 3, 4, 5, 6] rfl (by decide) (⟨rfl, trivial⟩)
                · refine V_aload_n hC dX9_readBack_75 rfl 0 rfl ?_
                  refine V_get (ci := 9) (v := .ref rd) hC in_X9 0 rfl cls_X9 16 (by decide) fl_X9_28 rfl dX9_readBack_76 ?_
                  refine V_iload_n hC dX9_readBack_79 rfl 3 rfl ?_
                  refine V_iald hC 6 0 rfl rfl (by omega) (by decide) dX9_readBack_80 ?_
                  refine V_aload_n hC dX9_readBack_81 rfl 0 rfl ?_
                  refine V_get (ci := 9) (v := .ref al) hC in_X9 0 rfl cls_X9 0 (by decide) fl_X9_7 rfl dX9_readBack_82 ?_
                  refine V_iconst (v := nI 4) hC dX9_readBack_85 (by decide) ?_
                  refine V_iload_n hC dX9_readBack_86 rfl 3 rfl ?_
                  refine V_iadd hC dX9_readBack_87 ?_
                  refine V_iald hC 1 0 rfl rfl (by omega) (by decide) dX9_readBack_88 ?_
                  refine V_st (st2 := [.int (nI (g i)), .int (nI (frd2_4 i))]) (by rw [show ((allF g n e p b) (4 + i)) = (g i) from allF_4 _ _ _ _ _ _]) ?_
                  have hf1 : frd2_4 i = βl (qR (rdF p b (βl (sB (cM p b g n e)))).2) i := h51 i (by omega)
                  have hf2 := getD_lt hq9 (by decide : 0 < 9) i
                  have hgi := hg i (by omega)
                  refine V_st (st2 := [.int (nI (g i)), .int (nI (βl (qR (rdF p b (βl (sB (cM p b g n e)))).2) i))]) (by rw [hf1]) ?_
                  have hf3 : βl (qR (rdF p b (βl (sB (cM p b g n e)))).2) i < 9 := hf2
                  refine V_icmp_ne (tgt := 98) hC (by omega) (by omega) dX9_readBack_89 (by decide) (fun c89 => ?_) (fun c89 => ?_)
                  · refine V_iload_n hC dX9_readBack_98 rfl 1 rfl ?_
                    refine V_if_ne_F (tgt := 109) hC dX9_readBack_99 (by decide) ((congrArg nI (show 0 = 0 by omega)).trans nI_0) ?_
                    refine V_aload_n hC dX9_readBack_102 rfl 0 rfl ?_
                    refine V_get (ci := 9) (v := .int (nI ((qR (rdF p b (βl (sB (cM p b g n e)))).2).length))) hC in_X9 0 rfl cls_X9 17 (by decide) fl_X9_151 rfl dX9_readBack_103 ?_
                    refine V_goto (tgt := 127) hC dX9_readBack_106 (by decide) ?_
                    subst hQ
                    exact V_iret hC hr hlk rfl (by decide) (by decide) dX9_readBack_127 ((fb2_2, fc2_3, fg2, frd2_4)) [0, 1, 2, 3, 4, 5, 6] rfl (by decide) (⟨rfl, trivial⟩)
                  · refine V_iinc (v := (nI (i + 1))) (lv2 := [(0, .ref m9), (1, .int (nI 0)), (2, .int (nI ((rdF p b (βl (sB (cM p b g n e)))).1))), (3, .int (nI (i + 1)))]) (q := 3) hC dX9_readBack_92 rfl (nI_add _ _) (by decide) [1, 2, 3, 0] rfl ?_
                    refine V_goto (tgt := 57) hC dX9_readBack_95 (by decide) ?_
                    exact ih57 (i + 1) (by omega) (by rw [← h7, show min (qR (rdF p b (βl (sB (cM p b g n e)))).2).length n - i = (min (qR (rdF p b (βl (sB (cM p b g n e)))).2).length n - (i + 1)) + 1 by omega, alA, if_pos c89]) (by omega)
          exact L57 _ 0 (by omega) (rfl) (Nat.lt_succ_self _)
        · refine V_aload_n hC dX9_readBack_32 rfl 0 rfl ?_
          refine V_get (ci := 9) (v := .ref gv) hC in_X9 0 rfl cls_X9 12 (by decide) fl_X9_25 rfl dX9_readBack_33 ?_
          refine V_iload_n hC dX9_readBack_36 rfl 2 rfl ?_
          refine V_aload_n hC dX9_readBack_37 rfl 0 rfl ?_
          refine V_get (ci := 9) (v := .ref bt) hC in_X9 0 rfl cls_X9 9 (by decide) fl_X9_19 rfl dX9_readBack_38 ?_
          refine V_iload_n hC dX9_readBack_41 rfl 2 rfl ?_
          refine V_iald hC 3 0 rfl rfl (by omega) (by decide) dX9_readBack_42 ?_
          refine V_iast hC 5 0 rfl rfl (by omega) (by decide) dX9_readBack_43 (ws2 := [(m9, .inr (9, [.ref al, .ref hs, .int (nI hL), .ref ct, .int (nI (sT (cM p b g n e))), .int (nI (sH (cM p b g n e))), .int (nI (sL (cM p b g n e))), .int (nI (sU (cM p b g n e))), .int (nI (sW (cM p b g n e))), .ref bt, .int (nI ((sB (cM p b g n e)).length)), .ref cs, .ref gv, .int (nI ((sB (cM p b g n e)).length)), .int (nI tk), .int (nI vv), .ref rd, .int (nI rM), .ref tx, .int (nI tL), .int (nI pl)])), (al, .inl (cI, 44, .inl (fun j => nI ((allF g n e p b) j)))), (ct, .inl (cI, 9, .inl (fun j => nI ((sF (cM p b g n e)) j)))), (bt, .inl (cI, 1400, .inl (fun j => nI (fb2_2 j)))), (cs, .inl (cI, 40, .inl (fun j => nI (fc2_3 j)))), (gv, .inl (cI, 1400, .inl (fun j => nI ((va_up fg2 i (fb2_2 i)) j)))), (rd, .inl (cI, 40, .inl (fun j => nI (frd j))))]) rfl ?_
          refine V_iinc (v := (nI (i + 1))) (lv2 := [(0, .ref m9), (1, .int (nI 0)), (2, .int (nI (i + 1)))]) (q := 2) hC dX9_readBack_44 rfl (nI_add _ _) (by decide) [1, 2, 0] rfl ?_
          refine V_goto (tgt := 24) hC dX9_readBack_47 (by decide) ?_
          exact ih24 (i + 1) (va_up fg2 i (fb2_2 i)) (by omega) (lt_s (fun j hj => by rw [va_up_ne fg2 _ (show j ≠ i by omega)]; exact h2 j hj) (by rw [va_up_self]; exact h16.1 i (by omega))) (by omega)
    exact L24 _ 0 fg (by omega) (fun j hj => absurd hj (Nat.not_lt_zero j)) (Nat.lt_succ_self _)
  · exact False.elim (by omega)
abbrev rm_X9_readBack_1 : Room := { frames := 7, cells := 0, slots := 0, locals := 152 }
set_option maxHeartbeats 4000000 in
set_option maxRecDepth 100000 in
theorem c_X9_readBack_1 (l : Launch) (D : va_G) (cI cQ : ClassId) (m9 al hs hL ct tt hv lo hi wt bt bL cs gv gL tk vv rd rM tx tL pl n e p b : Nat) (g f fb fc fg frd : Nat → Nat) (hn : n ≤ 40) (hg : ∀ j, j < n → g j < 8) (he : e < 2) (hp : p ≤ 64) (hb : b ≤ 2000) : MI l yX9_readBack cX9_readBack 4 (some .int) rm_X9_readBack_1 D (TY cI cQ) [.ref m9, .int (nI 1)] [(m9, .inr (9, [.ref al, .ref hs, .int (nI hL), .ref ct, .int (nI tt), .int (nI hv), .int (nI lo), .int (nI hi), .int (nI wt), .ref bt, .int (nI bL), .ref cs, .ref gv, .int (nI gL), .int (nI tk), .int (nI vv), .ref rd, .int (nI rM), .ref tx, .int (nI tL), .int (nI pl)])), (al, .inl (cI, 44, .inl (fun j => nI ((allF g n e p b) j)))), (ct, .inl (cI, 9, .inl (fun j => nI (f j)))), (bt, .inl (cI, 1400, .inl (fun j => nI (fb j)))), (cs, .inl (cI, 40, .inl (fun j => nI (fc j)))), (gv, .inl (cI, 1400, .inl (fun j => nI (fg j)))), (rd, .inl (cI, 40, .inl (fun j => nI (frd j))))] (fun (r9 : Int32) (u : (Nat → Nat) × (Nat → Nat) × (Nat → Nat) × (Nat → Nat)) => r9 = (nI ((rdF p b (βl (sB (cM p b g n e)))).1)) ∧ (True)) (fun (u : (Nat → Nat) × (Nat → Nat) × (Nat → Nat) × (Nat → Nat)) => [(m9, .inr (9, [.ref al, .ref hs, .int (nI hL), .ref ct, .int (nI (qT (rdF p b (βl (sB (cM p b g n e)))).2)), .int (nI (qH (rdF p b (βl (sB (cM p b g n e)))).2)), .int (nI (qL (rdF p b (βl (sB (cM p b g n e)))).2)), .int (nI (qU (rdF p b (βl (sB (cM p b g n e)))).2)), .int (nI (sW (cM p b g n e))), .ref bt, .int (nI ((sB (cM p b g n e)).length)), .ref cs, .ref gv, .int (nI ((sB (cM p b g n e)).length)), .int (nI (qK (rdF p b (βl (sB (cM p b g n e)))).2)), .int (nI (qV (rdF p b (βl (sB (cM p b g n e)))).2)), .ref rd, .int (nI ((qR (rdF p b (βl (sB (cM p b g n e)))).2).length)), .ref tx, .int (nI tL), .int (nI pl)])), (al, .inl (cI, 44, .inl (fun j => nI ((allF g n e p b) j)))), (ct, .inl (cI, 9, .inl (fun j => nI ((qF (rdF p b (βl (sB (cM p b g n e)))).2) j)))), (bt, .inl (cI, 1400, .inl (fun j => nI (u.1 j)))), (cs, .inl (cI, 40, .inl (fun j => nI (u.2.1 j)))), (gv, .inl (cI, 1400, .inl (fun j => nI (u.2.2.1 j)))), (rd, .inl (cI, 40, .inl (fun j => nI (u.2.2.2 j))))]) 0 0 := by
  refine MI.start (by decide) (Nat.le_of_ble_eq_true rfl) (lv0 := [(0, .ref m9), (1, .int (nI 1))]) rfl ?_
  intro pp9 ee9 ss9 mm9 args9 below9 meth9 co9 A9 Q9 hQ hC hr hlk hnm
  have hml := cM_len p b g (e := e) hn
  refine V_iload_n hC dX9_readBack_0 rfl 1 rfl ?_
  refine V_i2l (v := lN 1) hC dX9_readBack_1 (nI_l (by omega)) ?_
  refine V_lconst (v := lN 0) hC dX9_readBack_2 rfl ?_
  refine V_ldc2 (v2 := lN 2) hC dX9_readBack_3 cstl_X9_160 rfl ?_
  refine V_calliS (As := [.long (lN 1), .long (lN 0), .long (lN 2)]) (rest := []) (wr := [(m9, .inr (9, [.ref al, .ref hs, .int (nI hL), .ref ct, .int (nI tt), .int (nI hv), .int (nI lo), .int (nI hi), .int (nI wt), .ref bt, .int (nI bL), .ref cs, .ref gv, .int (nI gL), .int (nI tk), .int (nI vv), .ref rd, .int (nI rM), .ref tx, .int (nI tL), .int (nI pl)])), (al, .inl (cI, 44, .inl (fun j => nI ((allF g n e p b) j)))), (ct, .inl (cI, 9, .inl (fun j => nI (f j)))), (bt, .inl (cI, 1400, .inl (fun j => nI (fb j)))), (cs, .inl (cI, 40, .inl (fun j => nI (fc j)))), (gv, .inl (cI, 1400, .inl (fun j => nI (fg j)))), (rd, .inl (cI, 40, .inl (fun j => nI (frd j))))]) hC (c_X9_in l D cI cQ 1 0 2 (by omega) (by omega) (by omega)) mok_X9_in ml_X9_102 rfl rfl rfl (by decide) (by decide) (by decide) (Nat.le_of_ble_eq_true rfl) [] [0, 1, 2, 3, 4, 5, 6] rfl (by decide) rfl (by decide) (by decide) dX9_readBack_6 rfl (fun r9 u9 h6 => ?_)
  obtain ⟨u_1, rfl⟩ : ∃ z, z = u9 := ⟨_, rfl⟩
  obtain ⟨rfl, h6⟩ := h6
  have h6 : (u_1 = 1 ∧ 0 ≤ 1 ∧ 1 ≤ 2) ∨ (u_1 = 0 ∧ (1 < 0 ∨ 2 < 1)) := h6
  refine V_perm (ws2 := [(m9, .inr (9, [.ref al, .ref hs, .int (nI hL), .ref ct, .int (nI tt), .int (nI hv), .int (nI lo), .int (nI hi), .int (nI wt), .ref bt, .int (nI bL), .ref cs, .ref gv, .int (nI gL), .int (nI tk), .int (nI vv), .ref rd, .int (nI rM), .ref tx, .int (nI tL), .int (nI pl)])), (al, .inl (cI, 44, .inl (fun j => nI ((allF g n e p b) j)))), (ct, .inl (cI, 9, .inl (fun j => nI (f j)))), (bt, .inl (cI, 1400, .inl (fun j => nI (fb j)))), (cs, .inl (cI, 40, .inl (fun j => nI (fc j)))), (gv, .inl (cI, 1400, .inl (fun j => nI (fg j)))), (rd, .inl (cI, 40, .inl (fun j => nI (frd j))))]) [0, 1, 2, 3, 4, 5, 6] rfl (by decide) ?_
  refine V_if_ne (tgt := 14) hC (by omega) dX9_readBack_9 (by decide) (fun c9 => ?_) (fun c9 => ?_)
  · refine V_aload_n hC dX9_readBack_14 rfl 0 rfl ?_
    refine V_aload_n hC dX9_readBack_15 rfl 0 rfl ?_
    refine V_calliV (As := []) (rest := [.ref m9]) (wr := [(gv, .inl (cI, 1400, .inl (fun j => nI (fg j)))), (rd, .inl (cI, 40, .inl (fun j => nI (frd j))))]) hC (c_X9_bitsNow l D cI cQ m9 al hs hL ct tt hv lo hi wt bt bL cs gv gL tk vv rd rM tx tL pl n e p b g f fb fc (by omega) (hg) (by omega) (by omega) (by omega)) mok_X9_bitsNow ml_X9_109 (q1 := 0) rfl cls_X9 rfl rfl rfl (by decide) (by decide) (by decide) (Nat.le_of_ble_eq_true rfl) [0, 1, 2, 3, 4] [5, 6] rfl (by decide) rfl (by decide) (by decide) dX9_readBack_16 rfl (fun r9 u9 h16 => ?_)
    obtain ⟨fb2_2, fc2_3⟩ := u9
    obtain ⟨rfl, h16⟩ := h16
    have h16 : rep fb2_2 (sB (cM p b g n e)) ∧ ∀ j, j < n → fc2_3 j = cost p b g j := h16
    refine V_perm (ws2 := [(m9, .inr (9, [.ref al, .ref hs, .int (nI hL), .ref ct, .int (nI (sT (cM p b g n e))), .int (nI (sH (cM p b g n e))), .int (nI (sL (cM p b g n e))), .int (nI (sU (cM p b g n e))), .int (nI (sW (cM p b g n e))), .ref bt, .int (nI ((sB (cM p b g n e)).length)), .ref cs, .ref gv, .int (nI gL), .int (nI tk), .int (nI vv), .ref rd, .int (nI rM), .ref tx, .int (nI tL), .int (nI pl)])), (al, .inl (cI, 44, .inl (fun j => nI ((allF g n e p b) j)))), (ct, .inl (cI, 9, .inl (fun j => nI ((sF (cM p b g n e)) j)))), (bt, .inl (cI, 1400, .inl (fun j => nI (fb2_2 j)))), (cs, .inl (cI, 40, .inl (fun j => nI (fc2_3 j)))), (gv, .inl (cI, 1400, .inl (fun j => nI (fg j)))), (rd, .inl (cI, 40, .inl (fun j => nI (frd j))))]) [2, 3, 4, 5, 6, 0, 1] rfl (by decide) ?_
    refine V_put (ci := 9) (v := .int (nI ((sB (cM p b g n e)).length))) hC tyX9 tyX9_ok nmX9 in_X9 0 rfl cls_X9 13 (by decide) fl_X9_148 rfl rfl rfl (Nat.le_of_ble_eq_true rfl) dX9_readBack_19 (ws2 := [(m9, .inr (9, [.ref al, .ref hs, .int (nI hL), .ref ct, .int (nI (sT (cM p b g n e))), .int (nI (sH (cM p b g n e))), .int (nI (sL (cM p b g n e))), .int (nI (sU (cM p b g n e))), .int (nI (sW (cM p b g n e))), .ref bt, .int (nI ((sB (cM p b g n e)).length)), .ref cs, .ref gv, .int (nI ((sB (cM p b g n e)).length)), .int (nI tk), .int (nI vv), .ref rd, .int (nI rM), .ref tx, .int (nI tL), .int (nI pl)])), (al, .inl (cI, 44, .inl (fun j => nI ((allF g n e p b) j)))), (ct, .inl (cI, 9, .inl (fun j => nI ((sF (cM p b g n e)) j)))), (bt, .inl (cI, 1400, .inl (fun j => nI (fb2_2 j)))), (cs, .inl (cI, 40, .inl (fun j => nI (fc2_3 j)))), (gv, .inl (cI, 1400, .inl (fun j => nI (fg j)))), (rd, .inl (cI, 40, .inl (fun j => nI (frd j))))]) rfl ?_
    refine V_iconst (v := nI 0) hC dX9_readBack_22 (by decide) ?_
    refine V_istore_n (lv2 := [(0, .ref m9), (1, .int (nI 1)), (2, .int (nI 0))]) hC dX9_readBack_23 rfl (by decide) [1, 2, 0] rfl ?_
    have L24 : ∀ (n9 : Nat) (i : Nat) (fg2 : Nat → Nat), (i ≤ (sB (cM p b g n e)).length) → (∀ j, j < i → fg2 j = (sB (cM p b g n e)).getD j 0) → (sB (cM p b g n e)).length - i < n9 → V pp9 l ee9 rm_X9_readBack_1 ss9 mm9 args9 below9 meth9 co9 D A9 ss9.heap 4 Q9 [(m9, .inr (9, [.ref al, .ref hs, .int (nI hL), .ref ct, .int (nI (sT (cM p b g n e))), .int (nI (sH (cM p b g n e))), .int (nI (sL (cM p b g n e))), .int (nI (sU (cM p b g n e))), .int (nI (sW (cM p b g n e))), .ref bt, .int (nI ((sB (cM p b g n e)).length)), .ref cs, .ref gv, .int (nI ((sB (cM p b g n e)).length)), .int (nI tk), .int (nI vv), .ref rd, .int (nI rM), .ref tx, .int (nI tL), .int (nI pl)])), (al, .inl (cI, 44, .inl (fun j => nI ((allF g n e p b) j)))), (ct, .inl (cI, 9, .inl (fun j => nI ((sF (cM p b g n e)) j)))), (bt, .inl (cI, 1400, .inl (fun j => nI (fb2_2 j)))), (cs, .inl (cI, 40, .inl (fun j => nI (fc2_3 j)))), (gv, .inl (cI, 1400, .inl (fun j => nI (fg2 j)))), (rd, .inl (cI, 40, .inl (fun j => nI (frd j))))] [(0, .ref m9), (1, .int (nI 1)), (2, .int (nI i))] 0 0 24 [] := by
      intro n9
      induction n9 with
      | zero => intro i fg2 h1 h2 h9; exact absurd h9 (Nat.not_lt_zero _)
      | succ n9 ih24 =>
        intro i fg2 h1 h2 h9
        refine V_iload_n hC dX9_readBack_24 rfl 2 rfl ?_
        refine V_aload_n hC dX9_readBack_25 rfl 0 rfl ?_
        refine V_get (ci := 9) (v := .int (nI ((sB (cM p b g n e)).length))) hC in_X9 0 rfl cls_X9 13 (by decide) fl_X9_148 rfl dX9_readBack_26 ?_
        refine V_icmp_ge (tgt := 50) hC (by omega) (by omega) dX9_readBack_29 (by decide) (fun c29 => ?_) (fun c29 => ?_)
        · have ei9 : i = (sB (cM p b g n e)).length := by omega
          have hbr : rep fg2 (sB (cM p b g n e)) := fun j hj => h2 j (by omega)
          refine V_aload_n hC dX9_readBack_50 rfl 0 rfl ?_
          refine V_calliV (As := []) (rest := []) (wr := [(bt, .inl (cI, 1400, .inl (fun j => nI (fb2_2 j)))), (cs, .inl (cI, 40, .inl (fun j => nI (fc2_3 j))))]) hC (c_X9_reads l D cI cQ m9 al hs hL ct (sT (cM p b g n e)) (sH (cM p b g n e)) (sL (cM p b g n e)) (sU (cM p b g n e)) (sW (cM p b g n e)) bt ((sB (cM p b g n e)).length) cs gv ((sB (cM p b g n e)).length) tk vv rd rM tx tL pl n e p b g (sF (cM p b g n e)) fg2 (βl (sB (cM p b g n e))) frd (by omega) (rep_β hbr) (β2 (cM_bits p b g n e)) (hp) (hb)) mok_X9_reads ml_X9_162 (q1 := 0) rfl cls_X9 rfl rfl rfl (by decide) (by decide) (by decide) (Nat.le_of_ble_eq_true rfl) [0, 1, 2, 5, 6] [3, 4] rfl (by decide) rfl (by decide) (by decide) dX9_readBack_51 rfl (fun r9 u9 h51 => ?_)
          obtain ⟨frd2_4, rfl⟩ : ∃ z, z = u9 := ⟨_, rfl⟩
          obtain ⟨rfl, h51⟩ := h51
          have h51 : rep frd2_4 (qR (rdF p b (βl (sB (cM p b g n e)))).2) := h51
          refine V_perm (ws2 := [(m9, .inr (9, [.ref al, .ref hs, .int (nI hL), .ref ct, .int (nI (qT ((rdF p b (βl (sB (cM p b g n e)))).2))), .int (nI (qH ((rdF p b (βl (sB (cM p b g n e)))).2))), .int (nI (qL ((rdF p b (βl (sB (cM p b g n e)))).2))), .int (nI (qU ((rdF p b (βl (sB (cM p b g n e)))).2))), .int (nI ((sW (cM p b g n e)))), .ref bt, .int (nI (((sB (cM p b g n e)).length))), .ref cs, .ref gv, .int (nI (((sB (cM p b g n e)).length))), .int (nI (qK ((rdF p b (βl (sB (cM p b g n e)))).2))), .int (nI (qV ((rdF p b (βl (sB (cM p b g n e)))).2))), .ref rd, .int (nI ((qR ((rdF p b (βl (sB (cM p b g n e)))).2)).length)), .ref tx, .int (nI tL), .int (nI pl)])), (al, .inl (cI, 44, .inl (fun j => nI ((allF g n e p b) j)))), (ct, .inl (cI, 9, .inl (fun j => nI ((qF ((rdF p b (βl (sB (cM p b g n e)))).2)) j)))), (bt, .inl (cI, 1400, .inl (fun j => nI (fb2_2 j)))), (cs, .inl (cI, 40, .inl (fun j => nI (fc2_3 j)))), (gv, .inl (cI, 1400, .inl (fun j => nI (fg2 j)))), (rd, .inl (cI, 40, .inl (fun j => nI (frd2_4 j))))]) [2, 3, 4, 0, 1, 5, 6] rfl (by decide) ?_
          have hok := rdd_ok (β2 (cM_bits p b g n e)) hp hb 41 (rd0 (βl (sB (cM p b g n e)))) (okR_0 (β2 (cM_bits p b g n e)))
          have hov : (rdF p b (βl (sB (cM p b g n e)))).1 < 2 := hok.2
          have hqr : (qR (rdF p b (βl (sB (cM p b g n e)))).2).length ≤ 40 := hok.1.2.2.2.2.2.2
          have hq9 := rdd_lt (β2 (cM_bits p b g n e)) hp hb 41 (rd0 (βl (sB (cM p b g n e)))) (okR_0 (β2 (cM_bits p b g n e))) (fun x hx => absurd hx List.not_mem_nil)
          refine V_istore_n (lv2 := [(0, .ref m9), (1, .int (nI 1)), (2, .int (nI ((rdF p b (βl (sB (cM p b g n e)))).1)))]) hC dX9_readBack_54 rfl (by decide) [1, 2, 0] rfl ?_
          refine V_iconst (v := nI 0) hC dX9_readBack_55 (by decide) ?_
          refine V_istore_n (lv2 := [(0, .ref m9), (1, .int (nI 1)), (2, .int (nI ((rdF p b (βl (sB (cM p b g n e)))).1))), (3, .int (nI 0))]) hC dX9_readBack_56 rfl (by decide) [1, 2, 3, 0] rfl ?_
          have L57 : ∀ (n9 : Nat) (i : Nat), (i ≤ min (qR (rdF p b (βl (sB (cM p b g n e)))).2).length n) → (alA (βl (qR (rdF p b (βl (sB (cM p b g n e)))).2)) g (min (qR (rdF p b (βl (sB (cM p b g n e)))).2).length n - i) i = alk (βl (qR (rdF p b (βl (sB (cM p b g n e)))).2)) g (min (qR (rdF p b (βl (sB (cM p b g n e)))).2).length n)) → min (qR (rdF p b (βl (sB (cM p b g n e)))).2).length n - i < n9 → V pp9 l ee9 rm_X9_readBack_1 ss9 mm9 args9 below9 meth9 co9 D A9 ss9.heap 4 Q9 [(m9, .inr (9, [.ref al, .ref hs, .int (nI hL), .ref ct, .int (nI (qT (rdF p b (βl (sB (cM p b g n e)))).2)), .int (nI (qH (rdF p b (βl (sB (cM p b g n e)))).2)), .int (nI (qL (rdF p b (βl (sB (cM p b g n e)))).2)), .int (nI (qU (rdF p b (βl (sB (cM p b g n e)))).2)), .int (nI (sW (cM p b g n e))), .ref bt, .int (nI ((sB (cM p b g n e)).length)), .ref cs, .ref gv, .int (nI ((sB (cM p b g n e)).length)), .int (nI (qK (rdF p b (βl (sB (cM p b g n e)))).2)), .int (nI (qV (rdF p b (βl (sB (cM p b g n e)))).2)), .ref rd, .int (nI ((qR (rdF p b (βl (sB (cM p b g n e)))).2).length)), .ref tx, .int (nI tL), .int (nI pl)])), (al, .inl (cI, 44, .inl (fun j => nI ((allF g n e p b) j)))), (ct, .inl (cI, 9, .inl (fun j => nI ((qF (rdF p b (βl (sB (cM p b g n e)))).2) j)))), (bt, .inl (cI, 1400, .inl (fun j => nI (fb2_2 j)))), (cs, .inl (cI, 40, .inl (fun j => nI (fc2_3 j)))), (gv, .inl (cI, 1400, .inl (fun j => nI (fg2 j)))), (rd, .inl (cI, 40, .inl (fun j => nI (frd2_4 j))))] [(0, .ref m9), (1, .int (nI 1)), (2, .int (nI ((rdF p b (βl (sB (cM p b g n e)))).1))), (3, .int (nI i))] 0 0 57 [] := by
            intro n9
            induction n9 with
            | zero => intro i h6 h7 h9; exact absurd h9 (Nat.not_lt_zero _)
            | succ n9 ih57 =>
              intro i h6 h7 h9
              refine V_iload_n hC dX9_readBack_57 rfl 3 rfl ?_
              refine V_aload_n hC dX9_readBack_58 rfl 0 rfl ?_
              refine V_get (ci := 9) (v := .int (nI ((qR (rdF p b (βl (sB (cM p b g n e)))).2).length))) hC in_X9 0 rfl cls_X9 17 (by decide) fl_X9_151 rfl dX9_readBack_59 ?_
              refine V_icmp_ge (tgt := 98) hC (by omega) (by omega) dX9_readBack_62 (by decide) (fun c62 => ?_) (fun c62 => ?_)
              · refine V_iload_n hC dX9_readBack_98 rfl 1 rfl ?_
                refine V_if_ne_T (tgt := 109) hC dX9_readBack_99 (by decide) (nI_ne0 (by omega) (by omega)) ?_
                refine V_iload_n hC dX9_readBack_109 rfl 1 rfl ?_
                refine V_iconst (v := nI 1) hC dX9_readBack_110 (by decide) ?_
                refine V_icmp_ne_F (tgt := 126) hC dX9_readBack_111 (by decide) (congrArg nI (show 1 = 1 by omega)) ?_
                refine V_iload_n hC dX9_readBack_114 rfl 2 rfl ?_
                refine V_if_eq (tgt := 122) hC (by omega) dX9_readBack_115 (by decide) (fun c115 => ?_) (fun c115 => ?_)
                · refine V_iconst (v := nI 0) hC dX9_readBack_122 (by decide) ?_
                  refine V_goto (tgt := 127) hC dX9_readBack_123 (by decide) ?_
                  refine V_st (st2 := [.int (nI ((rdF p b (βl (sB (cM p b g n e)))).1))]) (by rw [show (0) = ((rdF p b (βl (sB (cM p b g n e)))).1) from (by omega)]) ?_
                  subst hQ
                  exact V_iret hC hr hlk rfl (by decide) (by decide) dX9_readBack_127 ((fb2_2, fc2_3, fg2, frd2_4)) [0, 1, 2, 3, 4, 5, 6] rfl (by decide) (⟨rfl, trivial⟩)
                · refine V_iconst (v := nI 1) hC dX9_readBack_118 (by decide) ?_
                  refine V_goto (tgt := 127) hC dX9_readBack_119 (by decide) ?_
                  refine V_st (st2 := [.int (nI ((rdF p b (βl (sB (cM p b g n e)))).1))]) (by rw [show (1) = ((rdF p b (βl (sB (cM p b g n e)))).1) from (by omega)]) ?_
                  subst hQ
                  exact V_iret hC hr hlk rfl (by decide) (by decide) dX9_readBack_127 ((fb2_2, fc2_3, fg2, frd2_4)) [0, 1, 2, 3, 4, 5, 6] rfl (by decide) (⟨rfl, trivial⟩)
              · refine V_iload_n hC dX9_readBack_65 rfl 3 rfl ?_
                refine V_aload_n hC dX9_readBack_66 rfl 0 rfl ?_
                refine V_get (ci := 9) (v := .ref al) hC in_X9 0 rfl cls_X9 0 (by decide) fl_X9_7 rfl dX9_readBack_67 ?_
                refine V_iconst (v := nI 2) hC dX9_readBack_70 (by decide) ?_
                refine V_iald hC 1 0 rfl rfl (by omega) (by decide) dX9_readBack_71 ?_
                refine V_st (st2 := [.int (nI n), .int (nI i)]) (by rw [show ((allF g n e p b) 2) = (n) from rfl]) ?_
                refine V_icmp_ge (tgt := 98) hC (by omega) (by omega) dX9_readBack_72 (by decide) (fun c72 => ?_) (fun c72 => ?_)
                · refine V_iload_n hC dX9_readBack_98 rfl 1 rfl ?_
                  refine V_if_ne_T (tgt := 109) hC dX9_readBack_99 (by decide) (nI_ne0 (by omega) (by omega)) ?_
                  refine V_iload_n hC dX9_readBack_109 rfl 1 rfl ?_
                  refine V_iconst (v := nI 1) hC dX9_readBack_110 (by decide) ?_
                  refine V_icmp_ne_F (tgt := 126) hC dX9_readBack_111 (by decide) (congrArg nI (show 1 = 1 by omega)) ?_
                  refine V_iload_n hC dX9_readBack_114 rfl 2 rfl ?_
                  refine V_if_eq (tgt := 122) hC (by omega) dX9_readBack_115 (by decide) (fun c115 => ?_) (fun c115 => ?_)
                  · refine V_iconst (v := nI 0) hC dX9_readBack_122 (by decide) ?_
                    refine V_goto (tgt := 127) hC dX9_readBack_123 (by decide) ?_
                    refine V_st (st2 := [.int (nI ((rdF p b (βl (sB (cM p b g n e)))).1))]) (by rw [show (0) = ((rdF p b (βl (sB (cM p b g n e)))).1) from (by omega)]) ?_
                    subst hQ
                    exact V_iret hC hr hlk rfl (by decide) (by decide) dX9_readBack_127 ((fb2_2, fc2_3, fg2, frd2_4)) [0, 1, 2, 3, 4, 5, 6] rfl (by decide) (⟨rfl, trivial⟩)
                  · refine V_iconst (v := nI 1) hC dX9_readBack_118 (by decide) ?_
                    refine V_goto (tgt := 127) hC dX9_readBack_119 (by decide) ?_
                    refine V_st (st2 := [.int (nI ((rdF p b (βl (sB (cM p b g n e)))).1))]) (by rw [show (1) = ((rdF p b (βl (sB (cM p b g n e)))).1) from (by omega)]) ?_
                    subst hQ
                    exact V_iret hC hr hlk rfl (by decide) (by decide) dX9_readBack_127 ((fb2_2, fc2_3, fg2, frd2_4)) [0, 1, 2, 3, 4, 5, 6] rfl (by decide) (⟨rfl, trivial⟩)
                · refine V_aload_n hC dX9_readBack_75 rfl 0 rfl ?_
                  refine V_get (ci := 9) (v := .ref rd) hC in_X9 0 rfl cls_X9 16 (by decide) fl_X9_28 rfl dX9_readBack_76 ?_
                  refine V_iload_n hC dX9_readBack_79 rfl 3 rfl ?_
                  refine V_iald hC 6 0 rfl rfl (by omega) (by decide) dX9_readBack_80 ?_
                  refine V_aload_n hC dX9_readBack_81 rfl 0 rfl ?_
                  refine V_get (ci := 9) (v := .ref al) hC in_X9 0 rfl cls_X9 0 (by decide) fl_X9_7 rfl dX9_readBack_82 ?_
                  refine V_iconst (v := nI 4) hC dX9_readBack_85 (by decide) ?_
                  refine V_iload_n hC dX9_readBack_86 rfl 3 rfl ?_
                  refine V_iadd hC dX9_readBack_87 ?_
                  refine V_iald hC 1 0 rfl rfl (by omega) (by decide) dX9_readBack_88 ?_
                  refine V_st (st2 := [.int (nI (g i)), .int (nI (frd2_4 i))]) (by rw [show ((allF g n e p b) (4 + i)) = (g i) from allF_4 _ _ _ _ _ _]) ?_
                  have hf1 : frd2_4 i = βl (qR (rdF p b (βl (sB (cM p b g n e)))).2) i := h51 i (by omega)
                  have hf2 := getD_lt hq9 (by decide : 0 < 9) i
                  have hgi := hg i (by omega)
                  refine V_st (st2 := [.int (nI (g i)), .int (nI (βl (qR (rdF p b (βl (sB (cM p b g n e)))).2) i))]) (by rw [hf1]) ?_
                  have hf3 : βl (qR (rdF p b (βl (sB (cM p b g n e)))).2) i < 9 := hf2
                  refine V_icmp_ne (tgt := 98) hC (by omega) (by omega) dX9_readBack_89 (by decide) (fun c89 => ?_) (fun c89 => ?_)
                  · refine V_iload_n hC dX9_readBack_98 rfl 1 rfl ?_
                    refine V_if_ne_T (tgt := 109) hC dX9_readBack_99 (by decide) (nI_ne0 (by omega) (by omega)) ?_
                    refine V_iload_n hC dX9_readBack_109 rfl 1 rfl ?_
                    refine V_iconst (v := nI 1) hC dX9_readBack_110 (by decide) ?_
                    refine V_icmp_ne_F (tgt := 126) hC dX9_readBack_111 (by decide) (congrArg nI (show 1 = 1 by omega)) ?_
                    refine V_iload_n hC dX9_readBack_114 rfl 2 rfl ?_
                    refine V_if_eq (tgt := 122) hC (by omega) dX9_readBack_115 (by decide) (fun c115 => ?_) (fun c115 => ?_)
                    · refine V_iconst (v := nI 0) hC dX9_readBack_122 (by decide) ?_
                      refine V_goto (tgt := 127) hC dX9_readBack_123 (by decide) ?_
                      refine V_st (st2 := [.int (nI ((rdF p b (βl (sB (cM p b g n e)))).1))]) (by rw [show (0) = ((rdF p b (βl (sB (cM p b g n e)))).1) from (by omega)]) ?_
                      subst hQ
                      exact V_iret hC hr hlk rfl (by decide) (by decide) dX9_readBack_127 ((fb2_2, fc2_3, fg2, frd2_4)) [0, 1, 2, 3, 4, 5, 6] rfl (by decide) (⟨rfl, trivial⟩)
                    · refine V_iconst (v := nI 1) hC dX9_readBack_118 (by decide) ?_
                      refine V_goto (tgt := 127) hC dX9_readBack_119 (by decide) ?_
                      refine V_st (st2 := [.int (nI ((rdF p b (βl (sB (cM p b g n e)))).1))]) (by rw [show (1) = ((rdF p b (βl (sB (cM p b g n e)))).1) from (by omega)]) ?_
                      subst hQ
                      exact V_iret hC hr hlk rfl (by decide) (by decide) dX9_readBack_127 ((fb2_2, fc2_3, fg2, frd2_4)) [0, 1, 2, 3, 4, 5, 6] rfl (by decide) (⟨rfl, trivial⟩)
                  · refine V_iinc (v := (nI (i + 1))) (lv2 := [(0, .ref m9), (1, .int (nI 1)), (2, .int (nI ((rdF p b (βl (sB (cM p b g n e)))).1))), (3, .int (nI (i + 1)))]) (q := 3) hC dX9_readBack_92 rfl (nI_add _ _) (by decide) [1, 2, 3, 0] rfl ?_
                    refine V_goto (tgt := 57) hC dX9_readBack_95 (by decide) ?_
                    exact ih57 (i + 1) (by omega) (by rw [← h7, show min (qR (rdF p b (βl (sB (cM p b g n e)))).2).length n - i = (min (qR (rdF p b (βl (sB (cM p b g n e)))).2).length n - (i + 1)) + 1 by omega, alA, if_pos c89]) (by omega)
          exact L57 _ 0 (by omega) (rfl) (Nat.lt_succ_self _)
        · refine V_aload_n hC dX9_readBack_32 rfl 0 rfl ?_
          refine V_get (ci := 9) (v := .ref gv) hC in_X9 0 rfl cls_X9 12 (by decide) fl_X9_25 rfl dX9_readBack_33 ?_
          refine V_iload_n hC dX9_readBack_36 rfl 2 rfl ?_
          refine V_aload_n hC dX9_readBack_37 rfl 0 rfl ?_
          refine V_get (ci := 9) (v := .ref bt) hC in_X9 0 rfl cls_X9 9 (by decide) fl_X9_19 rfl dX9_readBack_38 ?_
          refine V_iload_n hC dX9_readBack_41 rfl 2 rfl ?_
          refine V_iald hC 3 0 rfl rfl (by omega) (by decide) dX9_readBack_42 ?_
          refine V_iast hC 5 0 rfl rfl (by omega) (by decide) dX9_readBack_43 (ws2 := [(m9, .inr (9, [.ref al, .ref hs, .int (nI hL), .ref ct, .int (nI (sT (cM p b g n e))), .int (nI (sH (cM p b g n e))), .int (nI (sL (cM p b g n e))), .int (nI (sU (cM p b g n e))), .int (nI (sW (cM p b g n e))), .ref bt, .int (nI ((sB (cM p b g n e)).length)), .ref cs, .ref gv, .int (nI ((sB (cM p b g n e)).length)), .int (nI tk), .int (nI vv), .ref rd, .int (nI rM), .ref tx, .int (nI tL), .int (nI pl)])), (al, .inl (cI, 44, .inl (fun j => nI ((allF g n e p b) j)))), (ct, .inl (cI, 9, .inl (fun j => nI ((sF (cM p b g n e)) j)))), (bt, .inl (cI, 1400, .inl (fun j => nI (fb2_2 j)))), (cs, .inl (cI, 40, .inl (fun j => nI (fc2_3 j)))), (gv, .inl (cI, 1400, .inl (fun j => nI ((va_up fg2 i (fb2_2 i)) j)))), (rd, .inl (cI, 40, .inl (fun j => nI (frd j))))]) rfl ?_
          refine V_iinc (v := (nI (i + 1))) (lv2 := [(0, .ref m9), (1, .int (nI 1)), (2, .int (nI (i + 1)))]) (q := 2) hC dX9_readBack_44 rfl (nI_add _ _) (by decide) [1, 2, 0] rfl ?_
          refine V_goto (tgt := 24) hC dX9_readBack_47 (by decide) ?_
          exact ih24 (i + 1) (va_up fg2 i (fb2_2 i)) (by omega) (lt_s (fun j hj => by rw [va_up_ne fg2 _ (show j ≠ i by omega)]; exact h2 j hj) (by rw [va_up_self]; exact h16.1 i (by omega))) (by omega)
    exact L24 _ 0 fg (by omega) (fun j hj => absurd hj (Nat.not_lt_zero j)) (Nat.lt_succ_self _)
  · exact False.elim (by omega)
abbrev rm_X9_readBack_2 : Room := { frames := 7, cells := 0, slots := 0, locals := 152 }
set_option maxHeartbeats 4000000 in
set_option maxRecDepth 100000 in
theorem c_X9_readBack_2 (l : Launch) (D : va_G) (cI cQ : ClassId) (m9 al hs hL ct tt hv lo hi wt bt bL cs gv gL tk vv rd rM tx tL pl n e p b : Nat) (g f fb fc fg frd : Nat → Nat) (hn : n ≤ 40) (hg : ∀ j, j < n → g j < 8) (he : e < 2) (hp : p ≤ 64) (hb : b ≤ 2000) : MI l yX9_readBack cX9_readBack 4 (some .int) rm_X9_readBack_2 D (TY cI cQ) [.ref m9, .int (nI 2)] [(m9, .inr (9, [.ref al, .ref hs, .int (nI hL), .ref ct, .int (nI tt), .int (nI hv), .int (nI lo), .int (nI hi), .int (nI wt), .ref bt, .int (nI bL), .ref cs, .ref gv, .int (nI gL), .int (nI tk), .int (nI vv), .ref rd, .int (nI rM), .ref tx, .int (nI tL), .int (nI pl)])), (al, .inl (cI, 44, .inl (fun j => nI ((allF g n e p b) j)))), (ct, .inl (cI, 9, .inl (fun j => nI (f j)))), (bt, .inl (cI, 1400, .inl (fun j => nI (fb j)))), (cs, .inl (cI, 40, .inl (fun j => nI (fc j)))), (gv, .inl (cI, 1400, .inl (fun j => nI (fg j)))), (rd, .inl (cI, 40, .inl (fun j => nI (frd j))))] (fun (r9 : Int32) (u : (Nat → Nat) × (Nat → Nat) × (Nat → Nat) × (Nat → Nat)) => r9 = (nI (alk (βl (qR (rdF p b (βl (sB (cM p b g n e)))).2)) g (min (qR (rdF p b (βl (sB (cM p b g n e)))).2).length n))) ∧ (True)) (fun (u : (Nat → Nat) × (Nat → Nat) × (Nat → Nat) × (Nat → Nat)) => [(m9, .inr (9, [.ref al, .ref hs, .int (nI hL), .ref ct, .int (nI (qT (rdF p b (βl (sB (cM p b g n e)))).2)), .int (nI (qH (rdF p b (βl (sB (cM p b g n e)))).2)), .int (nI (qL (rdF p b (βl (sB (cM p b g n e)))).2)), .int (nI (qU (rdF p b (βl (sB (cM p b g n e)))).2)), .int (nI (sW (cM p b g n e))), .ref bt, .int (nI ((sB (cM p b g n e)).length)), .ref cs, .ref gv, .int (nI ((sB (cM p b g n e)).length)), .int (nI (qK (rdF p b (βl (sB (cM p b g n e)))).2)), .int (nI (qV (rdF p b (βl (sB (cM p b g n e)))).2)), .ref rd, .int (nI ((qR (rdF p b (βl (sB (cM p b g n e)))).2).length)), .ref tx, .int (nI tL), .int (nI pl)])), (al, .inl (cI, 44, .inl (fun j => nI ((allF g n e p b) j)))), (ct, .inl (cI, 9, .inl (fun j => nI ((qF (rdF p b (βl (sB (cM p b g n e)))).2) j)))), (bt, .inl (cI, 1400, .inl (fun j => nI (u.1 j)))), (cs, .inl (cI, 40, .inl (fun j => nI (u.2.1 j)))), (gv, .inl (cI, 1400, .inl (fun j => nI (u.2.2.1 j)))), (rd, .inl (cI, 40, .inl (fun j => nI (u.2.2.2 j))))]) 0 0 := by
  refine MI.start (by decide) (Nat.le_of_ble_eq_true rfl) (lv0 := [(0, .ref m9), (1, .int (nI 2))]) rfl ?_
  intro pp9 ee9 ss9 mm9 args9 below9 meth9 co9 A9 Q9 hQ hC hr hlk hnm
  have hml := cM_len p b g (e := e) hn
  refine V_iload_n hC dX9_readBack_0 rfl 1 rfl ?_
  refine V_i2l (v := lN 2) hC dX9_readBack_1 (nI_l (by omega)) ?_
  refine V_lconst (v := lN 0) hC dX9_readBack_2 rfl ?_
  refine V_ldc2 (v2 := lN 2) hC dX9_readBack_3 cstl_X9_160 rfl ?_
  refine V_calliS (As := [.long (lN 2), .long (lN 0), .long (lN 2)]) (rest := []) (wr := [(m9, .inr (9, [.ref al, .ref hs, .int (nI hL), .ref ct, .int (nI tt), .int (nI hv), .int (nI lo), .int (nI hi), .int (nI wt), .ref bt, .int (nI bL), .ref cs, .ref gv, .int (nI gL), .int (nI tk), .int (nI vv), .ref rd, .int (nI rM), .ref tx, .int (nI tL), .int (nI pl)])), (al, .inl (cI, 44, .inl (fun j => nI ((allF g n e p b) j)))), (ct, .inl (cI, 9, .inl (fun j => nI (f j)))), (bt, .inl (cI, 1400, .inl (fun j => nI (fb j)))), (cs, .inl (cI, 40, .inl (fun j => nI (fc j)))), (gv, .inl (cI, 1400, .inl (fun j => nI (fg j)))), (rd, .inl (cI, 40, .inl (fun j => nI (frd j))))]) hC (c_X9_in l D cI cQ 2 0 2 (by omega) (by omega) (by omega)) mok_X9_in ml_X9_102 rfl rfl rfl (by decide) (by decide) (by decide) (Nat.le_of_ble_eq_true rfl) [] [0, 1, 2, 3, 4, 5, 6] rfl (by decide) rfl (by decide) (by decide) dX9_readBack_6 rfl (fun r9 u9 h6 => ?_)
  obtain ⟨u_1, rfl⟩ : ∃ z, z = u9 := ⟨_, rfl⟩
  obtain ⟨rfl, h6⟩ := h6
  have h6 : (u_1 = 1 ∧ 0 ≤ 2 ∧ 2 ≤ 2) ∨ (u_1 = 0 ∧ (2 < 0 ∨ 2 < 2)) := h6
  refine V_perm (ws2 := [(m9, .inr (9, [.ref al, .ref hs, .int (nI hL), .ref ct, .int (nI tt), .int (nI hv), .int (nI lo), .int (nI hi), .int (nI wt), .ref bt, .int (nI bL), .ref cs, .ref gv, .int (nI gL), .int (nI tk), .int (nI vv), .ref rd, .int (nI rM), .ref tx, .int (nI tL), .int (nI pl)])), (al, .inl (cI, 44, .inl (fun j => nI ((allF g n e p b) j)))), (ct, .inl (cI, 9, .inl (fun j => nI (f j)))), (bt, .inl (cI, 1400, .inl (fun j => nI (fb j)))), (cs, .inl (cI, 40, .inl (fun j => nI (fc j)))), (gv, .inl (cI, 1400, .inl (fun j => nI (fg j)))), (rd, .inl (cI, 40, .inl (fun j => nI (frd j))))]) [0, 1, 2, 3, 4, 5, 6] rfl (by decide) ?_
  refine V_if_ne (tgt := 14) hC (by omega) dX9_readBack_9 (by decide) (fun c9 => ?_) (fun c9 => ?_)
  · refine V_aload_n hC dX9_readBack_14 rfl 0 rfl ?_
    refine V_aload_n hC dX9_readBack_15 rfl 0 rfl ?_
    refine V_calliV (As := []) (rest := [.ref m9]) (wr := [(gv, .inl (cI, 1400, .inl (fun j => nI (fg j)))), (rd, .inl (cI, 40, .inl (fun j => nI (frd j))))]) hC (c_X9_bitsNow l D cI cQ m9 al hs hL ct tt hv lo hi wt bt bL cs gv gL tk vv rd rM tx tL pl n e p b g f fb fc (by omega) (hg) (by omega) (by omega) (by omega)) mok_X9_bitsNow ml_X9_109 (q1 := 0) rfl cls_X9 rfl rfl rfl (by decide) (by decide) (by decide) (Nat.le_of_ble_eq_true rfl) [0, 1, 2, 3, 4] [5, 6] rfl (by decide) rfl (by decide) (by decide) dX9_readBack_16 rfl (fun r9 u9 h16 => ?_)
    obtain ⟨fb2_2, fc2_3⟩ := u9
    obtain ⟨rfl, h16⟩ := h16
    have h16 : rep fb2_2 (sB (cM p b g n e)) ∧ ∀ j, j < n → fc2_3 j = cost p b g j := h16
    refine V_perm (ws2 := [(m9, .inr (9, [.ref al, .ref hs, .int (nI hL), .ref ct, .int (nI (sT (cM p b g n e))), .int (nI (sH (cM p b g n e))), .int (nI (sL (cM p b g n e))), .int (nI (sU (cM p b g n e))), .int (nI (sW (cM p b g n e))), .ref bt, .int (nI ((sB (cM p b g n e)).length)), .ref cs, .ref gv, .int (nI gL), .int (nI tk), .int (nI vv), .ref rd, .int (nI rM), .ref tx, .int (nI tL), .int (nI pl)])), (al, .inl (cI, 44, .inl (fun j => nI ((allF g n e p b) j)))), (ct, .inl (cI, 9, .inl (fun j => nI ((sF (cM p b g n e)) j)))), (bt, .inl (cI, 1400, .inl (fun j => nI (fb2_2 j)))), (cs, .inl (cI, 40, .inl (fun j => nI (fc2_3 j)))), (gv, .inl (cI, 1400, .inl (fun j => nI (fg j)))), (rd, .inl (cI, 40, .inl (fun j => nI (frd j))))]) [2, 3, 4, 5, 6, 0, 1] rfl (by decide) ?_
    refine V_put (ci := 9) (v := .int (nI ((sB (cM p b g n e)).length))) hC tyX9 tyX9_ok nmX9 in_X9 0 rfl cls_X9 13 (by decide) fl_X9_148 rfl rfl rfl (Nat.le_of_ble_eq_true rfl) dX9_readBack_19 (ws2 := [(m9, .inr (9, [.ref al, .ref hs, .int (nI hL), .ref ct, .int (nI (sT (cM p b g n e))), .int (nI (sH (cM p b g n e))), .int (nI (sL (cM p b g n e))), .int (nI (sU (cM p b g n e))), .int (nI (sW (cM p b g n e))), .ref bt, .int (nI ((sB (cM p b g n e)).length)), .ref cs, .ref gv, .int (nI ((sB (cM p b g n e)).length)), .int (nI tk), .int (nI vv), .ref rd, .int (nI rM), .ref tx, .int (nI tL), .int (nI pl)])), (al, .inl (cI, 44, .inl (fun j => nI ((allF g n e p b) j)))), (ct, .inl (cI, 9, .inl (fun j => nI ((sF (cM p b g n e)) j)))), (bt, .inl (cI, 1400, .inl (fun j => nI (fb2_2 j)))), (cs, .inl (cI, 40, .inl (fun j => nI (fc2_3 j)))), (gv, .inl (cI, 1400, .inl (fun j => nI (fg j)))), (rd, .inl (cI, 40, .inl (fun j => nI (frd j))))]) rfl ?_
    refine V_iconst (v := nI 0) hC dX9_readBack_22 (by decide) ?_
    refine V_istore_n (lv2 := [(0, .ref m9), (1, .int (nI 2)), (2, .int (nI 0))]) hC dX9_readBack_23 rfl (by decide) [1, 2, 0] rfl ?_
    have L24 : ∀ (n9 : Nat) (i : Nat) (fg2 : Nat → Nat), (i ≤ (sB (cM p b g n e)).length) → (∀ j, j < i → fg2 j = (sB (cM p b g n e)).getD j 0) → (sB (cM p b g n e)).length - i < n9 → V pp9 l ee9 rm_X9_readBack_2 ss9 mm9 args9 below9 meth9 co9 D A9 ss9.heap 4 Q9 [(m9, .inr (9, [.ref al, .ref hs, .int (nI hL), .ref ct, .int (nI (sT (cM p b g n e))), .int (nI (sH (cM p b g n e))), .int (nI (sL (cM p b g n e))), .int (nI (sU (cM p b g n e))), .int (nI (sW (cM p b g n e))), .ref bt, .int (nI ((sB (cM p b g n e)).length)), .ref cs, .ref gv, .int (nI ((sB (cM p b g n e)).length)), .int (nI tk), .int (nI vv), .ref rd, .int (nI rM), .ref tx, .int (nI tL), .int (nI pl)])), (al, .inl (cI, 44, .inl (fun j => nI ((allF g n e p b) j)))), (ct, .inl (cI, 9, .inl (fun j => nI ((sF (cM p b g n e)) j)))), (bt, .inl (cI, 1400, .inl (fun j => nI (fb2_2 j)))), (cs, .inl (cI, 40, .inl (fun j => nI (fc2_3 j)))), (gv, .inl (cI, 1400, .inl (fun j => nI (fg2 j)))), (rd, .inl (cI, 40, .inl (fun j => nI (frd j))))] [(0, .ref m9), (1, .int (nI 2)), (2, .int (nI i))] 0 0 24 [] := by
      intro n9
      induction n9 with
      | zero => intro i fg2 h1 h2 h9; exact absurd h9 (Nat.not_lt_zero _)
      | succ n9 ih24 =>
        intro i fg2 h1 h2 h9
        refine V_iload_n hC dX9_readBack_24 rfl 2 rfl ?_
        refine V_aload_n hC dX9_readBack_25 rfl 0 rfl ?_
        refine V_get (ci := 9) (v := .int (nI ((sB (cM p b g n e)).length))) hC in_X9 0 rfl cls_X9 13 (by decide) fl_X9_148 rfl dX9_readBack_26 ?_
        refine V_icmp_ge (tgt := 50) hC (by omega) (by omega) dX9_readBack_29 (by decide) (fun c29 => ?_) (fun c29 => ?_)
        · have ei9 : i = (sB (cM p b g n e)).length := by omega
          have hbr : rep fg2 (sB (cM p b g n e)) := fun j hj => h2 j (by omega)
          refine V_aload_n hC dX9_readBack_50 rfl 0 rfl ?_
          refine V_calliV (As := []) (rest := []) (wr := [(bt, .inl (cI, 1400, .inl (fun j => nI (fb2_2 j)))), (cs, .inl (cI, 40, .inl (fun j => nI (fc2_3 j))))]) hC (c_X9_reads l D cI cQ m9 al hs hL ct (sT (cM p b g n e)) (sH (cM p b g n e)) (sL (cM p b g n e)) (sU (cM p b g n e)) (sW (cM p b g n e)) bt ((sB (cM p b g n e)).length) cs gv ((sB (cM p b g n e)).length) tk vv rd rM tx tL pl n e p b g (sF (cM p b g n e)) fg2 (βl (sB (cM p b g n e))) frd (by omega) (rep_β hbr) (β2 (cM_bits p b g n e)) (hp) (hb)) mok_X9_reads ml_X9_162 (q1 := 0) rfl cls_X9 rfl rfl rfl (by decide) (by decide) (by decide) (Nat.le_of_ble_eq_true rfl) [0, 1, 2, 5, 6] [3, 4] rfl (by decide) rfl (by decide) (by decide) dX9_readBack_51 rfl (fun r9 u9 h51 => ?_)
          obtain ⟨frd2_4, rfl⟩ : ∃ z, z = u9 := ⟨_, rfl⟩
          obtain ⟨rfl, h51⟩ := h51
          have h51 : rep frd2_4 (qR (rdF p b (βl (sB (cM p b g n e)))).2) := h51
          refine V_perm (ws2 := [(m9, .inr (9, [.ref al, .ref hs, .int (nI hL), .ref ct, .int (nI (qT ((rdF p b (βl (sB (cM p b g n e)))).2))), .int (nI (qH ((rdF p b (βl (sB (cM p b g n e)))).2))), .int (nI (qL ((rdF p b (βl (sB (cM p b g n e)))).2))), .int (nI (qU ((rdF p b (βl (sB (cM p b g n e)))).2))), .int (nI ((sW (cM p b g n e)))), .ref bt, .int (nI (((sB (cM p b g n e)).length))), .ref cs, .ref gv, .int (nI (((sB (cM p b g n e)).length))), .int (nI (qK ((rdF p b (βl (sB (cM p b g n e)))).2))), .int (nI (qV ((rdF p b (βl (sB (cM p b g n e)))).2))), .ref rd, .int (nI ((qR ((rdF p b (βl (sB (cM p b g n e)))).2)).length)), .ref tx, .int (nI tL), .int (nI pl)])), (al, .inl (cI, 44, .inl (fun j => nI ((allF g n e p b) j)))), (ct, .inl (cI, 9, .inl (fun j => nI ((qF ((rdF p b (βl (sB (cM p b g n e)))).2)) j)))), (bt, .inl (cI, 1400, .inl (fun j => nI (fb2_2 j)))), (cs, .inl (cI, 40, .inl (fun j => nI (fc2_3 j)))), (gv, .inl (cI, 1400, .inl (fun j => nI (fg2 j)))), (rd, .inl (cI, 40, .inl (fun j => nI (frd2_4 j))))]) [2, 3, 4, 0, 1, 5, 6] rfl (by decide) ?_
          have hok := rdd_ok (β2 (cM_bits p b g n e)) hp hb 41 (rd0 (βl (sB (cM p b g n e)))) (okR_0 (β2 (cM_bits p b g n e)))
          have hov : (rdF p b (βl (sB (cM p b g n e)))).1 < 2 := hok.2
          have hqr : (qR (rdF p b (βl (sB (cM p b g n e)))).2).length ≤ 40 := hok.1.2.2.2.2.2.2
          have hq9 := rdd_lt (β2 (cM_bits p b g n e)) hp hb 41 (rd0 (βl (sB (cM p b g n e)))) (okR_0 (β2 (cM_bits p b g n e))) (fun x hx => absurd hx List.not_mem_nil)
          refine V_istore_n (lv2 := [(0, .ref m9), (1, .int (nI 2)), (2, .int (nI ((rdF p b (βl (sB (cM p b g n e)))).1)))]) hC dX9_readBack_54 rfl (by decide) [1, 2, 0] rfl ?_
          refine V_iconst (v := nI 0) hC dX9_readBack_55 (by decide) ?_
          refine V_istore_n (lv2 := [(0, .ref m9), (1, .int (nI 2)), (2, .int (nI ((rdF p b (βl (sB (cM p b g n e)))).1))), (3, .int (nI 0))]) hC dX9_readBack_56 rfl (by decide) [1, 2, 3, 0] rfl ?_
          have L57 : ∀ (n9 : Nat) (i : Nat), (i ≤ min (qR (rdF p b (βl (sB (cM p b g n e)))).2).length n) → (alA (βl (qR (rdF p b (βl (sB (cM p b g n e)))).2)) g (min (qR (rdF p b (βl (sB (cM p b g n e)))).2).length n - i) i = alk (βl (qR (rdF p b (βl (sB (cM p b g n e)))).2)) g (min (qR (rdF p b (βl (sB (cM p b g n e)))).2).length n)) → min (qR (rdF p b (βl (sB (cM p b g n e)))).2).length n - i < n9 → V pp9 l ee9 rm_X9_readBack_2 ss9 mm9 args9 below9 meth9 co9 D A9 ss9.heap 4 Q9 [(m9, .inr (9, [.ref al, .ref hs, .int (nI hL), .ref ct, .int (nI (qT (rdF p b (βl (sB (cM p b g n e)))).2)), .int (nI (qH (rdF p b (βl (sB (cM p b g n e)))).2)), .int (nI (qL (rdF p b (βl (sB (cM p b g n e)))).2)), .int (nI (qU (rdF p b (βl (sB (cM p b g n e)))).2)), .int (nI (sW (cM p b g n e))), .ref bt, .int (nI ((sB (cM p b g n e)).length)), .ref cs, .ref gv, .int (nI ((sB (cM p b g n e)).length)), .int (nI (qK (rdF p b (βl (sB (cM p b g n e)))).2)), .int (nI (qV (rdF p b (βl (sB (cM p b g n e)))).2)), .ref rd, .int (nI ((qR (rdF p b (βl (sB (cM p b g n e)))).2).length)), .ref tx, .int (nI tL), .int (nI pl)])), (al, .inl (cI, 44, .inl (fun j => nI ((allF g n e p b) j)))), (ct, .inl (cI, 9, .inl (fun j => nI ((qF (rdF p b (βl (sB (cM p b g n e)))).2) j)))), (bt, .inl (cI, 1400, .inl (fun j => nI (fb2_2 j)))), (cs, .inl (cI, 40, .inl (fun j => nI (fc2_3 j)))), (gv, .inl (cI, 1400, .inl (fun j => nI (fg2 j)))), (rd, .inl (cI, 40, .inl (fun j => nI (frd2_4 j))))] [(0, .ref m9), (1, .int (nI 2)), (2, .int (nI ((rdF p b (βl (sB (cM p b g n e)))).1))), (3, .int (nI i))] 0 0 57 [] := by
            intro n9
            induction n9 with
            | zero => intro i h6 h7 h9; exact absurd h9 (Nat.not_lt_zero _)
            | succ n9 ih57 =>
              intro i h6 h7 h9
              refine V_iload_n hC dX9_readBack_57 rfl 3 rfl ?_
              refine V_aload_n hC dX9_readBack_58 rfl 0 rfl ?_
              refine V_get (ci := 9) (v := .int (nI ((qR (rdF p b (βl (sB (cM p b g n e)))).2).length))) hC in_X9 0 rfl cls_X9 17 (by decide) fl_X9_151 rfl dX9_readBack_59 ?_
              refine V_icmp_ge (tgt := 98) hC (by omega) (by omega) dX9_readBack_62 (by decide) (fun c62 => ?_) (fun c62 => ?_)
              · refine V_iload_n hC dX9_readBack_98 rfl 1 rfl ?_
                refine V_if_ne_T (tgt := 109) hC dX9_readBack_99 (by decide) (nI_ne0 (by omega) (by omega)) ?_
                refine V_iload_n hC dX9_readBack_109 rfl 1 rfl ?_
                refine V_iconst (v := nI 1) hC dX9_readBack_110 (by decide) ?_
                refine V_icmp_ne_T (tgt := 126) hC dX9_readBack_111 (by decide) (fun z => absurd ((nI_eq (by omega) (by omega)).mp z) (show ¬ 2 = 1 by omega)) ?_
                refine V_iload_n hC dX9_readBack_126 rfl 3 rfl ?_
                refine V_st (st2 := [.int (nI (alk (βl (qR (rdF p b (βl (sB (cM p b g n e)))).2)) g (min (qR (rdF p b (βl (sB (cM p b g n e)))).2).length n)))]) (by rw [show (i) = (alk (βl (qR (rdF p b (βl (sB (cM p b g n e)))).2)) g (min (qR (rdF p b (βl (sB (cM p b g n e)))).2).length n)) from (by rw [← h7, show i = min (qR (rdF p b (βl (sB (cM p b g n e)))).2).length n by omega, Nat.sub_self, alA])]) ?_
                subst hQ
                exact V_iret hC hr hlk rfl (by decide) (by decide) dX9_readBack_127 ((fb2_2, fc2_3, fg2, frd2_4)) [0, 1, 2, 3, 4, 5, 6] rfl (by decide) (⟨rfl, trivial⟩)
              · refine V_iload_n hC dX9_readBack_65 rfl 3 rfl ?_
                refine V_aload_n hC dX9_readBack_66 rfl 0 rfl ?_
                refine V_get (ci := 9) (v := .ref al) hC in_X9 0 rfl cls_X9 0 (by decide) fl_X9_7 rfl dX9_readBack_67 ?_
                refine V_iconst (v := nI 2) hC dX9_readBack_70 (by decide) ?_
                refine V_iald hC 1 0 rfl rfl (by omega) (by decide) dX9_readBack_71 ?_
                refine V_st (st2 := [.int (nI n), .int (nI i)]) (by rw [show ((allF g n e p b) 2) = (n) from rfl]) ?_
                refine V_icmp_ge (tgt := 98) hC (by omega) (by omega) dX9_readBack_72 (by decide) (fun c72 => ?_) (fun c72 => ?_)
                · refine V_iload_n hC dX9_readBack_98 rfl 1 rfl ?_
                  refine V_if_ne_T (tgt := 109) hC dX9_readBack_99 (by decide) (nI_ne0 (by omega) (by omega)) ?_
                  refine V_iload_n hC dX9_readBack_109 rfl 1 rfl ?_
                  refine V_iconst (v := nI 1) hC dX9_readBack_110 (by decide) ?_
                  refine V_icmp_ne_T (tgt := 126) hC dX9_readBack_111 (by decide) (fun z => absurd ((nI_eq (by omega) (by omega)).mp z) (show ¬ 2 = 1 by omega)) ?_
                  refine V_iload_n hC dX9_readBack_126 rfl 3 rfl ?_
                  refine V_st (st2 := [.int (nI (alk (βl (qR (rdF p b (βl (sB (cM p b g n e)))).2)) g (min (qR (rdF p b (βl (sB (cM p b g n e)))).2).length n)))]) (by rw [show (i) = (alk (βl (qR (rdF p b (βl (sB (cM p b g n e)))).2)) g (min (qR (rdF p b (βl (sB (cM p b g n e)))).2).length n)) from (by rw [← h7, show i = min (qR (rdF p b (βl (sB (cM p b g n e)))).2).length n by omega, Nat.sub_self, alA])]) ?_
                  subst hQ
                  exact V_iret hC hr hlk rfl (by decide) (by decide) dX9_readBack_127 ((fb2_2, fc2_3, fg2, frd2_4)) [0, 1, 2, 3, 4, 5, 6] rfl (by decide) (⟨rfl, trivial⟩)
                · refine V_aload_n hC dX9_readBack_75 rfl 0 rfl ?_
                  refine V_get (ci := 9) (v := .ref rd) hC in_X9 0 rfl cls_X9 16 (by decide) fl_X9_28 rfl dX9_readBack_76 ?_
                  refine V_iload_n hC dX9_readBack_79 rfl 3 rfl ?_
                  refine V_iald hC 6 0 rfl rfl (by omega) (by decide) dX9_readBack_80 ?_
                  refine V_aload_n hC dX9_readBack_81 rfl 0 rfl ?_
                  refine V_get (ci := 9) (v := .ref al) hC in_X9 0 rfl cls_X9 0 (by decide) fl_X9_7 rfl dX9_readBack_82 ?_
                  refine V_iconst (v := nI 4) hC dX9_readBack_85 (by decide) ?_
                  refine V_iload_n hC dX9_readBack_86 rfl 3 rfl ?_
                  refine V_iadd hC dX9_readBack_87 ?_
                  refine V_iald hC 1 0 rfl rfl (by omega) (by decide) dX9_readBack_88 ?_
                  refine V_st (st2 := [.int (nI (g i)), .int (nI (frd2_4 i))]) (by rw [show ((allF g n e p b) (4 + i)) = (g i) from allF_4 _ _ _ _ _ _]) ?_
                  have hf1 : frd2_4 i = βl (qR (rdF p b (βl (sB (cM p b g n e)))).2) i := h51 i (by omega)
                  have hf2 := getD_lt hq9 (by decide : 0 < 9) i
                  have hgi := hg i (by omega)
                  refine V_st (st2 := [.int (nI (g i)), .int (nI (βl (qR (rdF p b (βl (sB (cM p b g n e)))).2) i))]) (by rw [hf1]) ?_
                  have hf3 : βl (qR (rdF p b (βl (sB (cM p b g n e)))).2) i < 9 := hf2
                  refine V_icmp_ne (tgt := 98) hC (by omega) (by omega) dX9_readBack_89 (by decide) (fun c89 => ?_) (fun c89 => ?_)
                  · refine V_iload_n hC dX9_readBack_98 rfl 1 rfl ?_
                    refine V_if_ne_T (tgt := 109) hC dX9_readBack_99 (by decide) (nI_ne0 (by omega) (by omega)) ?_
                    refine V_iload_n hC dX9_readBack_109 rfl 1 rfl ?_
                    refine V_iconst (v := nI 1) hC dX9_readBack_110 (by decide) ?_
                    refine V_icmp_ne_T (tgt := 126) hC dX9_readBack_111 (by decide) (fun z => absurd ((nI_eq (by omega) (by omega)).mp z) (show ¬ 2 = 1 by omega)) ?_
                    refine V_iload_n hC dX9_readBack_126 rfl 3 rfl ?_
                    refine V_st (st2 := [.int (nI (alk (βl (qR (rdF p b (βl (sB (cM p b g n e)))).2)) g (min (qR (rdF p b (βl (sB (cM p b g n e)))).2).length n)))]) (by rw [show (i) = (alk (βl (qR (rdF p b (βl (sB (cM p b g n e)))).2)) g (min (qR (rdF p b (βl (sB (cM p b g n e)))).2).length n)) from (by rw [← h7, show min (qR (rdF p b (βl (sB (cM p b g n e)))).2).length n - i = (min (qR (rdF p b (βl (sB (cM p b g n e)))).2).length n - (i + 1)) + 1 by omega, alA, if_neg c89])]) ?_
                    subst hQ
                    exact V_iret hC hr hlk rfl (by decide) (by decide) dX9_readBack_127 ((fb2_2, fc2_3, fg2, frd2_4)) [0, 1, 2, 3, 4, 5, 6] rfl (by decide) (⟨rfl, trivial⟩)
                  · refine V_iinc (v := (nI (i + 1))) (lv2 := [(0, .ref m9), (1, .int (nI 2)), (2, .int (nI ((rdF p b (βl (sB (cM p b g n e)))).1))), (3, .int (nI (i + 1)))]) (q := 3) hC dX9_readBack_92 rfl (nI_add _ _) (by decide) [1, 2, 3, 0] rfl ?_
                    refine V_goto (tgt := 57) hC dX9_readBack_95 (by decide) ?_
                    exact ih57 (i + 1) (by omega) (by rw [← h7, show min (qR (rdF p b (βl (sB (cM p b g n e)))).2).length n - i = (min (qR (rdF p b (βl (sB (cM p b g n e)))).2).length n - (i + 1)) + 1 by omega, alA, if_pos c89]) (by omega)
          exact L57 _ 0 (by omega) (rfl) (Nat.lt_succ_self _)
        · refine V_aload_n hC dX9_readBack_32 rfl 0 rfl ?_
          refine V_get (ci := 9) (v := .ref gv) hC in_X9 0 rfl cls_X9 12 (by decide) fl_X9_25 rfl dX9_readBack_33 ?_
          refine V_iload_n hC dX9_readBack_36 rfl 2 rfl ?_
          refine V_aload_n hC dX9_readBack_37 rfl 0 rfl ?_
          refine V_get (ci := 9) (v := .ref bt) hC in_X9 0 rfl cls_X9 9 (by decide) fl_X9_19 rfl dX9_readBack_38 ?_
          refine V_iload_n hC dX9_readBack_41 rfl 2 rfl ?_
          refine V_iald hC 3 0 rfl rfl (by omega) (by decide) dX9_readBack_42 ?_
          refine V_iast hC 5 0 rfl rfl (by omega) (by decide) dX9_readBack_43 (ws2 := [(m9, .inr (9, [.ref al, .ref hs, .int (nI hL), .ref ct, .int (nI (sT (cM p b g n e))), .int (nI (sH (cM p b g n e))), .int (nI (sL (cM p b g n e))), .int (nI (sU (cM p b g n e))), .int (nI (sW (cM p b g n e))), .ref bt, .int (nI ((sB (cM p b g n e)).length)), .ref cs, .ref gv, .int (nI ((sB (cM p b g n e)).length)), .int (nI tk), .int (nI vv), .ref rd, .int (nI rM), .ref tx, .int (nI tL), .int (nI pl)])), (al, .inl (cI, 44, .inl (fun j => nI ((allF g n e p b) j)))), (ct, .inl (cI, 9, .inl (fun j => nI ((sF (cM p b g n e)) j)))), (bt, .inl (cI, 1400, .inl (fun j => nI (fb2_2 j)))), (cs, .inl (cI, 40, .inl (fun j => nI (fc2_3 j)))), (gv, .inl (cI, 1400, .inl (fun j => nI ((va_up fg2 i (fb2_2 i)) j)))), (rd, .inl (cI, 40, .inl (fun j => nI (frd j))))]) rfl ?_
          refine V_iinc (v := (nI (i + 1))) (lv2 := [(0, .ref m9), (1, .int (nI 2)), (2, .int (nI (i + 1)))]) (q := 2) hC dX9_readBack_44 rfl (nI_add _ _) (by decide) [1, 2, 0] rfl ?_
          refine V_goto (tgt := 24) hC dX9_readBack_47 (by decide) ?_
          exact ih24 (i + 1) (va_up fg2 i (fb2_2 i)) (by omega) (lt_s (fun j hj => by rw [va_up_ne fg2 _ (show j ≠ i by omega)]; exact h2 j hj) (by rw [va_up_self]; exact h16.1 i (by omega))) (by omega)
    exact L24 _ 0 fg (by omega) (fun j hj => absurd hj (Nat.not_lt_zero j)) (Nat.lt_succ_self _)
  · exact False.elim (by omega)
abbrev rm_X9_type_neg : Room := { frames := 1, cells := 0, slots := 0, locals := 25 }
set_option maxHeartbeats 4000000 in
set_option maxRecDepth 100000 in
theorem c_X9_type_neg (l : Launch) (D : va_G) (cI cQ : ClassId) (m9 al hs hL ct tt hv lo hi wt bt bL cs gv gL tk vv rd rM tx tL pl : Nat) (x : Int32) (hx : x.toInt < 0) : MI l yX9_type cX9_type 2 (some .int) rm_X9_type_neg D (TY cI cQ) [.ref m9, .int (x)] [(m9, .inr (9, [.ref al, .ref hs, .int (nI hL), .ref ct, .int (nI tt), .int (nI hv), .int (nI lo), .int (nI hi), .int (nI wt), .ref bt, .int (nI bL), .ref cs, .ref gv, .int (nI gL), .int (nI tk), .int (nI vv), .ref rd, .int (nI rM), .ref tx, .int (nI tL), .int (nI pl)]))] (fun (r9 : Int32) (u : Unit) => r9 = (-1) ∧ (True)) (fun (u : Unit) => [(m9, .inr (9, [.ref al, .ref hs, .int (nI hL), .ref ct, .int (nI tt), .int (nI hv), .int (nI lo), .int (nI hi), .int (nI wt), .ref bt, .int (nI bL), .ref cs, .ref gv, .int (nI gL), .int (nI tk), .int (nI vv), .ref rd, .int (nI rM), .ref tx, .int (nI tL), .int (nI pl)]))]) 0 0 := by
  refine MI.start (by decide) (Nat.le_of_ble_eq_true rfl) (lv0 := [(0, .ref m9), (1, .int (x))]) rfl ?_
  intro pp9 ee9 ss9 mm9 args9 below9 meth9 co9 A9 Q9 hQ hC hr hlk hnm
  refine V_iload_n hC dX9_type_0 rfl 1 rfl ?_
  refine V_i2l (v := (x).toInt64) hC dX9_type_1 rfl ?_
  refine V_ldc2 (v2 := lN 32) hC dX9_type_2 cstl_X9_119 rfl ?_
  refine V_ldc2 (v2 := lN 126) hC dX9_type_5 cstl_X9_166 rfl ?_
  refine V_calliS (As := [.long ((x).toInt64), .long (lN 32), .long (lN 126)]) (rest := []) (wr := [(m9, .inr (9, [.ref al, .ref hs, .int (nI hL), .ref ct, .int (nI tt), .int (nI hv), .int (nI lo), .int (nI hi), .int (nI wt), .ref bt, .int (nI bL), .ref cs, .ref gv, .int (nI gL), .int (nI tk), .int (nI vv), .ref rd, .int (nI rM), .ref tx, .int (nI tL), .int (nI pl)]))]) hC (c_X9_in_neg l D cI cQ x 32 126 (hx) (by omega)) mok_X9_in ml_X9_102 rfl rfl rfl (by decide) (by decide) (by decide) (Nat.le_of_ble_eq_true rfl) [] [0] rfl (by decide) rfl (by decide) (by decide) dX9_type_8 rfl (fun r9 u9 h8 => ?_)
  obtain ⟨rfl, h8⟩ := h8
  clear h8
  refine V_perm (ws2 := [(m9, .inr (9, [.ref al, .ref hs, .int (nI hL), .ref ct, .int (nI tt), .int (nI hv), .int (nI lo), .int (nI hi), .int (nI wt), .ref bt, .int (nI bL), .ref cs, .ref gv, .int (nI gL), .int (nI tk), .int (nI vv), .ref rd, .int (nI rM), .ref tx, .int (nI tL), .int (nI pl)]))]) [0] rfl (by decide) ?_
  refine V_if_ne_F (tgt := 16) hC dX9_type_11 (by decide) ((congrArg nI (show 0 = 0 by omega)).trans nI_0) ?_
  refine V_iconst (v := -1) hC dX9_type_14 (by decide) ?_
  subst hQ
  exact V_iret hC hr hlk rfl (by decide) (by decide) dX9_type_15 (()) [0] rfl (by decide) (⟨rfl, trivial⟩)
abbrev rm_X9_type_bad : Room := { frames := 1, cells := 0, slots := 0, locals := 25 }
set_option maxHeartbeats 4000000 in
set_option maxRecDepth 100000 in
theorem c_X9_type_bad (l : Launch) (D : va_G) (cI cQ : ClassId) (m9 al hs hL ct tt hv lo hi wt bt bL cs gv gL tk vv rd rM tx tL pl x : Nat) (hx : (x < 32 ∨ 126 < x) ∧ x < 2147483648) : MI l yX9_type cX9_type 2 (some .int) rm_X9_type_bad D (TY cI cQ) [.ref m9, .int (nI x)] [(m9, .inr (9, [.ref al, .ref hs, .int (nI hL), .ref ct, .int (nI tt), .int (nI hv), .int (nI lo), .int (nI hi), .int (nI wt), .ref bt, .int (nI bL), .ref cs, .ref gv, .int (nI gL), .int (nI tk), .int (nI vv), .ref rd, .int (nI rM), .ref tx, .int (nI tL), .int (nI pl)]))] (fun (r9 : Int32) (u : Unit) => r9 = (-1) ∧ (True)) (fun (u : Unit) => [(m9, .inr (9, [.ref al, .ref hs, .int (nI hL), .ref ct, .int (nI tt), .int (nI hv), .int (nI lo), .int (nI hi), .int (nI wt), .ref bt, .int (nI bL), .ref cs, .ref gv, .int (nI gL), .int (nI tk), .int (nI vv), .ref rd, .int (nI rM), .ref tx, .int (nI tL), .int (nI pl)]))]) 0 0 := by
  refine MI.start (by decide) (Nat.le_of_ble_eq_true rfl) (lv0 := [(0, .ref m9), (1, .int (nI x))]) rfl ?_
  intro pp9 ee9 ss9 mm9 args9 below9 meth9 co9 A9 Q9 hQ hC hr hlk hnm
  refine V_iload_n hC dX9_type_0 rfl 1 rfl ?_
  refine V_i2l (v := lN x) hC dX9_type_1 (nI_l (by omega)) ?_
  refine V_ldc2 (v2 := lN 32) hC dX9_type_2 cstl_X9_119 rfl ?_
  refine V_ldc2 (v2 := lN 126) hC dX9_type_5 cstl_X9_166 rfl ?_
  refine V_calliS (As := [.long (lN x), .long (lN 32), .long (lN 126)]) (rest := []) (wr := [(m9, .inr (9, [.ref al, .ref hs, .int (nI hL), .ref ct, .int (nI tt), .int (nI hv), .int (nI lo), .int (nI hi), .int (nI wt), .ref bt, .int (nI bL), .ref cs, .ref gv, .int (nI gL), .int (nI tk), .int (nI vv), .ref rd, .int (nI rM), .ref tx, .int (nI tL), .int (nI pl)]))]) hC (c_X9_in l D cI cQ x 32 126 (by omega) (by omega) (by omega)) mok_X9_in ml_X9_102 rfl rfl rfl (by decide) (by decide) (by decide) (Nat.le_of_ble_eq_true rfl) [] [0] rfl (by decide) rfl (by decide) (by decide) dX9_type_8 rfl (fun r9 u9 h8 => ?_)
  obtain ⟨u_1, rfl⟩ : ∃ z, z = u9 := ⟨_, rfl⟩
  obtain ⟨rfl, h8⟩ := h8
  have h8 : (u_1 = 1 ∧ 32 ≤ x ∧ x ≤ 126) ∨ (u_1 = 0 ∧ (x < 32 ∨ 126 < x)) := h8
  refine V_perm (ws2 := [(m9, .inr (9, [.ref al, .ref hs, .int (nI hL), .ref ct, .int (nI tt), .int (nI hv), .int (nI lo), .int (nI hi), .int (nI wt), .ref bt, .int (nI bL), .ref cs, .ref gv, .int (nI gL), .int (nI tk), .int (nI vv), .ref rd, .int (nI rM), .ref tx, .int (nI tL), .int (nI pl)]))]) [0] rfl (by decide) ?_
  refine V_if_ne (tgt := 16) hC (by omega) dX9_type_11 (by decide) (fun c11 => ?_) (fun c11 => ?_)
  · exact False.elim (by omega)
  · refine V_iconst (v := -1) hC dX9_type_14 (by decide) ?_
    subst hQ
    exact V_iret hC hr hlk rfl (by decide) (by decide) dX9_type_15 (()) [0] rfl (by decide) (⟨rfl, trivial⟩)
abbrev rm_X9_type_full : Room := { frames := 1, cells := 0, slots := 0, locals := 25 }
set_option maxHeartbeats 4000000 in
set_option maxRecDepth 100000 in
theorem c_X9_type_full (l : Launch) (D : va_G) (cI cQ : ClassId) (m9 al hs hL ct tt hv lo hi wt bt bL cs gv gL tk vv rd rM tx tL pl x : Nat) (ft : Nat → Nat) (hx : 32 ≤ x ∧ x ≤ 126) (hn : tL = 120) : MI l yX9_type cX9_type 2 (some .int) rm_X9_type_full D (TY cI cQ) [.ref m9, .int (nI x)] [(m9, .inr (9, [.ref al, .ref hs, .int (nI hL), .ref ct, .int (nI tt), .int (nI hv), .int (nI lo), .int (nI hi), .int (nI wt), .ref bt, .int (nI bL), .ref cs, .ref gv, .int (nI gL), .int (nI tk), .int (nI vv), .ref rd, .int (nI rM), .ref tx, .int (nI tL), .int (nI pl)])), (tx, .inl (cI, 120, .inl (fun j => nI (ft j))))] (fun (r9 : Int32) (u : Unit) => r9 = (-3) ∧ (True)) (fun (u : Unit) => [(m9, .inr (9, [.ref al, .ref hs, .int (nI hL), .ref ct, .int (nI tt), .int (nI hv), .int (nI lo), .int (nI hi), .int (nI wt), .ref bt, .int (nI bL), .ref cs, .ref gv, .int (nI gL), .int (nI tk), .int (nI vv), .ref rd, .int (nI rM), .ref tx, .int (nI tL), .int (nI pl)])), (tx, .inl (cI, 120, .inl (fun j => nI (ft j))))]) 0 0 := by
  refine MI.start (by decide) (Nat.le_of_ble_eq_true rfl) (lv0 := [(0, .ref m9), (1, .int (nI x))]) rfl ?_
  intro pp9 ee9 ss9 mm9 args9 below9 meth9 co9 A9 Q9 hQ hC hr hlk hnm
  refine V_iload_n hC dX9_type_0 rfl 1 rfl ?_
  refine V_i2l (v := lN x) hC dX9_type_1 (nI_l (by omega)) ?_
  refine V_ldc2 (v2 := lN 32) hC dX9_type_2 cstl_X9_119 rfl ?_
  refine V_ldc2 (v2 := lN 126) hC dX9_type_5 cstl_X9_166 rfl ?_
  refine V_calliS (As := [.long (lN x), .long (lN 32), .long (lN 126)]) (rest := []) (wr := [(m9, .inr (9, [.ref al, .ref hs, .int (nI hL), .ref ct, .int (nI tt), .int (nI hv), .int (nI lo), .int (nI hi), .int (nI wt), .ref bt, .int (nI bL), .ref cs, .ref gv, .int (nI gL), .int (nI tk), .int (nI vv), .ref rd, .int (nI rM), .ref tx, .int (nI tL), .int (nI pl)])), (tx, .inl (cI, 120, .inl (fun j => nI (ft j))))]) hC (c_X9_in l D cI cQ x 32 126 (by omega) (by omega) (by omega)) mok_X9_in ml_X9_102 rfl rfl rfl (by decide) (by decide) (by decide) (Nat.le_of_ble_eq_true rfl) [] [0, 1] rfl (by decide) rfl (by decide) (by decide) dX9_type_8 rfl (fun r9 u9 h8 => ?_)
  obtain ⟨u_1, rfl⟩ : ∃ z, z = u9 := ⟨_, rfl⟩
  obtain ⟨rfl, h8⟩ := h8
  have h8 : (u_1 = 1 ∧ 32 ≤ x ∧ x ≤ 126) ∨ (u_1 = 0 ∧ (x < 32 ∨ 126 < x)) := h8
  refine V_perm (ws2 := [(m9, .inr (9, [.ref al, .ref hs, .int (nI hL), .ref ct, .int (nI tt), .int (nI hv), .int (nI lo), .int (nI hi), .int (nI wt), .ref bt, .int (nI bL), .ref cs, .ref gv, .int (nI gL), .int (nI tk), .int (nI vv), .ref rd, .int (nI rM), .ref tx, .int (nI tL), .int (nI pl)])), (tx, .inl (cI, 120, .inl (fun j => nI (ft j))))]) [0, 1] rfl (by decide) ?_
  refine V_if_ne (tgt := 16) hC (by omega) dX9_type_11 (by decide) (fun c11 => ?_) (fun c11 => ?_)
  · refine V_aload_n hC dX9_type_16 rfl 0 rfl ?_
    refine V_get (ci := 9) (v := .int (nI tL)) hC in_X9 0 rfl cls_X9 19 (by decide) fl_X9_133 rfl dX9_type_17 ?_
    refine V_bipush (v := nI 120) hC dX9_type_20 (by decide) ?_
    refine V_icmp_ne (tgt := 28) hC (by omega) (by omega) dX9_type_22 (by decide) (fun c22 => ?_) (fun c22 => ?_)
    · exact False.elim (by omega)
    · refine V_bipush (v := -3) hC dX9_type_25 (by decide) ?_
      subst hQ
      exact V_iret hC hr hlk rfl (by decide) (by decide) dX9_type_27 (()) [0, 1] rfl (by decide) (⟨rfl, trivial⟩)
  · exact False.elim (by omega)
abbrev rm_X9_type_ok : Room := { frames := 1, cells := 0, slots := 0, locals := 25 }
set_option maxHeartbeats 4000000 in
set_option maxRecDepth 100000 in
theorem c_X9_type_ok (l : Launch) (D : va_G) (cI cQ : ClassId) (m9 al hs hL ct tt hv lo hi wt bt bL cs gv gL tk vv rd rM tx tL pl x : Nat) (ft : Nat → Nat) (hx : 32 ≤ x ∧ x ≤ 126) (hn : tL < 120) : MI l yX9_type cX9_type 2 (some .int) rm_X9_type_ok D (TY cI cQ) [.ref m9, .int (nI x)] [(m9, .inr (9, [.ref al, .ref hs, .int (nI hL), .ref ct, .int (nI tt), .int (nI hv), .int (nI lo), .int (nI hi), .int (nI wt), .ref bt, .int (nI bL), .ref cs, .ref gv, .int (nI gL), .int (nI tk), .int (nI vv), .ref rd, .int (nI rM), .ref tx, .int (nI tL), .int (nI pl)])), (tx, .inl (cI, 120, .inl (fun j => nI (ft j))))] (fun (r9 : Int32) (u : Unit) => r9 = (nI (tL + 1)) ∧ (True)) (fun (u : Unit) => [(m9, .inr (9, [.ref al, .ref hs, .int (nI hL), .ref ct, .int (nI tt), .int (nI hv), .int (nI lo), .int (nI hi), .int (nI wt), .ref bt, .int (nI bL), .ref cs, .ref gv, .int (nI gL), .int (nI tk), .int (nI vv), .ref rd, .int (nI rM), .ref tx, .int (nI (tL + 1)), .int (nI pl)])), (tx, .inl (cI, 120, .inl (fun j => nI ((va_up ft tL x) j))))]) 0 0 := by
  refine MI.start (by decide) (Nat.le_of_ble_eq_true rfl) (lv0 := [(0, .ref m9), (1, .int (nI x))]) rfl ?_
  intro pp9 ee9 ss9 mm9 args9 below9 meth9 co9 A9 Q9 hQ hC hr hlk hnm
  refine V_iload_n hC dX9_type_0 rfl 1 rfl ?_
  refine V_i2l (v := lN x) hC dX9_type_1 (nI_l (by omega)) ?_
  refine V_ldc2 (v2 := lN 32) hC dX9_type_2 cstl_X9_119 rfl ?_
  refine V_ldc2 (v2 := lN 126) hC dX9_type_5 cstl_X9_166 rfl ?_
  refine V_calliS (As := [.long (lN x), .long (lN 32), .long (lN 126)]) (rest := []) (wr := [(m9, .inr (9, [.ref al, .ref hs, .int (nI hL), .ref ct, .int (nI tt), .int (nI hv), .int (nI lo), .int (nI hi), .int (nI wt), .ref bt, .int (nI bL), .ref cs, .ref gv, .int (nI gL), .int (nI tk), .int (nI vv), .ref rd, .int (nI rM), .ref tx, .int (nI tL), .int (nI pl)])), (tx, .inl (cI, 120, .inl (fun j => nI (ft j))))]) hC (c_X9_in l D cI cQ x 32 126 (by omega) (by omega) (by omega)) mok_X9_in ml_X9_102 rfl rfl rfl (by decide) (by decide) (by decide) (Nat.le_of_ble_eq_true rfl) [] [0, 1] rfl (by decide) rfl (by decide) (by decide) dX9_type_8 rfl (fun r9 u9 h8 => ?_)
  obtain ⟨u_1, rfl⟩ : ∃ z, z = u9 := ⟨_, rfl⟩
  obtain ⟨rfl, h8⟩ := h8
  have h8 : (u_1 = 1 ∧ 32 ≤ x ∧ x ≤ 126) ∨ (u_1 = 0 ∧ (x < 32 ∨ 126 < x)) := h8
  refine V_perm (ws2 := [(m9, .inr (9, [.ref al, .ref hs, .int (nI hL), .ref ct, .int (nI tt), .int (nI hv), .int (nI lo), .int (nI hi), .int (nI wt), .ref bt, .int (nI bL), .ref cs, .ref gv, .int (nI gL), .int (nI tk), .int (nI vv), .ref rd, .int (nI rM), .ref tx, .int (nI tL), .int (nI pl)])), (tx, .inl (cI, 120, .inl (fun j => nI (ft j))))]) [0, 1] rfl (by decide) ?_
  refine V_if_ne (tgt := 16) hC (by omega) dX9_type_11 (by decide) (fun c11 => ?_) (fun c11 => ?_)
  · refine V_aload_n hC dX9_type_16 rfl 0 rfl ?_
    refine V_get (ci := 9) (v := .int (nI tL)) hC in_X9 0 rfl cls_X9 19 (by decide) fl_X9_133 rfl dX9_type_17 ?_
    refine V_bipush (v := nI 120) hC dX9_type_20 (by decide) ?_
    refine V_icmp_ne (tgt := 28) hC (by omega) (by omega) dX9_type_22 (by decide) (fun c22 => ?_) (fun c22 => ?_)
    · refine V_aload_n hC dX9_type_28 rfl 0 rfl ?_
      refine V_get (ci := 9) (v := .ref tx) hC in_X9 0 rfl cls_X9 18 (by decide) fl_X9_31 rfl dX9_type_29 ?_
      refine V_aload_n hC dX9_type_32 rfl 0 rfl ?_
      refine V_get (ci := 9) (v := .int (nI tL)) hC in_X9 0 rfl cls_X9 19 (by decide) fl_X9_133 rfl dX9_type_33 ?_
      refine V_iload_n hC dX9_type_36 rfl 1 rfl ?_
      refine V_iast hC 1 0 rfl rfl (by omega) (by decide) dX9_type_37 (ws2 := [(m9, .inr (9, [.ref al, .ref hs, .int (nI hL), .ref ct, .int (nI tt), .int (nI hv), .int (nI lo), .int (nI hi), .int (nI wt), .ref bt, .int (nI bL), .ref cs, .ref gv, .int (nI gL), .int (nI tk), .int (nI vv), .ref rd, .int (nI rM), .ref tx, .int (nI tL), .int (nI pl)])), (tx, .inl (cI, 120, .inl (fun j => nI ((va_up ft tL x) j))))]) rfl ?_
      refine V_aload_n hC dX9_type_38 rfl 0 rfl ?_
      refine V_dup hC dX9_type_39 rfl ?_
      refine V_get (ci := 9) (v := .int (nI tL)) hC in_X9 0 rfl cls_X9 19 (by decide) fl_X9_133 rfl dX9_type_40 ?_
      refine V_iconst (v := nI 1) hC dX9_type_43 (by decide) ?_
      refine V_iadd hC dX9_type_44 ?_
      refine V_put (ci := 9) (v := .int (nI (tL + 1))) hC tyX9 tyX9_ok nmX9 in_X9 0 rfl cls_X9 19 (by decide) fl_X9_133 rfl rfl rfl (Nat.le_of_ble_eq_true rfl) dX9_type_45 (ws2 := [(m9, .inr (9, [.ref al, .ref hs, .int (nI hL), .ref ct, .int (nI tt), .int (nI hv), .int (nI lo), .int (nI hi), .int (nI wt), .ref bt, .int (nI bL), .ref cs, .ref gv, .int (nI gL), .int (nI tk), .int (nI vv), .ref rd, .int (nI rM), .ref tx, .int (nI (tL + 1)), .int (nI pl)])), (tx, .inl (cI, 120, .inl (fun j => nI ((va_up ft tL x) j))))]) rfl ?_
      refine V_aload_n hC dX9_type_48 rfl 0 rfl ?_
      refine V_get (ci := 9) (v := .int (nI (tL + 1))) hC in_X9 0 rfl cls_X9 19 (by decide) fl_X9_133 rfl dX9_type_49 ?_
      subst hQ
      exact V_iret hC hr hlk rfl (by decide) (by decide) dX9_type_52 (()) [0, 1] rfl (by decide) (⟨rfl, trivial⟩)
    · exact False.elim (by omega)
  · exact False.elim (by omega)
abbrev rm_X9_clearText : Room := { frames := 0, cells := 0, slots := 0, locals := 0 }
set_option maxHeartbeats 4000000 in
set_option maxRecDepth 100000 in
theorem c_X9_clearText (l : Launch) (D : va_G) (cI cQ : ClassId) (m9 al hs hL ct tt hv lo hi wt bt bL cs gv gL tk vv rd rM tx tL pl : Nat)  : MI l yX9_clearText cX9_clearText 2 (some .int) rm_X9_clearText D (TY cI cQ) [.ref m9] [(m9, .inr (9, [.ref al, .ref hs, .int (nI hL), .ref ct, .int (nI tt), .int (nI hv), .int (nI lo), .int (nI hi), .int (nI wt), .ref bt, .int (nI bL), .ref cs, .ref gv, .int (nI gL), .int (nI tk), .int (nI vv), .ref rd, .int (nI rM), .ref tx, .int (nI tL), .int (nI pl)]))] (fun (r9 : Int32) (u : Unit) => r9 = (nI tL) ∧ (True)) (fun (u : Unit) => [(m9, .inr (9, [.ref al, .ref hs, .int (nI hL), .ref ct, .int (nI tt), .int (nI hv), .int (nI lo), .int (nI hi), .int (nI wt), .ref bt, .int (nI bL), .ref cs, .ref gv, .int (nI gL), .int (nI tk), .int (nI vv), .ref rd, .int (nI rM), .ref tx, .int (nI 0), .int (nI pl)]))]) 0 0 := by
  refine MI.start (by decide) (Nat.le_of_ble_eq_true rfl) (lv0 := [(0, .ref m9)]) rfl ?_
  intro pp9 ee9 ss9 mm9 args9 below9 meth9 co9 A9 Q9 hQ hC hr hlk hnm
  refine V_aload_n hC dX9_clearText_0 rfl 0 rfl ?_
  refine V_get (ci := 9) (v := .int (nI tL)) hC in_X9 0 rfl cls_X9 19 (by decide) fl_X9_133 rfl dX9_clearText_1 ?_
  refine V_istore_n (lv2 := [(0, .ref m9), (1, .int (nI tL))]) hC dX9_clearText_4 rfl (by decide) [1, 0] rfl ?_
  refine V_aload_n hC dX9_clearText_5 rfl 0 rfl ?_
  refine V_iconst (v := nI 0) hC dX9_clearText_6 (by decide) ?_
  refine V_put (ci := 9) (v := .int (nI 0)) hC tyX9 tyX9_ok nmX9 in_X9 0 rfl cls_X9 19 (by decide) fl_X9_133 rfl rfl rfl (Nat.le_of_ble_eq_true rfl) dX9_clearText_7 (ws2 := [(m9, .inr (9, [.ref al, .ref hs, .int (nI hL), .ref ct, .int (nI tt), .int (nI hv), .int (nI lo), .int (nI hi), .int (nI wt), .ref bt, .int (nI bL), .ref cs, .ref gv, .int (nI gL), .int (nI tk), .int (nI vv), .ref rd, .int (nI rM), .ref tx, .int (nI 0), .int (nI pl)]))]) rfl ?_
  refine V_iload_n hC dX9_clearText_10 rfl 1 rfl ?_
  subst hQ
  exact V_iret hC hr hlk rfl (by decide) (by decide) dX9_clearText_11 (()) [0] rfl (by decide) (⟨rfl, trivial⟩)
abbrev rm_X9_write_long : Room := { frames := 7, cells := 0, slots := 0, locals := 152 }
set_option maxHeartbeats 4000000 in
set_option maxRecDepth 100000 in
theorem c_X9_write_long (l : Launch) (D : va_G) (cI cQ : ClassId) (m9 al hs hL ct tt hv lo hi wt bt bL cs gv gL tk vv rd rM tx tL pl n e p b : Nat) (g f fb fc ft : Nat → Nat) (hn : n ≤ 40) (hg : ∀ j, j < n → g j < 8) (he : e < 2) (hp : p ≤ 64) (hb : b ≤ 2000) (hl : 120 < (sB (cM p b g n e)).length) : MI l yX9_write cX9_write 2 (some .int) rm_X9_write_long D (TY cI cQ) [.ref m9] [(m9, .inr (9, [.ref al, .ref hs, .int (nI hL), .ref ct, .int (nI tt), .int (nI hv), .int (nI lo), .int (nI hi), .int (nI wt), .ref bt, .int (nI bL), .ref cs, .ref gv, .int (nI gL), .int (nI tk), .int (nI vv), .ref rd, .int (nI rM), .ref tx, .int (nI tL), .int (nI pl)])), (al, .inl (cI, 44, .inl (fun j => nI ((allF g n e p b) j)))), (ct, .inl (cI, 9, .inl (fun j => nI (f j)))), (bt, .inl (cI, 1400, .inl (fun j => nI (fb j)))), (cs, .inl (cI, 40, .inl (fun j => nI (fc j)))), (tx, .inl (cI, 120, .inl (fun j => nI (ft j))))] (fun (r9 : Int32) (u : (Nat → Nat) × (Nat → Nat)) => r9 = (-3) ∧ (True)) (fun (u : (Nat → Nat) × (Nat → Nat)) => [(m9, .inr (9, [.ref al, .ref hs, .int (nI hL), .ref ct, .int (nI (sT (cM p b g n e))), .int (nI (sH (cM p b g n e))), .int (nI (sL (cM p b g n e))), .int (nI (sU (cM p b g n e))), .int (nI (sW (cM p b g n e))), .ref bt, .int (nI ((sB (cM p b g n e)).length)), .ref cs, .ref gv, .int (nI gL), .int (nI tk), .int (nI vv), .ref rd, .int (nI rM), .ref tx, .int (nI tL), .int (nI pl)])), (al, .inl (cI, 44, .inl (fun j => nI ((allF g n e p b) j)))), (ct, .inl (cI, 9, .inl (fun j => nI ((sF (cM p b g n e)) j)))), (bt, .inl (cI, 1400, .inl (fun j => nI (u.1 j)))), (cs, .inl (cI, 40, .inl (fun j => nI (u.2 j)))), (tx, .inl (cI, 120, .inl (fun j => nI (ft j))))]) 0 0 := by
  refine MI.start (by decide) (Nat.le_of_ble_eq_true rfl) (lv0 := [(0, .ref m9)]) rfl ?_
  intro pp9 ee9 ss9 mm9 args9 below9 meth9 co9 A9 Q9 hQ hC hr hlk hnm
  have hml := cM_len p b g (e := e) hn
  refine V_aload_n hC dX9_write_0 rfl 0 rfl ?_
  refine V_calliV (As := []) (rest := []) (wr := [(tx, .inl (cI, 120, .inl (fun j => nI (ft j))))]) hC (c_X9_bitsNow l D cI cQ m9 al hs hL ct tt hv lo hi wt bt bL cs gv gL tk vv rd rM tx tL pl n e p b g f fb fc (by omega) (hg) (by omega) (by omega) (by omega)) mok_X9_bitsNow ml_X9_109 (q1 := 0) rfl cls_X9 rfl rfl rfl (by decide) (by decide) (by decide) (Nat.le_of_ble_eq_true rfl) [0, 1, 2, 3, 4] [5] rfl (by decide) rfl (by decide) (by decide) dX9_write_1 rfl (fun r9 u9 h1 => ?_)
  obtain ⟨fb2_1, fc2_2⟩ := u9
  obtain ⟨rfl, h1⟩ := h1
  have h1 : rep fb2_1 (sB (cM p b g n e)) ∧ ∀ j, j < n → fc2_2 j = cost p b g j := h1
  refine V_perm (ws2 := [(m9, .inr (9, [.ref al, .ref hs, .int (nI hL), .ref ct, .int (nI (sT (cM p b g n e))), .int (nI (sH (cM p b g n e))), .int (nI (sL (cM p b g n e))), .int (nI (sU (cM p b g n e))), .int (nI (sW (cM p b g n e))), .ref bt, .int (nI ((sB (cM p b g n e)).length)), .ref cs, .ref gv, .int (nI gL), .int (nI tk), .int (nI vv), .ref rd, .int (nI rM), .ref tx, .int (nI tL), .int (nI pl)])), (al, .inl (cI, 44, .inl (fun j => nI ((allF g n e p b) j)))), (ct, .inl (cI, 9, .inl (fun j => nI ((sF (cM p b g n e)) j)))), (bt, .inl (cI, 1400, .inl (fun j => nI (fb2_1 j)))), (cs, .inl (cI, 40, .inl (fun j => nI (fc2_2 j)))), (tx, .inl (cI, 120, .inl (fun j => nI (ft j))))]) [1, 2, 3, 4, 5, 0] rfl (by decide) ?_
  refine V_bipush (v := nI 120) hC dX9_write_4 (by decide) ?_
  refine V_icmp_le (tgt := 12) hC (by omega) (by omega) dX9_write_6 (by decide) (fun c6 => ?_) (fun c6 => ?_)
  · exact False.elim (by omega)
  · refine V_bipush (v := -3) hC dX9_write_9 (by decide) ?_
    subst hQ
    exact V_iret hC hr hlk rfl (by decide) (by decide) dX9_write_11 ((fb2_1, fc2_2)) [0, 1, 2, 3, 4, 5] rfl (by decide) (⟨rfl, trivial⟩)
abbrev rm_X9_write_ok : Room := { frames := 7, cells := 0, slots := 0, locals := 152 }
set_option maxHeartbeats 4000000 in
set_option maxRecDepth 100000 in
theorem c_X9_write_ok (l : Launch) (D : va_G) (cI cQ : ClassId) (m9 al hs hL ct tt hv lo hi wt bt bL cs gv gL tk vv rd rM tx tL pl n e p b : Nat) (g f fb fc ft : Nat → Nat) (hn : n ≤ 40) (hg : ∀ j, j < n → g j < 8) (he : e < 2) (hp : p ≤ 64) (hb : b ≤ 2000) (hl : (sB (cM p b g n e)).length ≤ 120) : MI l yX9_write cX9_write 2 (some .int) rm_X9_write_ok D (TY cI cQ) [.ref m9] [(m9, .inr (9, [.ref al, .ref hs, .int (nI hL), .ref ct, .int (nI tt), .int (nI hv), .int (nI lo), .int (nI hi), .int (nI wt), .ref bt, .int (nI bL), .ref cs, .ref gv, .int (nI gL), .int (nI tk), .int (nI vv), .ref rd, .int (nI rM), .ref tx, .int (nI tL), .int (nI pl)])), (al, .inl (cI, 44, .inl (fun j => nI ((allF g n e p b) j)))), (ct, .inl (cI, 9, .inl (fun j => nI (f j)))), (bt, .inl (cI, 1400, .inl (fun j => nI (fb j)))), (cs, .inl (cI, 40, .inl (fun j => nI (fc j)))), (tx, .inl (cI, 120, .inl (fun j => nI (ft j))))] (fun (r9 : Int32) (u : (Nat → Nat) × (Nat → Nat) × (Nat → Nat)) => r9 = (nI ((sB (cM p b g n e)).length)) ∧ (rep u.2.2 (wT (sB (cM p b g n e))))) (fun (u : (Nat → Nat) × (Nat → Nat) × (Nat → Nat)) => [(m9, .inr (9, [.ref al, .ref hs, .int (nI hL), .ref ct, .int (nI (sT (cM p b g n e))), .int (nI (sH (cM p b g n e))), .int (nI (sL (cM p b g n e))), .int (nI (sU (cM p b g n e))), .int (nI (sW (cM p b g n e))), .ref bt, .int (nI ((sB (cM p b g n e)).length)), .ref cs, .ref gv, .int (nI gL), .int (nI tk), .int (nI vv), .ref rd, .int (nI rM), .ref tx, .int (nI ((sB (cM p b g n e)).length)), .int (nI pl)])), (al, .inl (cI, 44, .inl (fun j => nI ((allF g n e p b) j)))), (ct, .inl (cI, 9, .inl (fun j => nI ((sF (cM p b g n e)) j)))), (bt, .inl (cI, 1400, .inl (fun j => nI (u.1 j)))), (cs, .inl (cI, 40, .inl (fun j => nI (u.2.1 j)))), (tx, .inl (cI, 120, .inl (fun j => nI (u.2.2 j))))]) 0 0 := by
  refine MI.start (by decide) (Nat.le_of_ble_eq_true rfl) (lv0 := [(0, .ref m9)]) rfl ?_
  intro pp9 ee9 ss9 mm9 args9 below9 meth9 co9 A9 Q9 hQ hC hr hlk hnm
  have hml := cM_len p b g (e := e) hn
  refine V_aload_n hC dX9_write_0 rfl 0 rfl ?_
  refine V_calliV (As := []) (rest := []) (wr := [(tx, .inl (cI, 120, .inl (fun j => nI (ft j))))]) hC (c_X9_bitsNow l D cI cQ m9 al hs hL ct tt hv lo hi wt bt bL cs gv gL tk vv rd rM tx tL pl n e p b g f fb fc (by omega) (hg) (by omega) (by omega) (by omega)) mok_X9_bitsNow ml_X9_109 (q1 := 0) rfl cls_X9 rfl rfl rfl (by decide) (by decide) (by decide) (Nat.le_of_ble_eq_true rfl) [0, 1, 2, 3, 4] [5] rfl (by decide) rfl (by decide) (by decide) dX9_write_1 rfl (fun r9 u9 h1 => ?_)
  obtain ⟨fb2_1, fc2_2⟩ := u9
  obtain ⟨rfl, h1⟩ := h1
  have h1 : rep fb2_1 (sB (cM p b g n e)) ∧ ∀ j, j < n → fc2_2 j = cost p b g j := h1
  refine V_perm (ws2 := [(m9, .inr (9, [.ref al, .ref hs, .int (nI hL), .ref ct, .int (nI (sT (cM p b g n e))), .int (nI (sH (cM p b g n e))), .int (nI (sL (cM p b g n e))), .int (nI (sU (cM p b g n e))), .int (nI (sW (cM p b g n e))), .ref bt, .int (nI ((sB (cM p b g n e)).length)), .ref cs, .ref gv, .int (nI gL), .int (nI tk), .int (nI vv), .ref rd, .int (nI rM), .ref tx, .int (nI tL), .int (nI pl)])), (al, .inl (cI, 44, .inl (fun j => nI ((allF g n e p b) j)))), (ct, .inl (cI, 9, .inl (fun j => nI ((sF (cM p b g n e)) j)))), (bt, .inl (cI, 1400, .inl (fun j => nI (fb2_1 j)))), (cs, .inl (cI, 40, .inl (fun j => nI (fc2_2 j)))), (tx, .inl (cI, 120, .inl (fun j => nI (ft j))))]) [1, 2, 3, 4, 5, 0] rfl (by decide) ?_
  refine V_bipush (v := nI 120) hC dX9_write_4 (by decide) ?_
  refine V_icmp_le (tgt := 12) hC (by omega) (by omega) dX9_write_6 (by decide) (fun c6 => ?_) (fun c6 => ?_)
  · refine V_aload_n hC dX9_write_12 rfl 0 rfl ?_
    refine V_aload_n hC dX9_write_13 rfl 0 rfl ?_
    refine V_get (ci := 9) (v := .int (nI ((sB (cM p b g n e)).length))) hC in_X9 0 rfl cls_X9 10 (by decide) fl_X9_44 rfl dX9_write_14 ?_
    refine V_put (ci := 9) (v := .int (nI ((sB (cM p b g n e)).length))) hC tyX9 tyX9_ok nmX9 in_X9 0 rfl cls_X9 19 (by decide) fl_X9_133 rfl rfl rfl (Nat.le_of_ble_eq_true rfl) dX9_write_17 (ws2 := [(m9, .inr (9, [.ref al, .ref hs, .int (nI hL), .ref ct, .int (nI (sT (cM p b g n e))), .int (nI (sH (cM p b g n e))), .int (nI (sL (cM p b g n e))), .int (nI (sU (cM p b g n e))), .int (nI (sW (cM p b g n e))), .ref bt, .int (nI ((sB (cM p b g n e)).length)), .ref cs, .ref gv, .int (nI gL), .int (nI tk), .int (nI vv), .ref rd, .int (nI rM), .ref tx, .int (nI ((sB (cM p b g n e)).length)), .int (nI pl)])), (al, .inl (cI, 44, .inl (fun j => nI ((allF g n e p b) j)))), (ct, .inl (cI, 9, .inl (fun j => nI ((sF (cM p b g n e)) j)))), (bt, .inl (cI, 1400, .inl (fun j => nI (fb2_1 j)))), (cs, .inl (cI, 40, .inl (fun j => nI (fc2_2 j)))), (tx, .inl (cI, 120, .inl (fun j => nI (ft j))))]) rfl ?_
    refine V_iconst (v := nI 0) hC dX9_write_20 (by decide) ?_
    refine V_istore_n (lv2 := [(0, .ref m9), (1, .int (nI 0))]) hC dX9_write_21 rfl (by decide) [1, 0] rfl ?_
    have L22 : ∀ (n9 : Nat) (i : Nat) (ft2 : Nat → Nat), (i ≤ (sB (cM p b g n e)).length) → (∀ j, j < i → ft2 j = 48 + (sB (cM p b g n e)).getD j 0) → (sB (cM p b g n e)).length - i < n9 → V pp9 l ee9 rm_X9_write_ok ss9 mm9 args9 below9 meth9 co9 D A9 ss9.heap 2 Q9 [(m9, .inr (9, [.ref al, .ref hs, .int (nI hL), .ref ct, .int (nI (sT (cM p b g n e))), .int (nI (sH (cM p b g n e))), .int (nI (sL (cM p b g n e))), .int (nI (sU (cM p b g n e))), .int (nI (sW (cM p b g n e))), .ref bt, .int (nI ((sB (cM p b g n e)).length)), .ref cs, .ref gv, .int (nI gL), .int (nI tk), .int (nI vv), .ref rd, .int (nI rM), .ref tx, .int (nI ((sB (cM p b g n e)).length)), .int (nI pl)])), (al, .inl (cI, 44, .inl (fun j => nI ((allF g n e p b) j)))), (ct, .inl (cI, 9, .inl (fun j => nI ((sF (cM p b g n e)) j)))), (bt, .inl (cI, 1400, .inl (fun j => nI (fb2_1 j)))), (cs, .inl (cI, 40, .inl (fun j => nI (fc2_2 j)))), (tx, .inl (cI, 120, .inl (fun j => nI (ft2 j))))] [(0, .ref m9), (1, .int (nI i))] 0 0 22 [] := by
      intro n9
      induction n9 with
      | zero => intro i ft2 h2 h3 h9; exact absurd h9 (Nat.not_lt_zero _)
      | succ n9 ih22 =>
        intro i ft2 h2 h3 h9
        refine V_iload_n hC dX9_write_22 rfl 1 rfl ?_
        refine V_aload_n hC dX9_write_23 rfl 0 rfl ?_
        refine V_get (ci := 9) (v := .int (nI ((sB (cM p b g n e)).length))) hC in_X9 0 rfl cls_X9 19 (by decide) fl_X9_133 rfl dX9_write_24 ?_
        refine V_icmp_ge (tgt := 51) hC (by omega) (by omega) dX9_write_27 (by decide) (fun c27 => ?_) (fun c27 => ?_)
        · refine V_aload_n hC dX9_write_51 rfl 0 rfl ?_
          refine V_get (ci := 9) (v := .int (nI ((sB (cM p b g n e)).length))) hC in_X9 0 rfl cls_X9 19 (by decide) fl_X9_133 rfl dX9_write_52 ?_
          subst hQ
          exact V_iret hC hr hlk rfl (by decide) (by decide) dX9_write_55 ((fb2_1, fc2_2, ft2)) [0, 1, 2, 3, 4, 5] rfl (by decide) (⟨rfl, rep_wT (fun j hj => h3 j (by omega))⟩)
        · refine V_aload_n hC dX9_write_30 rfl 0 rfl ?_
          refine V_get (ci := 9) (v := .ref tx) hC in_X9 0 rfl cls_X9 18 (by decide) fl_X9_31 rfl dX9_write_31 ?_
          refine V_iload_n hC dX9_write_34 rfl 1 rfl ?_
          refine V_bipush (v := nI 48) hC dX9_write_35 (by decide) ?_
          refine V_aload_n hC dX9_write_37 rfl 0 rfl ?_
          refine V_get (ci := 9) (v := .ref bt) hC in_X9 0 rfl cls_X9 9 (by decide) fl_X9_19 rfl dX9_write_38 ?_
          refine V_iload_n hC dX9_write_41 rfl 1 rfl ?_
          refine V_iald hC 3 0 rfl rfl (by omega) (by decide) dX9_write_42 ?_
          refine V_iadd hC dX9_write_43 ?_
          refine V_iast hC 5 0 rfl rfl (by omega) (by decide) dX9_write_44 (ws2 := [(m9, .inr (9, [.ref al, .ref hs, .int (nI hL), .ref ct, .int (nI (sT (cM p b g n e))), .int (nI (sH (cM p b g n e))), .int (nI (sL (cM p b g n e))), .int (nI (sU (cM p b g n e))), .int (nI (sW (cM p b g n e))), .ref bt, .int (nI ((sB (cM p b g n e)).length)), .ref cs, .ref gv, .int (nI gL), .int (nI tk), .int (nI vv), .ref rd, .int (nI rM), .ref tx, .int (nI ((sB (cM p b g n e)).length)), .int (nI pl)])), (al, .inl (cI, 44, .inl (fun j => nI ((allF g n e p b) j)))), (ct, .inl (cI, 9, .inl (fun j => nI ((sF (cM p b g n e)) j)))), (bt, .inl (cI, 1400, .inl (fun j => nI (fb2_1 j)))), (cs, .inl (cI, 40, .inl (fun j => nI (fc2_2 j)))), (tx, .inl (cI, 120, .inl (fun j => nI ((va_up ft2 i (48 + (fb2_1 i))) j))))]) rfl ?_
          refine V_iinc (v := (nI (i + 1))) (lv2 := [(0, .ref m9), (1, .int (nI (i + 1)))]) (q := 1) hC dX9_write_45 rfl (nI_add _ _) (by decide) [1, 0] rfl ?_
          refine V_goto (tgt := 22) hC dX9_write_48 (by decide) ?_
          exact ih22 (i + 1) (va_up ft2 i (48 + (fb2_1 i))) (by omega) (lt_s (fun j hj => by rw [va_up_ne ft2 _ (show j ≠ i by omega)]; exact h3 j hj) (by rw [va_up_self, h1.1 i (by omega)])) (by omega)
    exact L22 _ 0 ft (by omega) (fun j hj => absurd hj (Nat.not_lt_zero j)) (Nat.lt_succ_self _)
  · exact False.elim (by omega)
abbrev rm_X9_fault_neg : Room := { frames := 1, cells := 0, slots := 0, locals := 25 }
set_option maxHeartbeats 4000000 in
set_option maxRecDepth 100000 in
theorem c_X9_fault_neg (l : Launch) (D : va_G) (cI cQ : ClassId) (m9 al hs hL ct tt hv lo hi wt bt bL cs gv gL tk vv rd rM tx tL pl : Nat) (x : Int32) (hx : x.toInt < 0) : MI l yX9_fault cX9_fault 3 (some .int) rm_X9_fault_neg D (TY cI cQ) [.ref m9, .int (x)] [(m9, .inr (9, [.ref al, .ref hs, .int (nI hL), .ref ct, .int (nI tt), .int (nI hv), .int (nI lo), .int (nI hi), .int (nI wt), .ref bt, .int (nI bL), .ref cs, .ref gv, .int (nI gL), .int (nI tk), .int (nI vv), .ref rd, .int (nI rM), .ref tx, .int (nI tL), .int (nI pl)]))] (fun (r9 : Int32) (u : Unit) => r9 = (-1) ∧ (True)) (fun (u : Unit) => [(m9, .inr (9, [.ref al, .ref hs, .int (nI hL), .ref ct, .int (nI tt), .int (nI hv), .int (nI lo), .int (nI hi), .int (nI wt), .ref bt, .int (nI bL), .ref cs, .ref gv, .int (nI gL), .int (nI tk), .int (nI vv), .ref rd, .int (nI rM), .ref tx, .int (nI tL), .int (nI pl)]))]) 0 0 := by
  refine MI.start (by decide) (Nat.le_of_ble_eq_true rfl) (lv0 := [(0, .ref m9), (1, .int (x))]) rfl ?_
  intro pp9 ee9 ss9 mm9 args9 below9 meth9 co9 A9 Q9 hQ hC hr hlk hnm
  refine V_iload_n hC dX9_fault_0 rfl 1 rfl ?_
  refine V_i2l (v := (x).toInt64) hC dX9_fault_1 rfl ?_
  refine V_lconst (v := lN 0) hC dX9_fault_2 rfl ?_
  refine V_lconst (v := lN 1) hC dX9_fault_3 rfl ?_
  refine V_calliS (As := [.long ((x).toInt64), .long (lN 0), .long (lN 1)]) (rest := []) (wr := [(m9, .inr (9, [.ref al, .ref hs, .int (nI hL), .ref ct, .int (nI tt), .int (nI hv), .int (nI lo), .int (nI hi), .int (nI wt), .ref bt, .int (nI bL), .ref cs, .ref gv, .int (nI gL), .int (nI tk), .int (nI vv), .ref rd, .int (nI rM), .ref tx, .int (nI tL), .int (nI pl)]))]) hC (c_X9_in_neg l D cI cQ x 0 1 (hx) (by omega)) mok_X9_in ml_X9_102 rfl rfl rfl (by decide) (by decide) (by decide) (Nat.le_of_ble_eq_true rfl) [] [0] rfl (by decide) rfl (by decide) (by decide) dX9_fault_4 rfl (fun r9 u9 h4 => ?_)
  obtain ⟨rfl, h4⟩ := h4
  clear h4
  refine V_perm (ws2 := [(m9, .inr (9, [.ref al, .ref hs, .int (nI hL), .ref ct, .int (nI tt), .int (nI hv), .int (nI lo), .int (nI hi), .int (nI wt), .ref bt, .int (nI bL), .ref cs, .ref gv, .int (nI gL), .int (nI tk), .int (nI vv), .ref rd, .int (nI rM), .ref tx, .int (nI tL), .int (nI pl)]))]) [0] rfl (by decide) ?_
  refine V_if_ne_F (tgt := 12) hC dX9_fault_7 (by decide) ((congrArg nI (show 0 = 0 by omega)).trans nI_0) ?_
  refine V_iconst (v := -1) hC dX9_fault_10 (by decide) ?_
  subst hQ
  exact V_iret hC hr hlk rfl (by decide) (by decide) dX9_fault_11 (()) [0] rfl (by decide) (⟨rfl, trivial⟩)
abbrev rm_X9_fault_bad : Room := { frames := 1, cells := 0, slots := 0, locals := 25 }
set_option maxHeartbeats 4000000 in
set_option maxRecDepth 100000 in
theorem c_X9_fault_bad (l : Launch) (D : va_G) (cI cQ : ClassId) (m9 al hs hL ct tt hv lo hi wt bt bL cs gv gL tk vv rd rM tx tL pl x : Nat) (hx : 1 < x ∧ x < 2147483648) : MI l yX9_fault cX9_fault 3 (some .int) rm_X9_fault_bad D (TY cI cQ) [.ref m9, .int (nI x)] [(m9, .inr (9, [.ref al, .ref hs, .int (nI hL), .ref ct, .int (nI tt), .int (nI hv), .int (nI lo), .int (nI hi), .int (nI wt), .ref bt, .int (nI bL), .ref cs, .ref gv, .int (nI gL), .int (nI tk), .int (nI vv), .ref rd, .int (nI rM), .ref tx, .int (nI tL), .int (nI pl)]))] (fun (r9 : Int32) (u : Unit) => r9 = (-1) ∧ (True)) (fun (u : Unit) => [(m9, .inr (9, [.ref al, .ref hs, .int (nI hL), .ref ct, .int (nI tt), .int (nI hv), .int (nI lo), .int (nI hi), .int (nI wt), .ref bt, .int (nI bL), .ref cs, .ref gv, .int (nI gL), .int (nI tk), .int (nI vv), .ref rd, .int (nI rM), .ref tx, .int (nI tL), .int (nI pl)]))]) 0 0 := by
  refine MI.start (by decide) (Nat.le_of_ble_eq_true rfl) (lv0 := [(0, .ref m9), (1, .int (nI x))]) rfl ?_
  intro pp9 ee9 ss9 mm9 args9 below9 meth9 co9 A9 Q9 hQ hC hr hlk hnm
  refine V_iload_n hC dX9_fault_0 rfl 1 rfl ?_
  refine V_i2l (v := lN x) hC dX9_fault_1 (nI_l (by omega)) ?_
  refine V_lconst (v := lN 0) hC dX9_fault_2 rfl ?_
  refine V_lconst (v := lN 1) hC dX9_fault_3 rfl ?_
  refine V_calliS (As := [.long (lN x), .long (lN 0), .long (lN 1)]) (rest := []) (wr := [(m9, .inr (9, [.ref al, .ref hs, .int (nI hL), .ref ct, .int (nI tt), .int (nI hv), .int (nI lo), .int (nI hi), .int (nI wt), .ref bt, .int (nI bL), .ref cs, .ref gv, .int (nI gL), .int (nI tk), .int (nI vv), .ref rd, .int (nI rM), .ref tx, .int (nI tL), .int (nI pl)]))]) hC (c_X9_in l D cI cQ x 0 1 (by omega) (by omega) (by omega)) mok_X9_in ml_X9_102 rfl rfl rfl (by decide) (by decide) (by decide) (Nat.le_of_ble_eq_true rfl) [] [0] rfl (by decide) rfl (by decide) (by decide) dX9_fault_4 rfl (fun r9 u9 h4 => ?_)
  obtain ⟨u_1, rfl⟩ : ∃ z, z = u9 := ⟨_, rfl⟩
  obtain ⟨rfl, h4⟩ := h4
  have h4 : (u_1 = 1 ∧ 0 ≤ x ∧ x ≤ 1) ∨ (u_1 = 0 ∧ (x < 0 ∨ 1 < x)) := h4
  refine V_perm (ws2 := [(m9, .inr (9, [.ref al, .ref hs, .int (nI hL), .ref ct, .int (nI tt), .int (nI hv), .int (nI lo), .int (nI hi), .int (nI wt), .ref bt, .int (nI bL), .ref cs, .ref gv, .int (nI gL), .int (nI tk), .int (nI vv), .ref rd, .int (nI rM), .ref tx, .int (nI tL), .int (nI pl)]))]) [0] rfl (by decide) ?_
  refine V_if_ne (tgt := 12) hC (by omega) dX9_fault_7 (by decide) (fun c7 => ?_) (fun c7 => ?_)
  · exact False.elim (by omega)
  · refine V_iconst (v := -1) hC dX9_fault_10 (by decide) ?_
    subst hQ
    exact V_iret hC hr hlk rfl (by decide) (by decide) dX9_fault_11 (()) [0] rfl (by decide) (⟨rfl, trivial⟩)
abbrev rm_X9_fault_1a : Room := { frames := 2, cells := 0, slots := 0, locals := 45 }
set_option maxHeartbeats 4000000 in
set_option maxRecDepth 100000 in
theorem c_X9_fault_1a (l : Launch) (D : va_G) (cI cQ : ClassId) (m9 al hs hL ct tt hv lo hi wt bt bL cs gv gL tk vv rd rM tx tL pl n e p b : Nat) (g f fg frd ft : Nat → Nat) (T : List Nat) (hT : rep ft T) (hT1 : T.length ≤ 120) (hT2 : ∀ j, j < T.length → T.getD j 0 < 1000) (hx : stT T < T.length) : MI l yX9_fault cX9_fault 3 (some .int) rm_X9_fault_1a D (TY cI cQ) [.ref m9, .int (nI 0)] [(m9, .inr (9, [.ref al, .ref hs, .int (nI hL), .ref ct, .int (nI tt), .int (nI hv), .int (nI lo), .int (nI hi), .int (nI wt), .ref bt, .int (nI bL), .ref cs, .ref gv, .int (nI gL), .int (nI tk), .int (nI vv), .ref rd, .int (nI rM), .ref tx, .int (nI (T.length)), .int (nI pl)])), (al, .inl (cI, 44, .inl (fun j => nI ((allF g n e p b) j)))), (ct, .inl (cI, 9, .inl (fun j => nI (f j)))), (gv, .inl (cI, 1400, .inl (fun j => nI (fg j)))), (rd, .inl (cI, 40, .inl (fun j => nI (frd j)))), (tx, .inl (cI, 120, .inl (fun j => nI (ft j))))] (fun (r9 : Int32) (u : (Nat → Nat)) => r9 = (nI (stT T)) ∧ (True)) (fun (u : (Nat → Nat)) => [(m9, .inr (9, [.ref al, .ref hs, .int (nI hL), .ref ct, .int (nI tt), .int (nI hv), .int (nI lo), .int (nI hi), .int (nI wt), .ref bt, .int (nI bL), .ref cs, .ref gv, .int (nI gL), .int (nI tk), .int (nI vv), .ref rd, .int (nI rM), .ref tx, .int (nI (T.length)), .int (nI (stT T))])), (al, .inl (cI, 44, .inl (fun j => nI ((allF g n e p b) j)))), (ct, .inl (cI, 9, .inl (fun j => nI (f j)))), (gv, .inl (cI, 1400, .inl (fun j => nI (u j)))), (rd, .inl (cI, 40, .inl (fun j => nI (frd j)))), (tx, .inl (cI, 120, .inl (fun j => nI (ft j))))]) 0 0 := by
  refine MI.start (by decide) (Nat.le_of_ble_eq_true rfl) (lv0 := [(0, .ref m9), (1, .int (nI 0))]) rfl ?_
  intro pp9 ee9 ss9 mm9 args9 below9 meth9 co9 A9 Q9 hQ hC hr hlk hnm
  refine V_iload_n hC dX9_fault_0 rfl 1 rfl ?_
  refine V_i2l (v := lN 0) hC dX9_fault_1 (nI_l (by omega)) ?_
  refine V_lconst (v := lN 0) hC dX9_fault_2 rfl ?_
  refine V_lconst (v := lN 1) hC dX9_fault_3 rfl ?_
  refine V_calliS (As := [.long (lN 0), .long (lN 0), .long (lN 1)]) (rest := []) (wr := [(m9, .inr (9, [.ref al, .ref hs, .int (nI hL), .ref ct, .int (nI tt), .int (nI hv), .int (nI lo), .int (nI hi), .int (nI wt), .ref bt, .int (nI bL), .ref cs, .ref gv, .int (nI gL), .int (nI tk), .int (nI vv), .ref rd, .int (nI rM), .ref tx, .int (nI (T.length)), .int (nI pl)])), (al, .inl (cI, 44, .inl (fun j => nI ((allF g n e p b) j)))), (ct, .inl (cI, 9, .inl (fun j => nI (f j)))), (gv, .inl (cI, 1400, .inl (fun j => nI (fg j)))), (rd, .inl (cI, 40, .inl (fun j => nI (frd j)))), (tx, .inl (cI, 120, .inl (fun j => nI (ft j))))]) hC (c_X9_in l D cI cQ 0 0 1 (by omega) (by omega) (by omega)) mok_X9_in ml_X9_102 rfl rfl rfl (by decide) (by decide) (by decide) (Nat.le_of_ble_eq_true rfl) [] [0, 1, 2, 3, 4, 5] rfl (by decide) rfl (by decide) (by decide) dX9_fault_4 rfl (fun r9 u9 h4 => ?_)
  obtain ⟨u_1, rfl⟩ : ∃ z, z = u9 := ⟨_, rfl⟩
  obtain ⟨rfl, h4⟩ := h4
  have h4 : (u_1 = 1 ∧ 0 ≤ 0 ∧ 0 ≤ 1) ∨ (u_1 = 0 ∧ (0 < 0 ∨ 1 < 0)) := h4
  refine V_perm (ws2 := [(m9, .inr (9, [.ref al, .ref hs, .int (nI hL), .ref ct, .int (nI tt), .int (nI hv), .int (nI lo), .int (nI hi), .int (nI wt), .ref bt, .int (nI bL), .ref cs, .ref gv, .int (nI gL), .int (nI tk), .int (nI vv), .ref rd, .int (nI rM), .ref tx, .int (nI (T.length)), .int (nI pl)])), (al, .inl (cI, 44, .inl (fun j => nI ((allF g n e p b) j)))), (ct, .inl (cI, 9, .inl (fun j => nI (f j)))), (gv, .inl (cI, 1400, .inl (fun j => nI (fg j)))), (rd, .inl (cI, 40, .inl (fun j => nI (frd j)))), (tx, .inl (cI, 120, .inl (fun j => nI (ft j))))]) [0, 1, 2, 3, 4, 5] rfl (by decide) ?_
  refine V_if_ne (tgt := 12) hC (by omega) dX9_fault_7 (by decide) (fun c7 => ?_) (fun c7 => ?_)
  · refine V_aload_n hC dX9_fault_12 rfl 0 rfl ?_
    refine V_calliV (As := []) (rest := []) (wr := []) hC (c_X9_reason_1 l D cI cQ m9 al hs hL ct tt hv lo hi wt bt bL cs gv gL tk vv rd rM tx 0 pl n e p b g f fg frd ft _ (hT) (by omega) (hT2) (by omega)) mok_X9_reason ml_X9_175 (q1 := 0) rfl cls_X9 rfl rfl rfl (by decide) (by decide) (by decide) (Nat.le_of_ble_eq_true rfl) [0, 1, 2, 3, 4, 5] [] rfl (by decide) rfl (by decide) (by decide) dX9_fault_13 rfl (fun r9 u9 h13 => ?_)
    obtain ⟨fg2_2, rfl⟩ : ∃ z, z = u9 := ⟨_, rfl⟩
    obtain ⟨rfl, h13⟩ := h13
    clear h13
    refine V_perm (ws2 := [(m9, .inr (9, [.ref al, .ref hs, .int (nI hL), .ref ct, .int (nI tt), .int (nI hv), .int (nI lo), .int (nI hi), .int (nI wt), .ref bt, .int (nI bL), .ref cs, .ref gv, .int (nI gL), .int (nI tk), .int (nI vv), .ref rd, .int (nI rM), .ref tx, .int (nI (T.length)), .int (nI (stT T))])), (al, .inl (cI, 44, .inl (fun j => nI ((allF g n e p b) j)))), (ct, .inl (cI, 9, .inl (fun j => nI (f j)))), (gv, .inl (cI, 1400, .inl (fun j => nI (fg2_2 j)))), (rd, .inl (cI, 40, .inl (fun j => nI (frd j)))), (tx, .inl (cI, 120, .inl (fun j => nI (ft j))))]) [0, 1, 2, 3, 4, 5] rfl (by decide) ?_
    refine V_istore_n (lv2 := [(0, .ref m9), (1, .int (nI 0)), (2, .int (nI 1))]) hC dX9_fault_16 rfl (by decide) [1, 2, 0] rfl ?_
    refine V_iload_n hC dX9_fault_17 rfl 2 rfl ?_
    refine V_if_ne_T (tgt := 26) hC dX9_fault_18 (by decide) (nI_ne0 (by omega) (by omega)) ?_
    refine V_iload_n hC dX9_fault_26 rfl 1 rfl ?_
    refine V_if_ne_F (tgt := 37) hC dX9_fault_27 (by decide) ((congrArg nI (show 0 = 0 by omega)).trans nI_0) ?_
    refine V_aload_n hC dX9_fault_30 rfl 0 rfl ?_
    refine V_get (ci := 9) (v := .int (nI (stT T))) hC in_X9 0 rfl cls_X9 20 (by decide) fl_X9_168 rfl dX9_fault_31 ?_
    refine V_goto (tgt := 38) hC dX9_fault_34 (by decide) ?_
    subst hQ
    exact V_iret hC hr hlk rfl (by decide) (by decide) dX9_fault_38 (fg2_2) [0, 1, 2, 3, 4, 5] rfl (by decide) (⟨rfl, trivial⟩)
  · exact False.elim (by omega)
abbrev rm_X9_fault_1b : Room := { frames := 2, cells := 0, slots := 0, locals := 45 }
set_option maxHeartbeats 4000000 in
set_option maxRecDepth 100000 in
theorem c_X9_fault_1b (l : Launch) (D : va_G) (cI cQ : ClassId) (m9 al hs hL ct tt hv lo hi wt bt bL cs gv gL tk vv rd rM tx tL pl n e p b : Nat) (g f fg frd ft : Nat → Nat) (T : List Nat) (hT : rep ft T) (hT1 : T.length ≤ 120) (hT2 : ∀ j, j < T.length → T.getD j 0 < 1000) (hx : stT T < T.length) : MI l yX9_fault cX9_fault 3 (some .int) rm_X9_fault_1b D (TY cI cQ) [.ref m9, .int (nI 1)] [(m9, .inr (9, [.ref al, .ref hs, .int (nI hL), .ref ct, .int (nI tt), .int (nI hv), .int (nI lo), .int (nI hi), .int (nI wt), .ref bt, .int (nI bL), .ref cs, .ref gv, .int (nI gL), .int (nI tk), .int (nI vv), .ref rd, .int (nI rM), .ref tx, .int (nI (T.length)), .int (nI pl)])), (al, .inl (cI, 44, .inl (fun j => nI ((allF g n e p b) j)))), (ct, .inl (cI, 9, .inl (fun j => nI (f j)))), (gv, .inl (cI, 1400, .inl (fun j => nI (fg j)))), (rd, .inl (cI, 40, .inl (fun j => nI (frd j)))), (tx, .inl (cI, 120, .inl (fun j => nI (ft j))))] (fun (r9 : Int32) (u : (Nat → Nat)) => r9 = (nI 1) ∧ (True)) (fun (u : (Nat → Nat)) => [(m9, .inr (9, [.ref al, .ref hs, .int (nI hL), .ref ct, .int (nI tt), .int (nI hv), .int (nI lo), .int (nI hi), .int (nI wt), .ref bt, .int (nI bL), .ref cs, .ref gv, .int (nI gL), .int (nI tk), .int (nI vv), .ref rd, .int (nI rM), .ref tx, .int (nI (T.length)), .int (nI (stT T))])), (al, .inl (cI, 44, .inl (fun j => nI ((allF g n e p b) j)))), (ct, .inl (cI, 9, .inl (fun j => nI (f j)))), (gv, .inl (cI, 1400, .inl (fun j => nI (u j)))), (rd, .inl (cI, 40, .inl (fun j => nI (frd j)))), (tx, .inl (cI, 120, .inl (fun j => nI (ft j))))]) 0 0 := by
  refine MI.start (by decide) (Nat.le_of_ble_eq_true rfl) (lv0 := [(0, .ref m9), (1, .int (nI 1))]) rfl ?_
  intro pp9 ee9 ss9 mm9 args9 below9 meth9 co9 A9 Q9 hQ hC hr hlk hnm
  refine V_iload_n hC dX9_fault_0 rfl 1 rfl ?_
  refine V_i2l (v := lN 1) hC dX9_fault_1 (nI_l (by omega)) ?_
  refine V_lconst (v := lN 0) hC dX9_fault_2 rfl ?_
  refine V_lconst (v := lN 1) hC dX9_fault_3 rfl ?_
  refine V_calliS (As := [.long (lN 1), .long (lN 0), .long (lN 1)]) (rest := []) (wr := [(m9, .inr (9, [.ref al, .ref hs, .int (nI hL), .ref ct, .int (nI tt), .int (nI hv), .int (nI lo), .int (nI hi), .int (nI wt), .ref bt, .int (nI bL), .ref cs, .ref gv, .int (nI gL), .int (nI tk), .int (nI vv), .ref rd, .int (nI rM), .ref tx, .int (nI (T.length)), .int (nI pl)])), (al, .inl (cI, 44, .inl (fun j => nI ((allF g n e p b) j)))), (ct, .inl (cI, 9, .inl (fun j => nI (f j)))), (gv, .inl (cI, 1400, .inl (fun j => nI (fg j)))), (rd, .inl (cI, 40, .inl (fun j => nI (frd j)))), (tx, .inl (cI, 120, .inl (fun j => nI (ft j))))]) hC (c_X9_in l D cI cQ 1 0 1 (by omega) (by omega) (by omega)) mok_X9_in ml_X9_102 rfl rfl rfl (by decide) (by decide) (by decide) (Nat.le_of_ble_eq_true rfl) [] [0, 1, 2, 3, 4, 5] rfl (by decide) rfl (by decide) (by decide) dX9_fault_4 rfl (fun r9 u9 h4 => ?_)
  obtain ⟨u_1, rfl⟩ : ∃ z, z = u9 := ⟨_, rfl⟩
  obtain ⟨rfl, h4⟩ := h4
  have h4 : (u_1 = 1 ∧ 0 ≤ 1 ∧ 1 ≤ 1) ∨ (u_1 = 0 ∧ (1 < 0 ∨ 1 < 1)) := h4
  refine V_perm (ws2 := [(m9, .inr (9, [.ref al, .ref hs, .int (nI hL), .ref ct, .int (nI tt), .int (nI hv), .int (nI lo), .int (nI hi), .int (nI wt), .ref bt, .int (nI bL), .ref cs, .ref gv, .int (nI gL), .int (nI tk), .int (nI vv), .ref rd, .int (nI rM), .ref tx, .int (nI (T.length)), .int (nI pl)])), (al, .inl (cI, 44, .inl (fun j => nI ((allF g n e p b) j)))), (ct, .inl (cI, 9, .inl (fun j => nI (f j)))), (gv, .inl (cI, 1400, .inl (fun j => nI (fg j)))), (rd, .inl (cI, 40, .inl (fun j => nI (frd j)))), (tx, .inl (cI, 120, .inl (fun j => nI (ft j))))]) [0, 1, 2, 3, 4, 5] rfl (by decide) ?_
  refine V_if_ne (tgt := 12) hC (by omega) dX9_fault_7 (by decide) (fun c7 => ?_) (fun c7 => ?_)
  · refine V_aload_n hC dX9_fault_12 rfl 0 rfl ?_
    refine V_calliV (As := []) (rest := []) (wr := []) hC (c_X9_reason_1 l D cI cQ m9 al hs hL ct tt hv lo hi wt bt bL cs gv gL tk vv rd rM tx 0 pl n e p b g f fg frd ft _ (hT) (by omega) (hT2) (by omega)) mok_X9_reason ml_X9_175 (q1 := 0) rfl cls_X9 rfl rfl rfl (by decide) (by decide) (by decide) (Nat.le_of_ble_eq_true rfl) [0, 1, 2, 3, 4, 5] [] rfl (by decide) rfl (by decide) (by decide) dX9_fault_13 rfl (fun r9 u9 h13 => ?_)
    obtain ⟨fg2_2, rfl⟩ : ∃ z, z = u9 := ⟨_, rfl⟩
    obtain ⟨rfl, h13⟩ := h13
    clear h13
    refine V_perm (ws2 := [(m9, .inr (9, [.ref al, .ref hs, .int (nI hL), .ref ct, .int (nI tt), .int (nI hv), .int (nI lo), .int (nI hi), .int (nI wt), .ref bt, .int (nI bL), .ref cs, .ref gv, .int (nI gL), .int (nI tk), .int (nI vv), .ref rd, .int (nI rM), .ref tx, .int (nI (T.length)), .int (nI (stT T))])), (al, .inl (cI, 44, .inl (fun j => nI ((allF g n e p b) j)))), (ct, .inl (cI, 9, .inl (fun j => nI (f j)))), (gv, .inl (cI, 1400, .inl (fun j => nI (fg2_2 j)))), (rd, .inl (cI, 40, .inl (fun j => nI (frd j)))), (tx, .inl (cI, 120, .inl (fun j => nI (ft j))))]) [0, 1, 2, 3, 4, 5] rfl (by decide) ?_
    refine V_istore_n (lv2 := [(0, .ref m9), (1, .int (nI 1)), (2, .int (nI 1))]) hC dX9_fault_16 rfl (by decide) [1, 2, 0] rfl ?_
    refine V_iload_n hC dX9_fault_17 rfl 2 rfl ?_
    refine V_if_ne_T (tgt := 26) hC dX9_fault_18 (by decide) (nI_ne0 (by omega) (by omega)) ?_
    refine V_iload_n hC dX9_fault_26 rfl 1 rfl ?_
    refine V_if_ne_T (tgt := 37) hC dX9_fault_27 (by decide) (nI_ne0 (by omega) (by omega)) ?_
    refine V_iload_n hC dX9_fault_37 rfl 2 rfl ?_
    subst hQ
    exact V_iret hC hr hlk rfl (by decide) (by decide) dX9_fault_38 (fg2_2) [0, 1, 2, 3, 4, 5] rfl (by decide) (⟨rfl, trivial⟩)
  · exact False.elim (by omega)
abbrev rm_X9_fault_0 : Room := { frames := 4, cells := 0, slots := 0, locals := 88 }
set_option maxHeartbeats 4000000 in
set_option maxRecDepth 100000 in
theorem c_X9_fault_0 (l : Launch) (D : va_G) (cI cQ : ClassId) (m9 al hs hL ct tt hv lo hi wt bt bL cs gv gL tk vv rd rM tx tL pl n e p b : Nat) (g f fg frd ft : Nat → Nat) (T : List Nat) (hT : rep ft T) (hT1 : T.length ≤ 120) (hT2 : ∀ j, j < T.length → T.getD j 0 < 1000) (hx : T.length ≤ stT T) (hp : p ≤ 64) (hb : b ≤ 2000) (hfr : frn p b T = 0) : MI l yX9_fault cX9_fault 3 (some .int) rm_X9_fault_0 D (TY cI cQ) [.ref m9, .int (nI 0)] [(m9, .inr (9, [.ref al, .ref hs, .int (nI hL), .ref ct, .int (nI tt), .int (nI hv), .int (nI lo), .int (nI hi), .int (nI wt), .ref bt, .int (nI bL), .ref cs, .ref gv, .int (nI gL), .int (nI tk), .int (nI vv), .ref rd, .int (nI rM), .ref tx, .int (nI (T.length)), .int (nI pl)])), (al, .inl (cI, 44, .inl (fun j => nI ((allF g n e p b) j)))), (ct, .inl (cI, 9, .inl (fun j => nI (f j)))), (gv, .inl (cI, 1400, .inl (fun j => nI (fg j)))), (rd, .inl (cI, 40, .inl (fun j => nI (frd j)))), (tx, .inl (cI, 120, .inl (fun j => nI (ft j))))] (fun (r9 : Int32) (u : (Nat → Nat) × (Nat → Nat) × (Nat)) => r9 = (-4) ∧ (True)) (fun (u : (Nat → Nat) × (Nat → Nat) × (Nat)) => [(m9, .inr (9, [.ref al, .ref hs, .int (nI hL), .ref ct, .int (nI (qT ((rdF p b (bT T)).2))), .int (nI (qH ((rdF p b (bT T)).2))), .int (nI (qL ((rdF p b (bT T)).2))), .int (nI (qU ((rdF p b (bT T)).2))), .int (nI wt), .ref bt, .int (nI bL), .ref cs, .ref gv, .int (nI (T.length)), .int (nI (qK ((rdF p b (bT T)).2))), .int (nI (qV ((rdF p b (bT T)).2))), .ref rd, .int (nI ((qR ((rdF p b (bT T)).2)).length)), .ref tx, .int (nI (T.length)), .int (nI (u.2.2))])), (al, .inl (cI, 44, .inl (fun j => nI ((allF g n e p b) j)))), (ct, .inl (cI, 9, .inl (fun j => nI ((qF ((rdF p b (bT T)).2)) j)))), (gv, .inl (cI, 1400, .inl (fun j => nI (u.1 j)))), (rd, .inl (cI, 40, .inl (fun j => nI (u.2.1 j)))), (tx, .inl (cI, 120, .inl (fun j => nI (ft j))))]) 0 0 := by
  refine MI.start (by decide) (Nat.le_of_ble_eq_true rfl) (lv0 := [(0, .ref m9), (1, .int (nI 0))]) rfl ?_
  intro pp9 ee9 ss9 mm9 args9 below9 meth9 co9 A9 Q9 hQ hC hr hlk hnm
  refine V_iload_n hC dX9_fault_0 rfl 1 rfl ?_
  refine V_i2l (v := lN 0) hC dX9_fault_1 (nI_l (by omega)) ?_
  refine V_lconst (v := lN 0) hC dX9_fault_2 rfl ?_
  refine V_lconst (v := lN 1) hC dX9_fault_3 rfl ?_
  refine V_calliS (As := [.long (lN 0), .long (lN 0), .long (lN 1)]) (rest := []) (wr := [(m9, .inr (9, [.ref al, .ref hs, .int (nI hL), .ref ct, .int (nI tt), .int (nI hv), .int (nI lo), .int (nI hi), .int (nI wt), .ref bt, .int (nI bL), .ref cs, .ref gv, .int (nI gL), .int (nI tk), .int (nI vv), .ref rd, .int (nI rM), .ref tx, .int (nI (T.length)), .int (nI pl)])), (al, .inl (cI, 44, .inl (fun j => nI ((allF g n e p b) j)))), (ct, .inl (cI, 9, .inl (fun j => nI (f j)))), (gv, .inl (cI, 1400, .inl (fun j => nI (fg j)))), (rd, .inl (cI, 40, .inl (fun j => nI (frd j)))), (tx, .inl (cI, 120, .inl (fun j => nI (ft j))))]) hC (c_X9_in l D cI cQ 0 0 1 (by omega) (by omega) (by omega)) mok_X9_in ml_X9_102 rfl rfl rfl (by decide) (by decide) (by decide) (Nat.le_of_ble_eq_true rfl) [] [0, 1, 2, 3, 4, 5] rfl (by decide) rfl (by decide) (by decide) dX9_fault_4 rfl (fun r9 u9 h4 => ?_)
  obtain ⟨u_1, rfl⟩ : ∃ z, z = u9 := ⟨_, rfl⟩
  obtain ⟨rfl, h4⟩ := h4
  have h4 : (u_1 = 1 ∧ 0 ≤ 0 ∧ 0 ≤ 1) ∨ (u_1 = 0 ∧ (0 < 0 ∨ 1 < 0)) := h4
  refine V_perm (ws2 := [(m9, .inr (9, [.ref al, .ref hs, .int (nI hL), .ref ct, .int (nI tt), .int (nI hv), .int (nI lo), .int (nI hi), .int (nI wt), .ref bt, .int (nI bL), .ref cs, .ref gv, .int (nI gL), .int (nI tk), .int (nI vv), .ref rd, .int (nI rM), .ref tx, .int (nI (T.length)), .int (nI pl)])), (al, .inl (cI, 44, .inl (fun j => nI ((allF g n e p b) j)))), (ct, .inl (cI, 9, .inl (fun j => nI (f j)))), (gv, .inl (cI, 1400, .inl (fun j => nI (fg j)))), (rd, .inl (cI, 40, .inl (fun j => nI (frd j)))), (tx, .inl (cI, 120, .inl (fun j => nI (ft j))))]) [0, 1, 2, 3, 4, 5] rfl (by decide) ?_
  refine V_if_ne (tgt := 12) hC (by omega) dX9_fault_7 (by decide) (fun c7 => ?_) (fun c7 => ?_)
  · refine V_aload_n hC dX9_fault_12 rfl 0 rfl ?_
    refine V_calliV (As := []) (rest := []) (wr := []) hC (c_X9_reason_n l D cI cQ m9 al hs hL ct tt hv lo hi wt bt bL cs gv gL tk vv rd rM tx 0 pl n e p b g f fg frd ft _ (hT) (by omega) (hT2) (by omega) (by omega) (by omega)) mok_X9_reason ml_X9_175 (q1 := 0) rfl cls_X9 rfl rfl rfl (by decide) (by decide) (by decide) (Nat.le_of_ble_eq_true rfl) [0, 1, 2, 3, 4, 5] [] rfl (by decide) rfl (by decide) (by decide) dX9_fault_13 rfl (fun r9 u9 h13 => ?_)
    obtain ⟨fg2_2, frd2_3, pl2_4⟩ := u9
    obtain ⟨rfl, h13⟩ := h13
    have h13 : rep frd2_3 (qR (rdF p b (bT T)).2) ∧ (frn p b T = 2 → pl2_4 = T.length) ∧ (frn p b T = 3 → pl2_4 = fO (bT T) T.length (qK (rdF p b (bT T)).2)) := h13
    refine V_perm (ws2 := [(m9, .inr (9, [.ref al, .ref hs, .int (nI hL), .ref ct, .int (nI (qT ((rdF p b (bT T)).2))), .int (nI (qH ((rdF p b (bT T)).2))), .int (nI (qL ((rdF p b (bT T)).2))), .int (nI (qU ((rdF p b (bT T)).2))), .int (nI wt), .ref bt, .int (nI bL), .ref cs, .ref gv, .int (nI (T.length)), .int (nI (qK ((rdF p b (bT T)).2))), .int (nI (qV ((rdF p b (bT T)).2))), .ref rd, .int (nI ((qR ((rdF p b (bT T)).2)).length)), .ref tx, .int (nI (T.length)), .int (nI pl2_4)])), (al, .inl (cI, 44, .inl (fun j => nI ((allF g n e p b) j)))), (ct, .inl (cI, 9, .inl (fun j => nI ((qF ((rdF p b (bT T)).2)) j)))), (gv, .inl (cI, 1400, .inl (fun j => nI (fg2_2 j)))), (rd, .inl (cI, 40, .inl (fun j => nI (frd2_3 j)))), (tx, .inl (cI, 120, .inl (fun j => nI (ft j))))]) [0, 1, 2, 3, 4, 5] rfl (by decide) ?_
    refine V_st (st2 := [.int (nI 0)]) (by rw [show (frn p b T) = (0) from hfr]) ?_
    refine V_istore_n (lv2 := [(0, .ref m9), (1, .int (nI 0)), (2, .int (nI 0))]) hC dX9_fault_16 rfl (by decide) [1, 2, 0] rfl ?_
    refine V_iload_n hC dX9_fault_17 rfl 2 rfl ?_
    refine V_if_ne_F (tgt := 26) hC dX9_fault_18 (by decide) ((congrArg nI (show 0 = 0 by omega)).trans nI_0) ?_
    refine V_bipush (v := -4) hC dX9_fault_21 (by decide) ?_
    refine V_goto (tgt := 38) hC dX9_fault_23 (by decide) ?_
    subst hQ
    exact V_iret hC hr hlk rfl (by decide) (by decide) dX9_fault_38 ((fg2_2, frd2_3, pl2_4)) [0, 1, 2, 3, 4, 5] rfl (by decide) (⟨rfl, trivial⟩)
  · exact False.elim (by omega)
abbrev rm_X9_fault_0b : Room := { frames := 4, cells := 0, slots := 0, locals := 88 }
set_option maxHeartbeats 4000000 in
set_option maxRecDepth 100000 in
theorem c_X9_fault_0b (l : Launch) (D : va_G) (cI cQ : ClassId) (m9 al hs hL ct tt hv lo hi wt bt bL cs gv gL tk vv rd rM tx tL pl n e p b : Nat) (g f fg frd ft : Nat → Nat) (T : List Nat) (hT : rep ft T) (hT1 : T.length ≤ 120) (hT2 : ∀ j, j < T.length → T.getD j 0 < 1000) (hx : T.length ≤ stT T) (hp : p ≤ 64) (hb : b ≤ 2000) (hfr : frn p b T = 0) : MI l yX9_fault cX9_fault 3 (some .int) rm_X9_fault_0b D (TY cI cQ) [.ref m9, .int (nI 1)] [(m9, .inr (9, [.ref al, .ref hs, .int (nI hL), .ref ct, .int (nI tt), .int (nI hv), .int (nI lo), .int (nI hi), .int (nI wt), .ref bt, .int (nI bL), .ref cs, .ref gv, .int (nI gL), .int (nI tk), .int (nI vv), .ref rd, .int (nI rM), .ref tx, .int (nI (T.length)), .int (nI pl)])), (al, .inl (cI, 44, .inl (fun j => nI ((allF g n e p b) j)))), (ct, .inl (cI, 9, .inl (fun j => nI (f j)))), (gv, .inl (cI, 1400, .inl (fun j => nI (fg j)))), (rd, .inl (cI, 40, .inl (fun j => nI (frd j)))), (tx, .inl (cI, 120, .inl (fun j => nI (ft j))))] (fun (r9 : Int32) (u : (Nat → Nat) × (Nat → Nat) × (Nat)) => r9 = (-4) ∧ (True)) (fun (u : (Nat → Nat) × (Nat → Nat) × (Nat)) => [(m9, .inr (9, [.ref al, .ref hs, .int (nI hL), .ref ct, .int (nI (qT ((rdF p b (bT T)).2))), .int (nI (qH ((rdF p b (bT T)).2))), .int (nI (qL ((rdF p b (bT T)).2))), .int (nI (qU ((rdF p b (bT T)).2))), .int (nI wt), .ref bt, .int (nI bL), .ref cs, .ref gv, .int (nI (T.length)), .int (nI (qK ((rdF p b (bT T)).2))), .int (nI (qV ((rdF p b (bT T)).2))), .ref rd, .int (nI ((qR ((rdF p b (bT T)).2)).length)), .ref tx, .int (nI (T.length)), .int (nI (u.2.2))])), (al, .inl (cI, 44, .inl (fun j => nI ((allF g n e p b) j)))), (ct, .inl (cI, 9, .inl (fun j => nI ((qF ((rdF p b (bT T)).2)) j)))), (gv, .inl (cI, 1400, .inl (fun j => nI (u.1 j)))), (rd, .inl (cI, 40, .inl (fun j => nI (u.2.1 j)))), (tx, .inl (cI, 120, .inl (fun j => nI (ft j))))]) 0 0 := by
  refine MI.start (by decide) (Nat.le_of_ble_eq_true rfl) (lv0 := [(0, .ref m9), (1, .int (nI 1))]) rfl ?_
  intro pp9 ee9 ss9 mm9 args9 below9 meth9 co9 A9 Q9 hQ hC hr hlk hnm
  refine V_iload_n hC dX9_fault_0 rfl 1 rfl ?_
  refine V_i2l (v := lN 1) hC dX9_fault_1 (nI_l (by omega)) ?_
  refine V_lconst (v := lN 0) hC dX9_fault_2 rfl ?_
  refine V_lconst (v := lN 1) hC dX9_fault_3 rfl ?_
  refine V_calliS (As := [.long (lN 1), .long (lN 0), .long (lN 1)]) (rest := []) (wr := [(m9, .inr (9, [.ref al, .ref hs, .int (nI hL), .ref ct, .int (nI tt), .int (nI hv), .int (nI lo), .int (nI hi), .int (nI wt), .ref bt, .int (nI bL), .ref cs, .ref gv, .int (nI gL), .int (nI tk), .int (nI vv), .ref rd, .int (nI rM), .ref tx, .int (nI (T.length)), .int (nI pl)])), (al, .inl (cI, 44, .inl (fun j => nI ((allF g n e p b) j)))), (ct, .inl (cI, 9, .inl (fun j => nI (f j)))), (gv, .inl (cI, 1400, .inl (fun j => nI (fg j)))), (rd, .inl (cI, 40, .inl (fun j => nI (frd j)))), (tx, .inl (cI, 120, .inl (fun j => nI (ft j))))]) hC (c_X9_in l D cI cQ 1 0 1 (by omega) (by omega) (by omega)) mok_X9_in ml_X9_102 rfl rfl rfl (by decide) (by decide) (by decide) (Nat.le_of_ble_eq_true rfl) [] [0, 1, 2, 3, 4, 5] rfl (by decide) rfl (by decide) (by decide) dX9_fault_4 rfl (fun r9 u9 h4 => ?_)
  obtain ⟨u_1, rfl⟩ : ∃ z, z = u9 := ⟨_, rfl⟩
  obtain ⟨rfl, h4⟩ := h4
  have h4 : (u_1 = 1 ∧ 0 ≤ 1 ∧ 1 ≤ 1) ∨ (u_1 = 0 ∧ (1 < 0 ∨ 1 < 1)) := h4
  refine V_perm (ws2 := [(m9, .inr (9, [.ref al, .ref hs, .int (nI hL), .ref ct, .int (nI tt), .int (nI hv), .int (nI lo), .int (nI hi), .int (nI wt), .ref bt, .int (nI bL), .ref cs, .ref gv, .int (nI gL), .int (nI tk), .int (nI vv), .ref rd, .int (nI rM), .ref tx, .int (nI (T.length)), .int (nI pl)])), (al, .inl (cI, 44, .inl (fun j => nI ((allF g n e p b) j)))), (ct, .inl (cI, 9, .inl (fun j => nI (f j)))), (gv, .inl (cI, 1400, .inl (fun j => nI (fg j)))), (rd, .inl (cI, 40, .inl (fun j => nI (frd j)))), (tx, .inl (cI, 120, .inl (fun j => nI (ft j))))]) [0, 1, 2, 3, 4, 5] rfl (by decide) ?_
  refine V_if_ne (tgt := 12) hC (by omega) dX9_fault_7 (by decide) (fun c7 => ?_) (fun c7 => ?_)
  · refine V_aload_n hC dX9_fault_12 rfl 0 rfl ?_
    refine V_calliV (As := []) (rest := []) (wr := []) hC (c_X9_reason_n l D cI cQ m9 al hs hL ct tt hv lo hi wt bt bL cs gv gL tk vv rd rM tx 0 pl n e p b g f fg frd ft _ (hT) (by omega) (hT2) (by omega) (by omega) (by omega)) mok_X9_reason ml_X9_175 (q1 := 0) rfl cls_X9 rfl rfl rfl (by decide) (by decide) (by decide) (Nat.le_of_ble_eq_true rfl) [0, 1, 2, 3, 4, 5] [] rfl (by decide) rfl (by decide) (by decide) dX9_fault_13 rfl (fun r9 u9 h13 => ?_)
    obtain ⟨fg2_2, frd2_3, pl2_4⟩ := u9
    obtain ⟨rfl, h13⟩ := h13
    have h13 : rep frd2_3 (qR (rdF p b (bT T)).2) ∧ (frn p b T = 2 → pl2_4 = T.length) ∧ (frn p b T = 3 → pl2_4 = fO (bT T) T.length (qK (rdF p b (bT T)).2)) := h13
    refine V_perm (ws2 := [(m9, .inr (9, [.ref al, .ref hs, .int (nI hL), .ref ct, .int (nI (qT ((rdF p b (bT T)).2))), .int (nI (qH ((rdF p b (bT T)).2))), .int (nI (qL ((rdF p b (bT T)).2))), .int (nI (qU ((rdF p b (bT T)).2))), .int (nI wt), .ref bt, .int (nI bL), .ref cs, .ref gv, .int (nI (T.length)), .int (nI (qK ((rdF p b (bT T)).2))), .int (nI (qV ((rdF p b (bT T)).2))), .ref rd, .int (nI ((qR ((rdF p b (bT T)).2)).length)), .ref tx, .int (nI (T.length)), .int (nI pl2_4)])), (al, .inl (cI, 44, .inl (fun j => nI ((allF g n e p b) j)))), (ct, .inl (cI, 9, .inl (fun j => nI ((qF ((rdF p b (bT T)).2)) j)))), (gv, .inl (cI, 1400, .inl (fun j => nI (fg2_2 j)))), (rd, .inl (cI, 40, .inl (fun j => nI (frd2_3 j)))), (tx, .inl (cI, 120, .inl (fun j => nI (ft j))))]) [0, 1, 2, 3, 4, 5] rfl (by decide) ?_
    refine V_st (st2 := [.int (nI 0)]) (by rw [show (frn p b T) = (0) from hfr]) ?_
    refine V_istore_n (lv2 := [(0, .ref m9), (1, .int (nI 1)), (2, .int (nI 0))]) hC dX9_fault_16 rfl (by decide) [1, 2, 0] rfl ?_
    refine V_iload_n hC dX9_fault_17 rfl 2 rfl ?_
    refine V_if_ne_F (tgt := 26) hC dX9_fault_18 (by decide) ((congrArg nI (show 0 = 0 by omega)).trans nI_0) ?_
    refine V_bipush (v := -4) hC dX9_fault_21 (by decide) ?_
    refine V_goto (tgt := 38) hC dX9_fault_23 (by decide) ?_
    subst hQ
    exact V_iret hC hr hlk rfl (by decide) (by decide) dX9_fault_38 ((fg2_2, frd2_3, pl2_4)) [0, 1, 2, 3, 4, 5] rfl (by decide) (⟨rfl, trivial⟩)
  · exact False.elim (by omega)
abbrev rm_X9_fault_2a : Room := { frames := 4, cells := 0, slots := 0, locals := 88 }
set_option maxHeartbeats 4000000 in
set_option maxRecDepth 100000 in
theorem c_X9_fault_2a (l : Launch) (D : va_G) (cI cQ : ClassId) (m9 al hs hL ct tt hv lo hi wt bt bL cs gv gL tk vv rd rM tx tL pl n e p b : Nat) (g f fg frd ft : Nat → Nat) (T : List Nat) (hT : rep ft T) (hT1 : T.length ≤ 120) (hT2 : ∀ j, j < T.length → T.getD j 0 < 1000) (hx : T.length ≤ stT T) (hp : p ≤ 64) (hb : b ≤ 2000) (hfr : frn p b T = 2) : MI l yX9_fault cX9_fault 3 (some .int) rm_X9_fault_2a D (TY cI cQ) [.ref m9, .int (nI 0)] [(m9, .inr (9, [.ref al, .ref hs, .int (nI hL), .ref ct, .int (nI tt), .int (nI hv), .int (nI lo), .int (nI hi), .int (nI wt), .ref bt, .int (nI bL), .ref cs, .ref gv, .int (nI gL), .int (nI tk), .int (nI vv), .ref rd, .int (nI rM), .ref tx, .int (nI (T.length)), .int (nI pl)])), (al, .inl (cI, 44, .inl (fun j => nI ((allF g n e p b) j)))), (ct, .inl (cI, 9, .inl (fun j => nI (f j)))), (gv, .inl (cI, 1400, .inl (fun j => nI (fg j)))), (rd, .inl (cI, 40, .inl (fun j => nI (frd j)))), (tx, .inl (cI, 120, .inl (fun j => nI (ft j))))] (fun (r9 : Int32) (u : (Nat → Nat) × (Nat → Nat) × (Nat)) => r9 = (nI (T.length)) ∧ (True)) (fun (u : (Nat → Nat) × (Nat → Nat) × (Nat)) => [(m9, .inr (9, [.ref al, .ref hs, .int (nI hL), .ref ct, .int (nI (qT ((rdF p b (bT T)).2))), .int (nI (qH ((rdF p b (bT T)).2))), .int (nI (qL ((rdF p b (bT T)).2))), .int (nI (qU ((rdF p b (bT T)).2))), .int (nI wt), .ref bt, .int (nI bL), .ref cs, .ref gv, .int (nI (T.length)), .int (nI (qK ((rdF p b (bT T)).2))), .int (nI (qV ((rdF p b (bT T)).2))), .ref rd, .int (nI ((qR ((rdF p b (bT T)).2)).length)), .ref tx, .int (nI (T.length)), .int (nI (u.2.2))])), (al, .inl (cI, 44, .inl (fun j => nI ((allF g n e p b) j)))), (ct, .inl (cI, 9, .inl (fun j => nI ((qF ((rdF p b (bT T)).2)) j)))), (gv, .inl (cI, 1400, .inl (fun j => nI (u.1 j)))), (rd, .inl (cI, 40, .inl (fun j => nI (u.2.1 j)))), (tx, .inl (cI, 120, .inl (fun j => nI (ft j))))]) 0 0 := by
  refine MI.start (by decide) (Nat.le_of_ble_eq_true rfl) (lv0 := [(0, .ref m9), (1, .int (nI 0))]) rfl ?_
  intro pp9 ee9 ss9 mm9 args9 below9 meth9 co9 A9 Q9 hQ hC hr hlk hnm
  refine V_iload_n hC dX9_fault_0 rfl 1 rfl ?_
  refine V_i2l (v := lN 0) hC dX9_fault_1 (nI_l (by omega)) ?_
  refine V_lconst (v := lN 0) hC dX9_fault_2 rfl ?_
  refine V_lconst (v := lN 1) hC dX9_fault_3 rfl ?_
  refine V_calliS (As := [.long (lN 0), .long (lN 0), .long (lN 1)]) (rest := []) (wr := [(m9, .inr (9, [.ref al, .ref hs, .int (nI hL), .ref ct, .int (nI tt), .int (nI hv), .int (nI lo), .int (nI hi), .int (nI wt), .ref bt, .int (nI bL), .ref cs, .ref gv, .int (nI gL), .int (nI tk), .int (nI vv), .ref rd, .int (nI rM), .ref tx, .int (nI (T.length)), .int (nI pl)])), (al, .inl (cI, 44, .inl (fun j => nI ((allF g n e p b) j)))), (ct, .inl (cI, 9, .inl (fun j => nI (f j)))), (gv, .inl (cI, 1400, .inl (fun j => nI (fg j)))), (rd, .inl (cI, 40, .inl (fun j => nI (frd j)))), (tx, .inl (cI, 120, .inl (fun j => nI (ft j))))]) hC (c_X9_in l D cI cQ 0 0 1 (by omega) (by omega) (by omega)) mok_X9_in ml_X9_102 rfl rfl rfl (by decide) (by decide) (by decide) (Nat.le_of_ble_eq_true rfl) [] [0, 1, 2, 3, 4, 5] rfl (by decide) rfl (by decide) (by decide) dX9_fault_4 rfl (fun r9 u9 h4 => ?_)
  obtain ⟨u_1, rfl⟩ : ∃ z, z = u9 := ⟨_, rfl⟩
  obtain ⟨rfl, h4⟩ := h4
  have h4 : (u_1 = 1 ∧ 0 ≤ 0 ∧ 0 ≤ 1) ∨ (u_1 = 0 ∧ (0 < 0 ∨ 1 < 0)) := h4
  refine V_perm (ws2 := [(m9, .inr (9, [.ref al, .ref hs, .int (nI hL), .ref ct, .int (nI tt), .int (nI hv), .int (nI lo), .int (nI hi), .int (nI wt), .ref bt, .int (nI bL), .ref cs, .ref gv, .int (nI gL), .int (nI tk), .int (nI vv), .ref rd, .int (nI rM), .ref tx, .int (nI (T.length)), .int (nI pl)])), (al, .inl (cI, 44, .inl (fun j => nI ((allF g n e p b) j)))), (ct, .inl (cI, 9, .inl (fun j => nI (f j)))), (gv, .inl (cI, 1400, .inl (fun j => nI (fg j)))), (rd, .inl (cI, 40, .inl (fun j => nI (frd j)))), (tx, .inl (cI, 120, .inl (fun j => nI (ft j))))]) [0, 1, 2, 3, 4, 5] rfl (by decide) ?_
  refine V_if_ne (tgt := 12) hC (by omega) dX9_fault_7 (by decide) (fun c7 => ?_) (fun c7 => ?_)
  · refine V_aload_n hC dX9_fault_12 rfl 0 rfl ?_
    refine V_calliV (As := []) (rest := []) (wr := []) hC (c_X9_reason_n l D cI cQ m9 al hs hL ct tt hv lo hi wt bt bL cs gv gL tk vv rd rM tx 0 pl n e p b g f fg frd ft _ (hT) (by omega) (hT2) (by omega) (by omega) (by omega)) mok_X9_reason ml_X9_175 (q1 := 0) rfl cls_X9 rfl rfl rfl (by decide) (by decide) (by decide) (Nat.le_of_ble_eq_true rfl) [0, 1, 2, 3, 4, 5] [] rfl (by decide) rfl (by decide) (by decide) dX9_fault_13 rfl (fun r9 u9 h13 => ?_)
    obtain ⟨fg2_2, frd2_3, pl2_4⟩ := u9
    obtain ⟨rfl, h13⟩ := h13
    have h13 : rep frd2_3 (qR (rdF p b (bT T)).2) ∧ (frn p b T = 2 → pl2_4 = T.length) ∧ (frn p b T = 3 → pl2_4 = fO (bT T) T.length (qK (rdF p b (bT T)).2)) := h13
    refine V_perm (ws2 := [(m9, .inr (9, [.ref al, .ref hs, .int (nI hL), .ref ct, .int (nI (qT ((rdF p b (bT T)).2))), .int (nI (qH ((rdF p b (bT T)).2))), .int (nI (qL ((rdF p b (bT T)).2))), .int (nI (qU ((rdF p b (bT T)).2))), .int (nI wt), .ref bt, .int (nI bL), .ref cs, .ref gv, .int (nI (T.length)), .int (nI (qK ((rdF p b (bT T)).2))), .int (nI (qV ((rdF p b (bT T)).2))), .ref rd, .int (nI ((qR ((rdF p b (bT T)).2)).length)), .ref tx, .int (nI (T.length)), .int (nI pl2_4)])), (al, .inl (cI, 44, .inl (fun j => nI ((allF g n e p b) j)))), (ct, .inl (cI, 9, .inl (fun j => nI ((qF ((rdF p b (bT T)).2)) j)))), (gv, .inl (cI, 1400, .inl (fun j => nI (fg2_2 j)))), (rd, .inl (cI, 40, .inl (fun j => nI (frd2_3 j)))), (tx, .inl (cI, 120, .inl (fun j => nI (ft j))))]) [0, 1, 2, 3, 4, 5] rfl (by decide) ?_
    refine V_st (st2 := [.int (nI 2)]) (by rw [show (frn p b T) = (2) from hfr]) ?_
    refine V_istore_n (lv2 := [(0, .ref m9), (1, .int (nI 0)), (2, .int (nI 2))]) hC dX9_fault_16 rfl (by decide) [1, 2, 0] rfl ?_
    refine V_iload_n hC dX9_fault_17 rfl 2 rfl ?_
    refine V_if_ne_T (tgt := 26) hC dX9_fault_18 (by decide) (nI_ne0 (by omega) (by omega)) ?_
    refine V_iload_n hC dX9_fault_26 rfl 1 rfl ?_
    refine V_if_ne_F (tgt := 37) hC dX9_fault_27 (by decide) ((congrArg nI (show 0 = 0 by omega)).trans nI_0) ?_
    refine V_aload_n hC dX9_fault_30 rfl 0 rfl ?_
    refine V_get (ci := 9) (v := .int (nI pl2_4)) hC in_X9 0 rfl cls_X9 20 (by decide) fl_X9_168 rfl dX9_fault_31 ?_
    refine V_goto (tgt := 38) hC dX9_fault_34 (by decide) ?_
    refine V_st (st2 := [.int (nI (T.length))]) (by rw [show (pl2_4) = (T.length) from h13.2.1 hfr]) ?_
    subst hQ
    exact V_iret hC hr hlk rfl (by decide) (by decide) dX9_fault_38 ((fg2_2, frd2_3, pl2_4)) [0, 1, 2, 3, 4, 5] rfl (by decide) (⟨rfl, trivial⟩)
  · exact False.elim (by omega)
abbrev rm_X9_fault_2b : Room := { frames := 4, cells := 0, slots := 0, locals := 88 }
set_option maxHeartbeats 4000000 in
set_option maxRecDepth 100000 in
theorem c_X9_fault_2b (l : Launch) (D : va_G) (cI cQ : ClassId) (m9 al hs hL ct tt hv lo hi wt bt bL cs gv gL tk vv rd rM tx tL pl n e p b : Nat) (g f fg frd ft : Nat → Nat) (T : List Nat) (hT : rep ft T) (hT1 : T.length ≤ 120) (hT2 : ∀ j, j < T.length → T.getD j 0 < 1000) (hx : T.length ≤ stT T) (hp : p ≤ 64) (hb : b ≤ 2000) (hfr : frn p b T = 2) : MI l yX9_fault cX9_fault 3 (some .int) rm_X9_fault_2b D (TY cI cQ) [.ref m9, .int (nI 1)] [(m9, .inr (9, [.ref al, .ref hs, .int (nI hL), .ref ct, .int (nI tt), .int (nI hv), .int (nI lo), .int (nI hi), .int (nI wt), .ref bt, .int (nI bL), .ref cs, .ref gv, .int (nI gL), .int (nI tk), .int (nI vv), .ref rd, .int (nI rM), .ref tx, .int (nI (T.length)), .int (nI pl)])), (al, .inl (cI, 44, .inl (fun j => nI ((allF g n e p b) j)))), (ct, .inl (cI, 9, .inl (fun j => nI (f j)))), (gv, .inl (cI, 1400, .inl (fun j => nI (fg j)))), (rd, .inl (cI, 40, .inl (fun j => nI (frd j)))), (tx, .inl (cI, 120, .inl (fun j => nI (ft j))))] (fun (r9 : Int32) (u : (Nat → Nat) × (Nat → Nat) × (Nat)) => r9 = (nI 2) ∧ (True)) (fun (u : (Nat → Nat) × (Nat → Nat) × (Nat)) => [(m9, .inr (9, [.ref al, .ref hs, .int (nI hL), .ref ct, .int (nI (qT ((rdF p b (bT T)).2))), .int (nI (qH ((rdF p b (bT T)).2))), .int (nI (qL ((rdF p b (bT T)).2))), .int (nI (qU ((rdF p b (bT T)).2))), .int (nI wt), .ref bt, .int (nI bL), .ref cs, .ref gv, .int (nI (T.length)), .int (nI (qK ((rdF p b (bT T)).2))), .int (nI (qV ((rdF p b (bT T)).2))), .ref rd, .int (nI ((qR ((rdF p b (bT T)).2)).length)), .ref tx, .int (nI (T.length)), .int (nI (u.2.2))])), (al, .inl (cI, 44, .inl (fun j => nI ((allF g n e p b) j)))), (ct, .inl (cI, 9, .inl (fun j => nI ((qF ((rdF p b (bT T)).2)) j)))), (gv, .inl (cI, 1400, .inl (fun j => nI (u.1 j)))), (rd, .inl (cI, 40, .inl (fun j => nI (u.2.1 j)))), (tx, .inl (cI, 120, .inl (fun j => nI (ft j))))]) 0 0 := by
  refine MI.start (by decide) (Nat.le_of_ble_eq_true rfl) (lv0 := [(0, .ref m9), (1, .int (nI 1))]) rfl ?_
  intro pp9 ee9 ss9 mm9 args9 below9 meth9 co9 A9 Q9 hQ hC hr hlk hnm
  refine V_iload_n hC dX9_fault_0 rfl 1 rfl ?_
  refine V_i2l (v := lN 1) hC dX9_fault_1 (nI_l (by omega)) ?_
  refine V_lconst (v := lN 0) hC dX9_fault_2 rfl ?_
  refine V_lconst (v := lN 1) hC dX9_fault_3 rfl ?_
  refine V_calliS (As := [.long (lN 1), .long (lN 0), .long (lN 1)]) (rest := []) (wr := [(m9, .inr (9, [.ref al, .ref hs, .int (nI hL), .ref ct, .int (nI tt), .int (nI hv), .int (nI lo), .int (nI hi), .int (nI wt), .ref bt, .int (nI bL), .ref cs, .ref gv, .int (nI gL), .int (nI tk), .int (nI vv), .ref rd, .int (nI rM), .ref tx, .int (nI (T.length)), .int (nI pl)])), (al, .inl (cI, 44, .inl (fun j => nI ((allF g n e p b) j)))), (ct, .inl (cI, 9, .inl (fun j => nI (f j)))), (gv, .inl (cI, 1400, .inl (fun j => nI (fg j)))), (rd, .inl (cI, 40, .inl (fun j => nI (frd j)))), (tx, .inl (cI, 120, .inl (fun j => nI (ft j))))]) hC (c_X9_in l D cI cQ 1 0 1 (by omega) (by omega) (by omega)) mok_X9_in ml_X9_102 rfl rfl rfl (by decide) (by decide) (by decide) (Nat.le_of_ble_eq_true rfl) [] [0, 1, 2, 3, 4, 5] rfl (by decide) rfl (by decide) (by decide) dX9_fault_4 rfl (fun r9 u9 h4 => ?_)
  obtain ⟨u_1, rfl⟩ : ∃ z, z = u9 := ⟨_, rfl⟩
  obtain ⟨rfl, h4⟩ := h4
  have h4 : (u_1 = 1 ∧ 0 ≤ 1 ∧ 1 ≤ 1) ∨ (u_1 = 0 ∧ (1 < 0 ∨ 1 < 1)) := h4
  refine V_perm (ws2 := [(m9, .inr (9, [.ref al, .ref hs, .int (nI hL), .ref ct, .int (nI tt), .int (nI hv), .int (nI lo), .int (nI hi), .int (nI wt), .ref bt, .int (nI bL), .ref cs, .ref gv, .int (nI gL), .int (nI tk), .int (nI vv), .ref rd, .int (nI rM), .ref tx, .int (nI (T.length)), .int (nI pl)])), (al, .inl (cI, 44, .inl (fun j => nI ((allF g n e p b) j)))), (ct, .inl (cI, 9, .inl (fun j => nI (f j)))), (gv, .inl (cI, 1400, .inl (fun j => nI (fg j)))), (rd, .inl (cI, 40, .inl (fun j => nI (frd j)))), (tx, .inl (cI, 120, .inl (fun j => nI (ft j))))]) [0, 1, 2, 3, 4, 5] rfl (by decide) ?_
  refine V_if_ne (tgt := 12) hC (by omega) dX9_fault_7 (by decide) (fun c7 => ?_) (fun c7 => ?_)
  · refine V_aload_n hC dX9_fault_12 rfl 0 rfl ?_
    refine V_calliV (As := []) (rest := []) (wr := []) hC (c_X9_reason_n l D cI cQ m9 al hs hL ct tt hv lo hi wt bt bL cs gv gL tk vv rd rM tx 0 pl n e p b g f fg frd ft _ (hT) (by omega) (hT2) (by omega) (by omega) (by omega)) mok_X9_reason ml_X9_175 (q1 := 0) rfl cls_X9 rfl rfl rfl (by decide) (by decide) (by decide) (Nat.le_of_ble_eq_true rfl) [0, 1, 2, 3, 4, 5] [] rfl (by decide) rfl (by decide) (by decide) dX9_fault_13 rfl (fun r9 u9 h13 => ?_)
    obtain ⟨fg2_2, frd2_3, pl2_4⟩ := u9
    obtain ⟨rfl, h13⟩ := h13
    have h13 : rep frd2_3 (qR (rdF p b (bT T)).2) ∧ (frn p b T = 2 → pl2_4 = T.length) ∧ (frn p b T = 3 → pl2_4 = fO (bT T) T.length (qK (rdF p b (bT T)).2)) := h13
    refine V_perm (ws2 := [(m9, .inr (9, [.ref al, .ref hs, .int (nI hL), .ref ct, .int (nI (qT ((rdF p b (bT T)).2))), .int (nI (qH ((rdF p b (bT T)).2))), .int (nI (qL ((rdF p b (bT T)).2))), .int (nI (qU ((rdF p b (bT T)).2))), .int (nI wt), .ref bt, .int (nI bL), .ref cs, .ref gv, .int (nI (T.length)), .int (nI (qK ((rdF p b (bT T)).2))), .int (nI (qV ((rdF p b (bT T)).2))), .ref rd, .int (nI ((qR ((rdF p b (bT T)).2)).length)), .ref tx, .int (nI (T.length)), .int (nI pl2_4)])), (al, .inl (cI, 44, .inl (fun j => nI ((allF g n e p b) j)))), (ct, .inl (cI, 9, .inl (fun j => nI ((qF ((rdF p b (bT T)).2)) j)))), (gv, .inl (cI, 1400, .inl (fun j => nI (fg2_2 j)))), (rd, .inl (cI, 40, .inl (fun j => nI (frd2_3 j)))), (tx, .inl (cI, 120, .inl (fun j => nI (ft j))))]) [0, 1, 2, 3, 4, 5] rfl (by decide) ?_
    refine V_st (st2 := [.int (nI 2)]) (by rw [show (frn p b T) = (2) from hfr]) ?_
    refine V_istore_n (lv2 := [(0, .ref m9), (1, .int (nI 1)), (2, .int (nI 2))]) hC dX9_fault_16 rfl (by decide) [1, 2, 0] rfl ?_
    refine V_iload_n hC dX9_fault_17 rfl 2 rfl ?_
    refine V_if_ne_T (tgt := 26) hC dX9_fault_18 (by decide) (nI_ne0 (by omega) (by omega)) ?_
    refine V_iload_n hC dX9_fault_26 rfl 1 rfl ?_
    refine V_if_ne_T (tgt := 37) hC dX9_fault_27 (by decide) (nI_ne0 (by omega) (by omega)) ?_
    refine V_iload_n hC dX9_fault_37 rfl 2 rfl ?_
    subst hQ
    exact V_iret hC hr hlk rfl (by decide) (by decide) dX9_fault_38 ((fg2_2, frd2_3, pl2_4)) [0, 1, 2, 3, 4, 5] rfl (by decide) (⟨rfl, trivial⟩)
  · exact False.elim (by omega)
abbrev rm_X9_fault_3a : Room := { frames := 4, cells := 0, slots := 0, locals := 88 }
set_option maxHeartbeats 4000000 in
set_option maxRecDepth 100000 in
theorem c_X9_fault_3a (l : Launch) (D : va_G) (cI cQ : ClassId) (m9 al hs hL ct tt hv lo hi wt bt bL cs gv gL tk vv rd rM tx tL pl n e p b : Nat) (g f fg frd ft : Nat → Nat) (T : List Nat) (hT : rep ft T) (hT1 : T.length ≤ 120) (hT2 : ∀ j, j < T.length → T.getD j 0 < 1000) (hx : T.length ≤ stT T) (hp : p ≤ 64) (hb : b ≤ 2000) (hfr : frn p b T = 3) : MI l yX9_fault cX9_fault 3 (some .int) rm_X9_fault_3a D (TY cI cQ) [.ref m9, .int (nI 0)] [(m9, .inr (9, [.ref al, .ref hs, .int (nI hL), .ref ct, .int (nI tt), .int (nI hv), .int (nI lo), .int (nI hi), .int (nI wt), .ref bt, .int (nI bL), .ref cs, .ref gv, .int (nI gL), .int (nI tk), .int (nI vv), .ref rd, .int (nI rM), .ref tx, .int (nI (T.length)), .int (nI pl)])), (al, .inl (cI, 44, .inl (fun j => nI ((allF g n e p b) j)))), (ct, .inl (cI, 9, .inl (fun j => nI (f j)))), (gv, .inl (cI, 1400, .inl (fun j => nI (fg j)))), (rd, .inl (cI, 40, .inl (fun j => nI (frd j)))), (tx, .inl (cI, 120, .inl (fun j => nI (ft j))))] (fun (r9 : Int32) (u : (Nat → Nat) × (Nat → Nat) × (Nat)) => r9 = (nI (fO (bT T) T.length (qK (rdF p b (bT T)).2))) ∧ (True)) (fun (u : (Nat → Nat) × (Nat → Nat) × (Nat)) => [(m9, .inr (9, [.ref al, .ref hs, .int (nI hL), .ref ct, .int (nI (qT ((rdF p b (bT T)).2))), .int (nI (qH ((rdF p b (bT T)).2))), .int (nI (qL ((rdF p b (bT T)).2))), .int (nI (qU ((rdF p b (bT T)).2))), .int (nI wt), .ref bt, .int (nI bL), .ref cs, .ref gv, .int (nI (T.length)), .int (nI (qK ((rdF p b (bT T)).2))), .int (nI (qV ((rdF p b (bT T)).2))), .ref rd, .int (nI ((qR ((rdF p b (bT T)).2)).length)), .ref tx, .int (nI (T.length)), .int (nI (u.2.2))])), (al, .inl (cI, 44, .inl (fun j => nI ((allF g n e p b) j)))), (ct, .inl (cI, 9, .inl (fun j => nI ((qF ((rdF p b (bT T)).2)) j)))), (gv, .inl (cI, 1400, .inl (fun j => nI (u.1 j)))), (rd, .inl (cI, 40, .inl (fun j => nI (u.2.1 j)))), (tx, .inl (cI, 120, .inl (fun j => nI (ft j))))]) 0 0 := by
  refine MI.start (by decide) (Nat.le_of_ble_eq_true rfl) (lv0 := [(0, .ref m9), (1, .int (nI 0))]) rfl ?_
  intro pp9 ee9 ss9 mm9 args9 below9 meth9 co9 A9 Q9 hQ hC hr hlk hnm
  refine V_iload_n hC dX9_fault_0 rfl 1 rfl ?_
  refine V_i2l (v := lN 0) hC dX9_fault_1 (nI_l (by omega)) ?_
  refine V_lconst (v := lN 0) hC dX9_fault_2 rfl ?_
  refine V_lconst (v := lN 1) hC dX9_fault_3 rfl ?_
  refine V_calliS (As := [.long (lN 0), .long (lN 0), .long (lN 1)]) (rest := []) (wr := [(m9, .inr (9, [.ref al, .ref hs, .int (nI hL), .ref ct, .int (nI tt), .int (nI hv), .int (nI lo), .int (nI hi), .int (nI wt), .ref bt, .int (nI bL), .ref cs, .ref gv, .int (nI gL), .int (nI tk), .int (nI vv), .ref rd, .int (nI rM), .ref tx, .int (nI (T.length)), .int (nI pl)])), (al, .inl (cI, 44, .inl (fun j => nI ((allF g n e p b) j)))), (ct, .inl (cI, 9, .inl (fun j => nI (f j)))), (gv, .inl (cI, 1400, .inl (fun j => nI (fg j)))), (rd, .inl (cI, 40, .inl (fun j => nI (frd j)))), (tx, .inl (cI, 120, .inl (fun j => nI (ft j))))]) hC (c_X9_in l D cI cQ 0 0 1 (by omega) (by omega) (by omega)) mok_X9_in ml_X9_102 rfl rfl rfl (by decide) (by decide) (by decide) (Nat.le_of_ble_eq_true rfl) [] [0, 1, 2, 3, 4, 5] rfl (by decide) rfl (by decide) (by decide) dX9_fault_4 rfl (fun r9 u9 h4 => ?_)
  obtain ⟨u_1, rfl⟩ : ∃ z, z = u9 := ⟨_, rfl⟩
  obtain ⟨rfl, h4⟩ := h4
  have h4 : (u_1 = 1 ∧ 0 ≤ 0 ∧ 0 ≤ 1) ∨ (u_1 = 0 ∧ (0 < 0 ∨ 1 < 0)) := h4
  refine V_perm (ws2 := [(m9, .inr (9, [.ref al, .ref hs, .int (nI hL), .ref ct, .int (nI tt), .int (nI hv), .int (nI lo), .int (nI hi), .int (nI wt), .ref bt, .int (nI bL), .ref cs, .ref gv, .int (nI gL), .int (nI tk), .int (nI vv), .ref rd, .int (nI rM), .ref tx, .int (nI (T.length)), .int (nI pl)])), (al, .inl (cI, 44, .inl (fun j => nI ((allF g n e p b) j)))), (ct, .inl (cI, 9, .inl (fun j => nI (f j)))), (gv, .inl (cI, 1400, .inl (fun j => nI (fg j)))), (rd, .inl (cI, 40, .inl (fun j => nI (frd j)))), (tx, .inl (cI, 120, .inl (fun j => nI (ft j))))]) [0, 1, 2, 3, 4, 5] rfl (by decide) ?_
  refine V_if_ne (tgt := 12) hC (by omega) dX9_fault_7 (by decide) (fun c7 => ?_) (fun c7 => ?_)
  · refine V_aload_n hC dX9_fault_12 rfl 0 rfl ?_
    refine V_calliV (As := []) (rest := []) (wr := []) hC (c_X9_reason_n l D cI cQ m9 al hs hL ct tt hv lo hi wt bt bL cs gv gL tk vv rd rM tx 0 pl n e p b g f fg frd ft _ (hT) (by omega) (hT2) (by omega) (by omega) (by omega)) mok_X9_reason ml_X9_175 (q1 := 0) rfl cls_X9 rfl rfl rfl (by decide) (by decide) (by decide) (Nat.le_of_ble_eq_true rfl) [0, 1, 2, 3, 4, 5] [] rfl (by decide) rfl (by decide) (by decide) dX9_fault_13 rfl (fun r9 u9 h13 => ?_)
    obtain ⟨fg2_2, frd2_3, pl2_4⟩ := u9
    obtain ⟨rfl, h13⟩ := h13
    have h13 : rep frd2_3 (qR (rdF p b (bT T)).2) ∧ (frn p b T = 2 → pl2_4 = T.length) ∧ (frn p b T = 3 → pl2_4 = fO (bT T) T.length (qK (rdF p b (bT T)).2)) := h13
    refine V_perm (ws2 := [(m9, .inr (9, [.ref al, .ref hs, .int (nI hL), .ref ct, .int (nI (qT ((rdF p b (bT T)).2))), .int (nI (qH ((rdF p b (bT T)).2))), .int (nI (qL ((rdF p b (bT T)).2))), .int (nI (qU ((rdF p b (bT T)).2))), .int (nI wt), .ref bt, .int (nI bL), .ref cs, .ref gv, .int (nI (T.length)), .int (nI (qK ((rdF p b (bT T)).2))), .int (nI (qV ((rdF p b (bT T)).2))), .ref rd, .int (nI ((qR ((rdF p b (bT T)).2)).length)), .ref tx, .int (nI (T.length)), .int (nI pl2_4)])), (al, .inl (cI, 44, .inl (fun j => nI ((allF g n e p b) j)))), (ct, .inl (cI, 9, .inl (fun j => nI ((qF ((rdF p b (bT T)).2)) j)))), (gv, .inl (cI, 1400, .inl (fun j => nI (fg2_2 j)))), (rd, .inl (cI, 40, .inl (fun j => nI (frd2_3 j)))), (tx, .inl (cI, 120, .inl (fun j => nI (ft j))))]) [0, 1, 2, 3, 4, 5] rfl (by decide) ?_
    refine V_st (st2 := [.int (nI 3)]) (by rw [show (frn p b T) = (3) from hfr]) ?_
    refine V_istore_n (lv2 := [(0, .ref m9), (1, .int (nI 0)), (2, .int (nI 3))]) hC dX9_fault_16 rfl (by decide) [1, 2, 0] rfl ?_
    refine V_iload_n hC dX9_fault_17 rfl 2 rfl ?_
    refine V_if_ne_T (tgt := 26) hC dX9_fault_18 (by decide) (nI_ne0 (by omega) (by omega)) ?_
    refine V_iload_n hC dX9_fault_26 rfl 1 rfl ?_
    refine V_if_ne_F (tgt := 37) hC dX9_fault_27 (by decide) ((congrArg nI (show 0 = 0 by omega)).trans nI_0) ?_
    refine V_aload_n hC dX9_fault_30 rfl 0 rfl ?_
    refine V_get (ci := 9) (v := .int (nI pl2_4)) hC in_X9 0 rfl cls_X9 20 (by decide) fl_X9_168 rfl dX9_fault_31 ?_
    refine V_goto (tgt := 38) hC dX9_fault_34 (by decide) ?_
    refine V_st (st2 := [.int (nI (fO (bT T) T.length (qK (rdF p b (bT T)).2)))]) (by rw [show (pl2_4) = (fO (bT T) T.length (qK (rdF p b (bT T)).2)) from h13.2.2 hfr]) ?_
    subst hQ
    exact V_iret hC hr hlk rfl (by decide) (by decide) dX9_fault_38 ((fg2_2, frd2_3, pl2_4)) [0, 1, 2, 3, 4, 5] rfl (by decide) (⟨rfl, trivial⟩)
  · exact False.elim (by omega)
abbrev rm_X9_fault_3b : Room := { frames := 4, cells := 0, slots := 0, locals := 88 }
set_option maxHeartbeats 4000000 in
set_option maxRecDepth 100000 in
theorem c_X9_fault_3b (l : Launch) (D : va_G) (cI cQ : ClassId) (m9 al hs hL ct tt hv lo hi wt bt bL cs gv gL tk vv rd rM tx tL pl n e p b : Nat) (g f fg frd ft : Nat → Nat) (T : List Nat) (hT : rep ft T) (hT1 : T.length ≤ 120) (hT2 : ∀ j, j < T.length → T.getD j 0 < 1000) (hx : T.length ≤ stT T) (hp : p ≤ 64) (hb : b ≤ 2000) (hfr : frn p b T = 3) : MI l yX9_fault cX9_fault 3 (some .int) rm_X9_fault_3b D (TY cI cQ) [.ref m9, .int (nI 1)] [(m9, .inr (9, [.ref al, .ref hs, .int (nI hL), .ref ct, .int (nI tt), .int (nI hv), .int (nI lo), .int (nI hi), .int (nI wt), .ref bt, .int (nI bL), .ref cs, .ref gv, .int (nI gL), .int (nI tk), .int (nI vv), .ref rd, .int (nI rM), .ref tx, .int (nI (T.length)), .int (nI pl)])), (al, .inl (cI, 44, .inl (fun j => nI ((allF g n e p b) j)))), (ct, .inl (cI, 9, .inl (fun j => nI (f j)))), (gv, .inl (cI, 1400, .inl (fun j => nI (fg j)))), (rd, .inl (cI, 40, .inl (fun j => nI (frd j)))), (tx, .inl (cI, 120, .inl (fun j => nI (ft j))))] (fun (r9 : Int32) (u : (Nat → Nat) × (Nat → Nat) × (Nat)) => r9 = (nI 3) ∧ (True)) (fun (u : (Nat → Nat) × (Nat → Nat) × (Nat)) => [(m9, .inr (9, [.ref al, .ref hs, .int (nI hL), .ref ct, .int (nI (qT ((rdF p b (bT T)).2))), .int (nI (qH ((rdF p b (bT T)).2))), .int (nI (qL ((rdF p b (bT T)).2))), .int (nI (qU ((rdF p b (bT T)).2))), .int (nI wt), .ref bt, .int (nI bL), .ref cs, .ref gv, .int (nI (T.length)), .int (nI (qK ((rdF p b (bT T)).2))), .int (nI (qV ((rdF p b (bT T)).2))), .ref rd, .int (nI ((qR ((rdF p b (bT T)).2)).length)), .ref tx, .int (nI (T.length)), .int (nI (u.2.2))])), (al, .inl (cI, 44, .inl (fun j => nI ((allF g n e p b) j)))), (ct, .inl (cI, 9, .inl (fun j => nI ((qF ((rdF p b (bT T)).2)) j)))), (gv, .inl (cI, 1400, .inl (fun j => nI (u.1 j)))), (rd, .inl (cI, 40, .inl (fun j => nI (u.2.1 j)))), (tx, .inl (cI, 120, .inl (fun j => nI (ft j))))]) 0 0 := by
  refine MI.start (by decide) (Nat.le_of_ble_eq_true rfl) (lv0 := [(0, .ref m9), (1, .int (nI 1))]) rfl ?_
  intro pp9 ee9 ss9 mm9 args9 below9 meth9 co9 A9 Q9 hQ hC hr hlk hnm
  refine V_iload_n hC dX9_fault_0 rfl 1 rfl ?_
  refine V_i2l (v := lN 1) hC dX9_fault_1 (nI_l (by omega)) ?_
  refine V_lconst (v := lN 0) hC dX9_fault_2 rfl ?_
  refine V_lconst (v := lN 1) hC dX9_fault_3 rfl ?_
  refine V_calliS (As := [.long (lN 1), .long (lN 0), .long (lN 1)]) (rest := []) (wr := [(m9, .inr (9, [.ref al, .ref hs, .int (nI hL), .ref ct, .int (nI tt), .int (nI hv), .int (nI lo), .int (nI hi), .int (nI wt), .ref bt, .int (nI bL), .ref cs, .ref gv, .int (nI gL), .int (nI tk), .int (nI vv), .ref rd, .int (nI rM), .ref tx, .int (nI (T.length)), .int (nI pl)])), (al, .inl (cI, 44, .inl (fun j => nI ((allF g n e p b) j)))), (ct, .inl (cI, 9, .inl (fun j => nI (f j)))), (gv, .inl (cI, 1400, .inl (fun j => nI (fg j)))), (rd, .inl (cI, 40, .inl (fun j => nI (frd j)))), (tx, .inl (cI, 120, .inl (fun j => nI (ft j))))]) hC (c_X9_in l D cI cQ 1 0 1 (by omega) (by omega) (by omega)) mok_X9_in ml_X9_102 rfl rfl rfl (by decide) (by decide) (by decide) (Nat.le_of_ble_eq_true rfl) [] [0, 1, 2, 3, 4, 5] rfl (by decide) rfl (by decide) (by decide) dX9_fault_4 rfl (fun r9 u9 h4 => ?_)
  obtain ⟨u_1, rfl⟩ : ∃ z, z = u9 := ⟨_, rfl⟩
  obtain ⟨rfl, h4⟩ := h4
  have h4 : (u_1 = 1 ∧ 0 ≤ 1 ∧ 1 ≤ 1) ∨ (u_1 = 0 ∧ (1 < 0 ∨ 1 < 1)) := h4
  refine V_perm (ws2 := [(m9, .inr (9, [.ref al, .ref hs, .int (nI hL), .ref ct, .int (nI tt), .int (nI hv), .int (nI lo), .int (nI hi), .int (nI wt), .ref bt, .int (nI bL), .ref cs, .ref gv, .int (nI gL), .int (nI tk), .int (nI vv), .ref rd, .int (nI rM), .ref tx, .int (nI (T.length)), .int (nI pl)])), (al, .inl (cI, 44, .inl (fun j => nI ((allF g n e p b) j)))), (ct, .inl (cI, 9, .inl (fun j => nI (f j)))), (gv, .inl (cI, 1400, .inl (fun j => nI (fg j)))), (rd, .inl (cI, 40, .inl (fun j => nI (frd j)))), (tx, .inl (cI, 120, .inl (fun j => nI (ft j))))]) [0, 1, 2, 3, 4, 5] rfl (by decide) ?_
  refine V_if_ne (tgt := 12) hC (by omega) dX9_fault_7 (by decide) (fun c7 => ?_) (fun c7 => ?_)
  · refine V_aload_n hC dX9_fault_12 rfl 0 rfl ?_
    refine V_calliV (As := []) (rest := []) (wr := []) hC (c_X9_reason_n l D cI cQ m9 al hs hL ct tt hv lo hi wt bt bL cs gv gL tk vv rd rM tx 0 pl n e p b g f fg frd ft _ (hT) (by omega) (hT2) (by omega) (by omega) (by omega)) mok_X9_reason ml_X9_175 (q1 := 0) rfl cls_X9 rfl rfl rfl (by decide) (by decide) (by decide) (Nat.le_of_ble_eq_true rfl) [0, 1, 2, 3, 4, 5] [] rfl (by decide) rfl (by decide) (by decide) dX9_fault_13 rfl (fun r9 u9 h13 => ?_)
    obtain ⟨fg2_2, frd2_3, pl2_4⟩ := u9
    obtain ⟨rfl, h13⟩ := h13
    have h13 : rep frd2_3 (qR (rdF p b (bT T)).2) ∧ (frn p b T = 2 → pl2_4 = T.length) ∧ (frn p b T = 3 → pl2_4 = fO (bT T) T.length (qK (rdF p b (bT T)).2)) := h13
    refine V_perm (ws2 := [(m9, .inr (9, [.ref al, .ref hs, .int (nI hL), .ref ct, .int (nI (qT ((rdF p b (bT T)).2))), .int (nI (qH ((rdF p b (bT T)).2))), .int (nI (qL ((rdF p b (bT T)).2))), .int (nI (qU ((rdF p b (bT T)).2))), .int (nI wt), .ref bt, .int (nI bL), .ref cs, .ref gv, .int (nI (T.length)), .int (nI (qK ((rdF p b (bT T)).2))), .int (nI (qV ((rdF p b (bT T)).2))), .ref rd, .int (nI ((qR ((rdF p b (bT T)).2)).length)), .ref tx, .int (nI (T.length)), .int (nI pl2_4)])), (al, .inl (cI, 44, .inl (fun j => nI ((allF g n e p b) j)))), (ct, .inl (cI, 9, .inl (fun j => nI ((qF ((rdF p b (bT T)).2)) j)))), (gv, .inl (cI, 1400, .inl (fun j => nI (fg2_2 j)))), (rd, .inl (cI, 40, .inl (fun j => nI (frd2_3 j)))), (tx, .inl (cI, 120, .inl (fun j => nI (ft j))))]) [0, 1, 2, 3, 4, 5] rfl (by decide) ?_
    refine V_st (st2 := [.int (nI 3)]) (by rw [show (frn p b T) = (3) from hfr]) ?_
    refine V_istore_n (lv2 := [(0, .ref m9), (1, .int (nI 1)), (2, .int (nI 3))]) hC dX9_fault_16 rfl (by decide) [1, 2, 0] rfl ?_
    refine V_iload_n hC dX9_fault_17 rfl 2 rfl ?_
    refine V_if_ne_T (tgt := 26) hC dX9_fault_18 (by decide) (nI_ne0 (by omega) (by omega)) ?_
    refine V_iload_n hC dX9_fault_26 rfl 1 rfl ?_
    refine V_if_ne_T (tgt := 37) hC dX9_fault_27 (by decide) (nI_ne0 (by omega) (by omega)) ?_
    refine V_iload_n hC dX9_fault_37 rfl 2 rfl ?_
    subst hQ
    exact V_iret hC hr hlk rfl (by decide) (by decide) dX9_fault_38 ((fg2_2, frd2_3, pl2_4)) [0, 1, 2, 3, 4, 5] rfl (by decide) (⟨rfl, trivial⟩)
  · exact False.elim (by omega)
abbrev rm_X9_told_neg : Room := { frames := 0, cells := 0, slots := 0, locals := 0 }
set_option maxHeartbeats 4000000 in
set_option maxRecDepth 100000 in
theorem c_X9_told_neg (l : Launch) (D : va_G) (cI cQ : ClassId) (m9 al hs hL ct tt hv lo hi wt bt bL cs gv gL tk vv rd rM tx tL pl : Nat) (x : Int32) (hx : x.toInt < 0) : MI l yX9_told cX9_told 2 (some .int) rm_X9_told_neg D (TY cI cQ) [.ref m9, .int (x)] [(m9, .inr (9, [.ref al, .ref hs, .int (nI hL), .ref ct, .int (nI tt), .int (nI hv), .int (nI lo), .int (nI hi), .int (nI wt), .ref bt, .int (nI bL), .ref cs, .ref gv, .int (nI gL), .int (nI tk), .int (nI vv), .ref rd, .int (nI rM), .ref tx, .int (nI tL), .int (nI pl)]))] (fun (r9 : Int32) (u : Unit) => r9 = (-1) ∧ (True)) (fun (u : Unit) => [(m9, .inr (9, [.ref al, .ref hs, .int (nI hL), .ref ct, .int (nI tt), .int (nI hv), .int (nI lo), .int (nI hi), .int (nI wt), .ref bt, .int (nI bL), .ref cs, .ref gv, .int (nI gL), .int (nI tk), .int (nI vv), .ref rd, .int (nI rM), .ref tx, .int (nI tL), .int (nI pl)]))]) 0 0 := by
  refine MI.start (by decide) (Nat.le_of_ble_eq_true rfl) (lv0 := [(0, .ref m9), (1, .int (x))]) rfl ?_
  intro pp9 ee9 ss9 mm9 args9 below9 meth9 co9 A9 Q9 hQ hC hr hlk hnm
  refine V_iload_n hC dX9_told_0 rfl 1 rfl ?_
  refine V_if_ge_F (tgt := 6) hC dX9_told_1 (by decide) (Int32.not_le.mpr (Int32.lt_iff_toInt_lt.mpr hx)) ?_
  refine V_iconst (v := -1) hC dX9_told_4 (by decide) ?_
  subst hQ
  exact V_iret hC hr hlk rfl (by decide) (by decide) dX9_told_5 (()) [0] rfl (by decide) (⟨rfl, trivial⟩)
abbrev rm_X9_told_1 : Room := { frames := 2, cells := 0, slots := 0, locals := 45 }
set_option maxHeartbeats 4000000 in
set_option maxRecDepth 100000 in
theorem c_X9_told_1 (l : Launch) (D : va_G) (cI cQ : ClassId) (m9 al hs hL ct tt hv lo hi wt bt bL cs gv gL tk vv rd rM tx tL pl n e p b i : Nat) (g f fg frd ft : Nat → Nat) (T : List Nat) (hT : rep ft T) (hT1 : T.length ≤ 120) (hT2 : ∀ j, j < T.length → T.getD j 0 < 1000) (hx : stT T < T.length) (hi9 : i < 2147483648) : MI l yX9_told cX9_told 2 (some .int) rm_X9_told_1 D (TY cI cQ) [.ref m9, .int (nI i)] [(m9, .inr (9, [.ref al, .ref hs, .int (nI hL), .ref ct, .int (nI tt), .int (nI hv), .int (nI lo), .int (nI hi), .int (nI wt), .ref bt, .int (nI bL), .ref cs, .ref gv, .int (nI gL), .int (nI tk), .int (nI vv), .ref rd, .int (nI rM), .ref tx, .int (nI (T.length)), .int (nI pl)])), (al, .inl (cI, 44, .inl (fun j => nI ((allF g n e p b) j)))), (ct, .inl (cI, 9, .inl (fun j => nI (f j)))), (gv, .inl (cI, 1400, .inl (fun j => nI (fg j)))), (rd, .inl (cI, 40, .inl (fun j => nI (frd j)))), (tx, .inl (cI, 120, .inl (fun j => nI (ft j))))] (fun (r9 : Int32) (u : (Nat → Nat)) => r9 = (-2) ∧ (True)) (fun (u : (Nat → Nat)) => [(m9, .inr (9, [.ref al, .ref hs, .int (nI hL), .ref ct, .int (nI tt), .int (nI hv), .int (nI lo), .int (nI hi), .int (nI wt), .ref bt, .int (nI bL), .ref cs, .ref gv, .int (nI gL), .int (nI tk), .int (nI vv), .ref rd, .int (nI rM), .ref tx, .int (nI (T.length)), .int (nI (stT T))])), (al, .inl (cI, 44, .inl (fun j => nI ((allF g n e p b) j)))), (ct, .inl (cI, 9, .inl (fun j => nI (f j)))), (gv, .inl (cI, 1400, .inl (fun j => nI (u j)))), (rd, .inl (cI, 40, .inl (fun j => nI (frd j)))), (tx, .inl (cI, 120, .inl (fun j => nI (ft j))))]) 0 0 := by
  refine MI.start (by decide) (Nat.le_of_ble_eq_true rfl) (lv0 := [(0, .ref m9), (1, .int (nI i))]) rfl ?_
  intro pp9 ee9 ss9 mm9 args9 below9 meth9 co9 A9 Q9 hQ hC hr hlk hnm
  refine V_iload_n hC dX9_told_0 rfl 1 rfl ?_
  refine V_if_ge_T (tgt := 6) hC dX9_told_1 (by decide) (nI_pos' (by omega)) ?_
  refine V_aload_n hC dX9_told_6 rfl 0 rfl ?_
  refine V_calliV (As := []) (rest := []) (wr := []) hC (c_X9_reason_1 l D cI cQ m9 al hs hL ct tt hv lo hi wt bt bL cs gv gL tk vv rd rM tx 0 pl n e p b g f fg frd ft _ (hT) (by omega) (hT2) (by omega)) mok_X9_reason ml_X9_175 (q1 := 0) rfl cls_X9 rfl rfl rfl (by decide) (by decide) (by decide) (Nat.le_of_ble_eq_true rfl) [0, 1, 2, 3, 4, 5] [] rfl (by decide) rfl (by decide) (by decide) dX9_told_7 rfl (fun r9 u9 h7 => ?_)
  obtain ⟨fg2_1, rfl⟩ : ∃ z, z = u9 := ⟨_, rfl⟩
  obtain ⟨rfl, h7⟩ := h7
  clear h7
  refine V_perm (ws2 := [(m9, .inr (9, [.ref al, .ref hs, .int (nI hL), .ref ct, .int (nI tt), .int (nI hv), .int (nI lo), .int (nI hi), .int (nI wt), .ref bt, .int (nI bL), .ref cs, .ref gv, .int (nI gL), .int (nI tk), .int (nI vv), .ref rd, .int (nI rM), .ref tx, .int (nI (T.length)), .int (nI (stT T))])), (al, .inl (cI, 44, .inl (fun j => nI ((allF g n e p b) j)))), (ct, .inl (cI, 9, .inl (fun j => nI (f j)))), (gv, .inl (cI, 1400, .inl (fun j => nI (fg2_1 j)))), (rd, .inl (cI, 40, .inl (fun j => nI (frd j)))), (tx, .inl (cI, 120, .inl (fun j => nI (ft j))))]) [0, 1, 2, 3, 4, 5] rfl (by decide) ?_
  refine V_if_eq_F (tgt := 16) hC dX9_told_10 (by decide) (nI_ne0 (by omega) (by omega)) ?_
  refine V_bipush (v := -2) hC dX9_told_13 (by decide) ?_
  subst hQ
  exact V_iret hC hr hlk rfl (by decide) (by decide) dX9_told_15 (fg2_1) [0, 1, 2, 3, 4, 5] rfl (by decide) (⟨rfl, trivial⟩)
abbrev rm_X9_told_n : Room := { frames := 4, cells := 0, slots := 0, locals := 88 }
set_option maxHeartbeats 4000000 in
set_option maxRecDepth 100000 in
theorem c_X9_told_n (l : Launch) (D : va_G) (cI cQ : ClassId) (m9 al hs hL ct tt hv lo hi wt bt bL cs gv gL tk vv rd rM tx tL pl n e p b i : Nat) (g f fg frd ft : Nat → Nat) (T : List Nat) (hT : rep ft T) (hT1 : T.length ≤ 120) (hT2 : ∀ j, j < T.length → T.getD j 0 < 1000) (hx : T.length ≤ stT T) (hp : p ≤ 64) (hb : b ≤ 2000) (hi9 : i < 2147483648) (hfr : 0 < frn p b T) : MI l yX9_told cX9_told 2 (some .int) rm_X9_told_n D (TY cI cQ) [.ref m9, .int (nI i)] [(m9, .inr (9, [.ref al, .ref hs, .int (nI hL), .ref ct, .int (nI tt), .int (nI hv), .int (nI lo), .int (nI hi), .int (nI wt), .ref bt, .int (nI bL), .ref cs, .ref gv, .int (nI gL), .int (nI tk), .int (nI vv), .ref rd, .int (nI rM), .ref tx, .int (nI (T.length)), .int (nI pl)])), (al, .inl (cI, 44, .inl (fun j => nI ((allF g n e p b) j)))), (ct, .inl (cI, 9, .inl (fun j => nI (f j)))), (gv, .inl (cI, 1400, .inl (fun j => nI (fg j)))), (rd, .inl (cI, 40, .inl (fun j => nI (frd j)))), (tx, .inl (cI, 120, .inl (fun j => nI (ft j))))] (fun (r9 : Int32) (u : (Nat → Nat) × (Nat → Nat) × (Nat)) => r9 = (-2) ∧ (True)) (fun (u : (Nat → Nat) × (Nat → Nat) × (Nat)) => [(m9, .inr (9, [.ref al, .ref hs, .int (nI hL), .ref ct, .int (nI (qT ((rdF p b (bT T)).2))), .int (nI (qH ((rdF p b (bT T)).2))), .int (nI (qL ((rdF p b (bT T)).2))), .int (nI (qU ((rdF p b (bT T)).2))), .int (nI wt), .ref bt, .int (nI bL), .ref cs, .ref gv, .int (nI (T.length)), .int (nI (qK ((rdF p b (bT T)).2))), .int (nI (qV ((rdF p b (bT T)).2))), .ref rd, .int (nI ((qR ((rdF p b (bT T)).2)).length)), .ref tx, .int (nI (T.length)), .int (nI (u.2.2))])), (al, .inl (cI, 44, .inl (fun j => nI ((allF g n e p b) j)))), (ct, .inl (cI, 9, .inl (fun j => nI ((qF ((rdF p b (bT T)).2)) j)))), (gv, .inl (cI, 1400, .inl (fun j => nI (u.1 j)))), (rd, .inl (cI, 40, .inl (fun j => nI (u.2.1 j)))), (tx, .inl (cI, 120, .inl (fun j => nI (ft j))))]) 0 0 := by
  refine MI.start (by decide) (Nat.le_of_ble_eq_true rfl) (lv0 := [(0, .ref m9), (1, .int (nI i))]) rfl ?_
  intro pp9 ee9 ss9 mm9 args9 below9 meth9 co9 A9 Q9 hQ hC hr hlk hnm
  have hok := rdd_ok (bT2 T) hp hb 41 (rd0 (bT T)) (okR_0 (bT2 T))
  have hov : (rdF p b (bT T)).1 < 2 := hok.2
  have hqr : (qR (rdF p b (bT T)).2).length ≤ 40 := hok.1.2.2.2.2.2.2
  have hq9 := rdd_lt (bT2 T) hp hb 41 (rd0 (bT T)) (okR_0 (bT2 T)) (fun x hx => absurd hx List.not_mem_nil)
  have hfr3 : frn p b T ≤ 3 := frn_le p b T
  refine V_iload_n hC dX9_told_0 rfl 1 rfl ?_
  refine V_if_ge_T (tgt := 6) hC dX9_told_1 (by decide) (nI_pos' (by omega)) ?_
  refine V_aload_n hC dX9_told_6 rfl 0 rfl ?_
  refine V_calliV (As := []) (rest := []) (wr := []) hC (c_X9_reason_n l D cI cQ m9 al hs hL ct tt hv lo hi wt bt bL cs gv gL tk vv rd rM tx 0 pl n e p b g f fg frd ft _ (hT) (by omega) (hT2) (by omega) (by omega) (by omega)) mok_X9_reason ml_X9_175 (q1 := 0) rfl cls_X9 rfl rfl rfl (by decide) (by decide) (by decide) (Nat.le_of_ble_eq_true rfl) [0, 1, 2, 3, 4, 5] [] rfl (by decide) rfl (by decide) (by decide) dX9_told_7 rfl (fun r9 u9 h7 => ?_)
  obtain ⟨fg2_1, frd2_2, pl2_3⟩ := u9
  obtain ⟨rfl, h7⟩ := h7
  have h7 : rep frd2_2 (qR (rdF p b (bT T)).2) ∧ (frn p b T = 2 → pl2_3 = T.length) ∧ (frn p b T = 3 → pl2_3 = fO (bT T) T.length (qK (rdF p b (bT T)).2)) := h7
  refine V_perm (ws2 := [(m9, .inr (9, [.ref al, .ref hs, .int (nI hL), .ref ct, .int (nI (qT ((rdF p b (bT T)).2))), .int (nI (qH ((rdF p b (bT T)).2))), .int (nI (qL ((rdF p b (bT T)).2))), .int (nI (qU ((rdF p b (bT T)).2))), .int (nI wt), .ref bt, .int (nI bL), .ref cs, .ref gv, .int (nI (T.length)), .int (nI (qK ((rdF p b (bT T)).2))), .int (nI (qV ((rdF p b (bT T)).2))), .ref rd, .int (nI ((qR ((rdF p b (bT T)).2)).length)), .ref tx, .int (nI (T.length)), .int (nI pl2_3)])), (al, .inl (cI, 44, .inl (fun j => nI ((allF g n e p b) j)))), (ct, .inl (cI, 9, .inl (fun j => nI ((qF ((rdF p b (bT T)).2)) j)))), (gv, .inl (cI, 1400, .inl (fun j => nI (fg2_1 j)))), (rd, .inl (cI, 40, .inl (fun j => nI (frd2_2 j)))), (tx, .inl (cI, 120, .inl (fun j => nI (ft j))))]) [0, 1, 2, 3, 4, 5] rfl (by decide) ?_
  refine V_if_eq (tgt := 16) hC (by omega) dX9_told_10 (by decide) (fun c10 => ?_) (fun c10 => ?_)
  · exact False.elim (by omega)
  · refine V_bipush (v := -2) hC dX9_told_13 (by decide) ?_
    subst hQ
    exact V_iret hC hr hlk rfl (by decide) (by decide) dX9_told_15 ((fg2_1, frd2_2, pl2_3)) [0, 1, 2, 3, 4, 5] rfl (by decide) (⟨rfl, trivial⟩)
abbrev rm_X9_told_ok : Room := { frames := 4, cells := 0, slots := 0, locals := 88 }
set_option maxHeartbeats 4000000 in
set_option maxRecDepth 100000 in
theorem c_X9_told_ok (l : Launch) (D : va_G) (cI cQ : ClassId) (m9 al hs hL ct tt hv lo hi wt bt bL cs gv gL tk vv rd rM tx tL pl n e p b i : Nat) (g f fg frd ft : Nat → Nat) (T : List Nat) (hT : rep ft T) (hT1 : T.length ≤ 120) (hT2 : ∀ j, j < T.length → T.getD j 0 < 1000) (hx : T.length ≤ stT T) (hp : p ≤ 64) (hb : b ≤ 2000) (hi9 : i < 2147483648) (hfr : frn p b T = 0) (hlt : i < (qR (rdF p b (bT T)).2).length) : MI l yX9_told cX9_told 2 (some .int) rm_X9_told_ok D (TY cI cQ) [.ref m9, .int (nI i)] [(m9, .inr (9, [.ref al, .ref hs, .int (nI hL), .ref ct, .int (nI tt), .int (nI hv), .int (nI lo), .int (nI hi), .int (nI wt), .ref bt, .int (nI bL), .ref cs, .ref gv, .int (nI gL), .int (nI tk), .int (nI vv), .ref rd, .int (nI rM), .ref tx, .int (nI (T.length)), .int (nI pl)])), (al, .inl (cI, 44, .inl (fun j => nI ((allF g n e p b) j)))), (ct, .inl (cI, 9, .inl (fun j => nI (f j)))), (gv, .inl (cI, 1400, .inl (fun j => nI (fg j)))), (rd, .inl (cI, 40, .inl (fun j => nI (frd j)))), (tx, .inl (cI, 120, .inl (fun j => nI (ft j))))] (fun (r9 : Int32) (u : (Nat → Nat) × (Nat → Nat) × (Nat)) => r9 = (nI ((qR (rdF p b (bT T)).2).getD i 0)) ∧ (True)) (fun (u : (Nat → Nat) × (Nat → Nat) × (Nat)) => [(m9, .inr (9, [.ref al, .ref hs, .int (nI hL), .ref ct, .int (nI (qT ((rdF p b (bT T)).2))), .int (nI (qH ((rdF p b (bT T)).2))), .int (nI (qL ((rdF p b (bT T)).2))), .int (nI (qU ((rdF p b (bT T)).2))), .int (nI wt), .ref bt, .int (nI bL), .ref cs, .ref gv, .int (nI (T.length)), .int (nI (qK ((rdF p b (bT T)).2))), .int (nI (qV ((rdF p b (bT T)).2))), .ref rd, .int (nI ((qR ((rdF p b (bT T)).2)).length)), .ref tx, .int (nI (T.length)), .int (nI (u.2.2))])), (al, .inl (cI, 44, .inl (fun j => nI ((allF g n e p b) j)))), (ct, .inl (cI, 9, .inl (fun j => nI ((qF ((rdF p b (bT T)).2)) j)))), (gv, .inl (cI, 1400, .inl (fun j => nI (u.1 j)))), (rd, .inl (cI, 40, .inl (fun j => nI (u.2.1 j)))), (tx, .inl (cI, 120, .inl (fun j => nI (ft j))))]) 0 0 := by
  refine MI.start (by decide) (Nat.le_of_ble_eq_true rfl) (lv0 := [(0, .ref m9), (1, .int (nI i))]) rfl ?_
  intro pp9 ee9 ss9 mm9 args9 below9 meth9 co9 A9 Q9 hQ hC hr hlk hnm
  have hok := rdd_ok (bT2 T) hp hb 41 (rd0 (bT T)) (okR_0 (bT2 T))
  have hov : (rdF p b (bT T)).1 < 2 := hok.2
  have hqr : (qR (rdF p b (bT T)).2).length ≤ 40 := hok.1.2.2.2.2.2.2
  have hq9 := rdd_lt (bT2 T) hp hb 41 (rd0 (bT T)) (okR_0 (bT2 T)) (fun x hx => absurd hx List.not_mem_nil)
  have hfr3 : frn p b T ≤ 3 := frn_le p b T
  refine V_iload_n hC dX9_told_0 rfl 1 rfl ?_
  refine V_if_ge_T (tgt := 6) hC dX9_told_1 (by decide) (nI_pos' (by omega)) ?_
  refine V_aload_n hC dX9_told_6 rfl 0 rfl ?_
  refine V_calliV (As := []) (rest := []) (wr := []) hC (c_X9_reason_n l D cI cQ m9 al hs hL ct tt hv lo hi wt bt bL cs gv gL tk vv rd rM tx 0 pl n e p b g f fg frd ft _ (hT) (by omega) (hT2) (by omega) (by omega) (by omega)) mok_X9_reason ml_X9_175 (q1 := 0) rfl cls_X9 rfl rfl rfl (by decide) (by decide) (by decide) (Nat.le_of_ble_eq_true rfl) [0, 1, 2, 3, 4, 5] [] rfl (by decide) rfl (by decide) (by decide) dX9_told_7 rfl (fun r9 u9 h7 => ?_)
  obtain ⟨fg2_1, frd2_2, pl2_3⟩ := u9
  obtain ⟨rfl, h7⟩ := h7
  have h7 : rep frd2_2 (qR (rdF p b (bT T)).2) ∧ (frn p b T = 2 → pl2_3 = T.length) ∧ (frn p b T = 3 → pl2_3 = fO (bT T) T.length (qK (rdF p b (bT T)).2)) := h7
  refine V_perm (ws2 := [(m9, .inr (9, [.ref al, .ref hs, .int (nI hL), .ref ct, .int (nI (qT ((rdF p b (bT T)).2))), .int (nI (qH ((rdF p b (bT T)).2))), .int (nI (qL ((rdF p b (bT T)).2))), .int (nI (qU ((rdF p b (bT T)).2))), .int (nI wt), .ref bt, .int (nI bL), .ref cs, .ref gv, .int (nI (T.length)), .int (nI (qK ((rdF p b (bT T)).2))), .int (nI (qV ((rdF p b (bT T)).2))), .ref rd, .int (nI ((qR ((rdF p b (bT T)).2)).length)), .ref tx, .int (nI (T.length)), .int (nI pl2_3)])), (al, .inl (cI, 44, .inl (fun j => nI ((allF g n e p b) j)))), (ct, .inl (cI, 9, .inl (fun j => nI ((qF ((rdF p b (bT T)).2)) j)))), (gv, .inl (cI, 1400, .inl (fun j => nI (fg2_1 j)))), (rd, .inl (cI, 40, .inl (fun j => nI (frd2_2 j)))), (tx, .inl (cI, 120, .inl (fun j => nI (ft j))))]) [0, 1, 2, 3, 4, 5] rfl (by decide) ?_
  refine V_if_eq (tgt := 16) hC (by omega) dX9_told_10 (by decide) (fun c10 => ?_) (fun c10 => ?_)
  · refine V_iload_n hC dX9_told_16 rfl 1 rfl ?_
    refine V_aload_n hC dX9_told_17 rfl 0 rfl ?_
    refine V_get (ci := 9) (v := .int (nI ((qR ((rdF p b (bT T)).2)).length))) hC in_X9 0 rfl cls_X9 17 (by decide) fl_X9_151 rfl dX9_told_18 ?_
    refine V_icmp_ge (tgt := 33) hC (by omega) (by omega) dX9_told_21 (by decide) (fun c21 => ?_) (fun c21 => ?_)
    · exact False.elim (by omega)
    · refine V_aload_n hC dX9_told_24 rfl 0 rfl ?_
      refine V_get (ci := 9) (v := .ref rd) hC in_X9 0 rfl cls_X9 16 (by decide) fl_X9_28 rfl dX9_told_25 ?_
      refine V_iload_n hC dX9_told_28 rfl 1 rfl ?_
      refine V_iald hC 4 0 rfl rfl (by omega) (by decide) dX9_told_29 ?_
      refine V_st (st2 := [.int (nI ((qR (rdF p b (bT T)).2).getD i 0))]) (by rw [show (frd2_2 i) = ((qR (rdF p b (bT T)).2).getD i 0) from h7.1 i (by omega)]) ?_
      refine V_goto (tgt := 35) hC dX9_told_30 (by decide) ?_
      subst hQ
      exact V_iret hC hr hlk rfl (by decide) (by decide) dX9_told_35 ((fg2_1, frd2_2, pl2_3)) [0, 1, 2, 3, 4, 5] rfl (by decide) (⟨rfl, trivial⟩)
  · exact False.elim (by omega)
abbrev rm_X9_told_no : Room := { frames := 4, cells := 0, slots := 0, locals := 88 }
set_option maxHeartbeats 4000000 in
set_option maxRecDepth 100000 in
theorem c_X9_told_no (l : Launch) (D : va_G) (cI cQ : ClassId) (m9 al hs hL ct tt hv lo hi wt bt bL cs gv gL tk vv rd rM tx tL pl n e p b i : Nat) (g f fg frd ft : Nat → Nat) (T : List Nat) (hT : rep ft T) (hT1 : T.length ≤ 120) (hT2 : ∀ j, j < T.length → T.getD j 0 < 1000) (hx : T.length ≤ stT T) (hp : p ≤ 64) (hb : b ≤ 2000) (hi9 : i < 2147483648) (hfr : frn p b T = 0) (hlt : (qR (rdF p b (bT T)).2).length ≤ i) : MI l yX9_told cX9_told 2 (some .int) rm_X9_told_no D (TY cI cQ) [.ref m9, .int (nI i)] [(m9, .inr (9, [.ref al, .ref hs, .int (nI hL), .ref ct, .int (nI tt), .int (nI hv), .int (nI lo), .int (nI hi), .int (nI wt), .ref bt, .int (nI bL), .ref cs, .ref gv, .int (nI gL), .int (nI tk), .int (nI vv), .ref rd, .int (nI rM), .ref tx, .int (nI (T.length)), .int (nI pl)])), (al, .inl (cI, 44, .inl (fun j => nI ((allF g n e p b) j)))), (ct, .inl (cI, 9, .inl (fun j => nI (f j)))), (gv, .inl (cI, 1400, .inl (fun j => nI (fg j)))), (rd, .inl (cI, 40, .inl (fun j => nI (frd j)))), (tx, .inl (cI, 120, .inl (fun j => nI (ft j))))] (fun (r9 : Int32) (u : (Nat → Nat) × (Nat → Nat) × (Nat)) => r9 = (-4) ∧ (True)) (fun (u : (Nat → Nat) × (Nat → Nat) × (Nat)) => [(m9, .inr (9, [.ref al, .ref hs, .int (nI hL), .ref ct, .int (nI (qT ((rdF p b (bT T)).2))), .int (nI (qH ((rdF p b (bT T)).2))), .int (nI (qL ((rdF p b (bT T)).2))), .int (nI (qU ((rdF p b (bT T)).2))), .int (nI wt), .ref bt, .int (nI bL), .ref cs, .ref gv, .int (nI (T.length)), .int (nI (qK ((rdF p b (bT T)).2))), .int (nI (qV ((rdF p b (bT T)).2))), .ref rd, .int (nI ((qR ((rdF p b (bT T)).2)).length)), .ref tx, .int (nI (T.length)), .int (nI (u.2.2))])), (al, .inl (cI, 44, .inl (fun j => nI ((allF g n e p b) j)))), (ct, .inl (cI, 9, .inl (fun j => nI ((qF ((rdF p b (bT T)).2)) j)))), (gv, .inl (cI, 1400, .inl (fun j => nI (u.1 j)))), (rd, .inl (cI, 40, .inl (fun j => nI (u.2.1 j)))), (tx, .inl (cI, 120, .inl (fun j => nI (ft j))))]) 0 0 := by
  refine MI.start (by decide) (Nat.le_of_ble_eq_true rfl) (lv0 := [(0, .ref m9), (1, .int (nI i))]) rfl ?_
  intro pp9 ee9 ss9 mm9 args9 below9 meth9 co9 A9 Q9 hQ hC hr hlk hnm
  have hok := rdd_ok (bT2 T) hp hb 41 (rd0 (bT T)) (okR_0 (bT2 T))
  have hov : (rdF p b (bT T)).1 < 2 := hok.2
  have hqr : (qR (rdF p b (bT T)).2).length ≤ 40 := hok.1.2.2.2.2.2.2
  have hq9 := rdd_lt (bT2 T) hp hb 41 (rd0 (bT T)) (okR_0 (bT2 T)) (fun x hx => absurd hx List.not_mem_nil)
  have hfr3 : frn p b T ≤ 3 := frn_le p b T
  refine V_iload_n hC dX9_told_0 rfl 1 rfl ?_
  refine V_if_ge_T (tgt := 6) hC dX9_told_1 (by decide) (nI_pos' (by omega)) ?_
  refine V_aload_n hC dX9_told_6 rfl 0 rfl ?_
  refine V_calliV (As := []) (rest := []) (wr := []) hC (c_X9_reason_n l D cI cQ m9 al hs hL ct tt hv lo hi wt bt bL cs gv gL tk vv rd rM tx 0 pl n e p b g f fg frd ft _ (hT) (by omega) (hT2) (by omega) (by omega) (by omega)) mok_X9_reason ml_X9_175 (q1 := 0) rfl cls_X9 rfl rfl rfl (by decide) (by decide) (by decide) (Nat.le_of_ble_eq_true rfl) [0, 1, 2, 3, 4, 5] [] rfl (by decide) rfl (by decide) (by decide) dX9_told_7 rfl (fun r9 u9 h7 => ?_)
  obtain ⟨fg2_1, frd2_2, pl2_3⟩ := u9
  obtain ⟨rfl, h7⟩ := h7
  have h7 : rep frd2_2 (qR (rdF p b (bT T)).2) ∧ (frn p b T = 2 → pl2_3 = T.length) ∧ (frn p b T = 3 → pl2_3 = fO (bT T) T.length (qK (rdF p b (bT T)).2)) := h7
  refine V_perm (ws2 := [(m9, .inr (9, [.ref al, .ref hs, .int (nI hL), .ref ct, .int (nI (qT ((rdF p b (bT T)).2))), .int (nI (qH ((rdF p b (bT T)).2))), .int (nI (qL ((rdF p b (bT T)).2))), .int (nI (qU ((rdF p b (bT T)).2))), .int (nI wt), .ref bt, .int (nI bL), .ref cs, .ref gv, .int (nI (T.length)), .int (nI (qK ((rdF p b (bT T)).2))), .int (nI (qV ((rdF p b (bT T)).2))), .ref rd, .int (nI ((qR ((rdF p b (bT T)).2)).length)), .ref tx, .int (nI (T.length)), .int (nI pl2_3)])), (al, .inl (cI, 44, .inl (fun j => nI ((allF g n e p b) j)))), (ct, .inl (cI, 9, .inl (fun j => nI ((qF ((rdF p b (bT T)).2)) j)))), (gv, .inl (cI, 1400, .inl (fun j => nI (fg2_1 j)))), (rd, .inl (cI, 40, .inl (fun j => nI (frd2_2 j)))), (tx, .inl (cI, 120, .inl (fun j => nI (ft j))))]) [0, 1, 2, 3, 4, 5] rfl (by decide) ?_
  refine V_if_eq (tgt := 16) hC (by omega) dX9_told_10 (by decide) (fun c10 => ?_) (fun c10 => ?_)
  · refine V_iload_n hC dX9_told_16 rfl 1 rfl ?_
    refine V_aload_n hC dX9_told_17 rfl 0 rfl ?_
    refine V_get (ci := 9) (v := .int (nI ((qR ((rdF p b (bT T)).2)).length))) hC in_X9 0 rfl cls_X9 17 (by decide) fl_X9_151 rfl dX9_told_18 ?_
    refine V_icmp_ge (tgt := 33) hC (by omega) (by omega) dX9_told_21 (by decide) (fun c21 => ?_) (fun c21 => ?_)
    · refine V_bipush (v := -4) hC dX9_told_33 (by decide) ?_
      subst hQ
      exact V_iret hC hr hlk rfl (by decide) (by decide) dX9_told_35 ((fg2_1, frd2_2, pl2_3)) [0, 1, 2, 3, 4, 5] rfl (by decide) (⟨rfl, trivial⟩)
    · exact False.elim (by omega)
  · exact False.elim (by omega)
