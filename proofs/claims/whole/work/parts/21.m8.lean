abbrev rm_X9_beginsSpan : Room := { frames := 1, cells := 0, slots := 0, locals := 21 }
set_option maxHeartbeats 4000000 in
set_option maxRecDepth 100000 in
theorem c_X9_beginsSpan (l : Launch) (D : va_G) (cI cQ : ClassId) (m9 al hs hL ct tt hv lo hi wt bt bL cs gv gL tk vv rd rM tx tL pl : Nat) (f : Nat → Nat)  : MV l yX9_beginsSpan cX9_beginsSpan 1 none rm_X9_beginsSpan D (TY cI cQ) [.ref m9] [(m9, .inr (9, [.ref al, .ref hs, .int (nI hL), .ref ct, .int (nI tt), .int (nI hv), .int (nI lo), .int (nI hi), .int (nI wt), .ref bt, .int (nI bL), .ref cs, .ref gv, .int (nI gL), .int (nI tk), .int (nI vv), .ref rd, .int (nI rM), .ref tx, .int (nI tL), .int (nI pl)])), (ct, .inl (cI, 9, .inl (fun j => nI (f j))))] (fun (u : Unit) => True) (fun (u : Unit) => [(m9, .inr (9, [.ref al, .ref hs, .int (nI hL), .ref ct, .int (nI 9), .int (nI 0), .int (nI 0), .int (nI 65535), .int (nI wt), .ref bt, .int (nI bL), .ref cs, .ref gv, .int (nI gL), .int (nI tk), .int (nI vv), .ref rd, .int (nI rM), .ref tx, .int (nI tL), .int (nI pl)])), (ct, .inl (cI, 9, .inl (fun j => nI (one j))))]) 0 0 := by
  refine MV.start (by decide) (Nat.le_of_ble_eq_true rfl) (lv0 := [(0, .ref m9)]) rfl ?_
  intro pp9 ee9 ss9 mm9 args9 below9 meth9 co9 A9 Q9 hQ hC hr hlk hnm
  refine V_aload_n hC dX9_beginsSpan_0 rfl 0 rfl ?_
  refine V_callvV (As := []) (rest := []) (wr := []) hC (c_X9_beginsCounts l D cI cQ m9 al hs hL ct tt hv lo hi wt bt bL cs gv gL tk vv rd rM tx tL pl f ) mok_X9_beginsCounts ml_X9_76 (q1 := 0) rfl cls_X9 rfl rfl rfl (by decide) (by decide) (by decide) (Nat.le_of_ble_eq_true rfl) [0, 1] [] rfl (by decide) rfl (by decide) (by decide) dX9_beginsSpan_1 rfl (fun u9 h1 => ?_)
  clear h1
  refine V_perm (ws2 := [(m9, .inr (9, [.ref al, .ref hs, .int (nI hL), .ref ct, .int (nI 9), .int (nI 0), .int (nI lo), .int (nI hi), .int (nI wt), .ref bt, .int (nI bL), .ref cs, .ref gv, .int (nI gL), .int (nI tk), .int (nI vv), .ref rd, .int (nI rM), .ref tx, .int (nI tL), .int (nI pl)])), (ct, .inl (cI, 9, .inl (fun j => nI (one j))))]) [0, 1] rfl (by decide) ?_
  refine V_aload_n hC dX9_beginsSpan_4 rfl 0 rfl ?_
  refine V_iconst (v := nI 0) hC dX9_beginsSpan_5 (by decide) ?_
  refine V_put (ci := 9) (v := .int (nI 0)) hC tyX9 tyX9_ok nmX9 in_X9 0 rfl cls_X9 6 (by decide) fl_X9_53 rfl rfl rfl (Nat.le_of_ble_eq_true rfl) dX9_beginsSpan_6 (ws2 := [(m9, .inr (9, [.ref al, .ref hs, .int (nI hL), .ref ct, .int (nI 9), .int (nI 0), .int (nI 0), .int (nI hi), .int (nI wt), .ref bt, .int (nI bL), .ref cs, .ref gv, .int (nI gL), .int (nI tk), .int (nI vv), .ref rd, .int (nI rM), .ref tx, .int (nI tL), .int (nI pl)])), (ct, .inl (cI, 9, .inl (fun j => nI (one j))))]) rfl ?_
  refine V_aload_n hC dX9_beginsSpan_9 rfl 0 rfl ?_
  refine V_ldc (v2 := nI 65535) hC dX9_beginsSpan_10 cst_X9_79 rfl ?_
  refine V_put (ci := 9) (v := .int (nI 65535)) hC tyX9 tyX9_ok nmX9 in_X9 0 rfl cls_X9 7 (by decide) fl_X9_50 rfl rfl rfl (Nat.le_of_ble_eq_true rfl) dX9_beginsSpan_12 (ws2 := [(m9, .inr (9, [.ref al, .ref hs, .int (nI hL), .ref ct, .int (nI 9), .int (nI 0), .int (nI 0), .int (nI 65535), .int (nI wt), .ref bt, .int (nI bL), .ref cs, .ref gv, .int (nI gL), .int (nI tk), .int (nI vv), .ref rd, .int (nI rM), .ref tx, .int (nI tL), .int (nI pl)])), (ct, .inl (cI, 9, .inl (fun j => nI (one j))))]) rfl ?_
  subst hQ
  exact V_vret hC hr hlk (by decide) (by decide) dX9_beginsSpan_15 (()) [0, 1] rfl (by decide) (trivial)
abbrev rm_X9_ends : Room := { frames := 3, cells := 0, slots := 0, locals := 68 }
set_option maxHeartbeats 4000000 in
set_option maxRecDepth 100000 in
theorem c_X9_ends (l : Launch) (D : va_G) (cI cQ : ClassId) (m9 al hs hL ct bt cs gv gL tk vv rd rM tx tL pl : Nat) (fb : Nat → Nat) (s9 : CS) (hS : okS s9) (hr9 : rep fb (sB s9)) (hl : (sB s9).length + sW s9 + 18 ≤ 1400) : MV l yX9_ends cX9_ends 1 none rm_X9_ends D (TY cI cQ) [.ref m9] [(m9, .inr (9, [.ref al, .ref hs, .int (nI hL), .ref ct, .int (nI (sT (s9))), .int (nI (sH (s9))), .int (nI (sL (s9))), .int (nI (sU (s9))), .int (nI (sW (s9))), .ref bt, .int (nI ((sB (s9)).length)), .ref cs, .ref gv, .int (nI gL), .int (nI tk), .int (nI vv), .ref rd, .int (nI rM), .ref tx, .int (nI tL), .int (nI pl)])), (ct, .inl (cI, 9, .inl (fun j => nI ((sF (s9)) j)))), (bt, .inl (cI, 1400, .inl (fun j => nI (fb j))))] (fun (u : (Nat → Nat)) => rep u (sB (cEnd s9))) (fun (u : (Nat → Nat)) => [(m9, .inr (9, [.ref al, .ref hs, .int (nI hL), .ref ct, .int (nI (sT (cEnd s9))), .int (nI (sH (cEnd s9))), .int (nI (sL (cEnd s9))), .int (nI (sU (cEnd s9))), .int (nI (sW (cEnd s9))), .ref bt, .int (nI ((sB (cEnd s9)).length)), .ref cs, .ref gv, .int (nI gL), .int (nI tk), .int (nI vv), .ref rd, .int (nI rM), .ref tx, .int (nI tL), .int (nI pl)])), (ct, .inl (cI, 9, .inl (fun j => nI ((sF (cEnd s9)) j)))), (bt, .inl (cI, 1400, .inl (fun j => nI (u j))))]) 0 0 := by
  refine MV.start (by decide) (Nat.le_of_ble_eq_true rfl) (lv0 := [(0, .ref m9)]) rfl ?_
  intro pp9 ee9 ss9 mm9 args9 below9 meth9 co9 A9 Q9 hQ hC hr hlk hnm
  have hle := nrS_len s9 8
  have hnk := nrS_ok hS (by decide : 8 < 9)
  refine V_aload_n hC dX9_ends_0 rfl 0 rfl ?_
  refine V_bipush (v := nI 8) hC dX9_ends_1 (by decide) ?_
  refine V_callvV (As := [.int (nI 8)]) (rest := []) (wr := []) hC (c_X9_narrows l D cI cQ m9 al hs hL ct (sT (s9)) (sH (s9)) (sL (s9)) (sU (s9)) (sW (s9)) bt ((sB (s9)).length) cs gv gL tk vv rd rM tx tL pl 8 (sF (s9)) fb (sB s9) (by decide) (hS.1) (⟨hS.2.1, hS.2.2.1⟩) (hS.wide) (rfl) (hr9) (by omega)) mok_X9_narrows ml_X9_80 (q1 := 0) rfl cls_X9 rfl rfl rfl (by decide) (by decide) (by decide) (Nat.le_of_ble_eq_true rfl) [0, 1, 2] [] rfl (by decide) rfl (by decide) (by decide) dX9_ends_3 rfl (fun u9 h3 => ?_)
  obtain ⟨fb2_1, rfl⟩ : ∃ z, z = u9 := ⟨_, rfl⟩
  have h3 : rep fb2_1 (nr 16 (shL (sF (s9)) (sT (s9)) 8 (sL (s9)) (sU (s9))) (shU (sF (s9)) (sT (s9)) 8 (sL (s9)) (sU (s9))) (sW (s9)) (sB s9)).2.2.2 := h3
  refine V_perm (ws2 := [(m9, .inr (9, [.ref al, .ref hs, .int (nI hL), .ref ct, .int (nI ((sT (s9)))), .int (nI ((sH (s9)))), .int (nI ((nr 16 (shL (sF (s9)) (sT (s9)) 8 (sL (s9)) (sU (s9))) (shU (sF (s9)) (sT (s9)) 8 (sL (s9)) (sU (s9))) (sW (s9)) (sB s9)).1)), .int (nI ((nr 16 (shL (sF (s9)) (sT (s9)) 8 (sL (s9)) (sU (s9))) (shU (sF (s9)) (sT (s9)) 8 (sL (s9)) (sU (s9))) (sW (s9)) (sB s9)).2.1)), .int (nI ((nr 16 (shL (sF (s9)) (sT (s9)) 8 (sL (s9)) (sU (s9))) (shU (sF (s9)) (sT (s9)) 8 (sL (s9)) (sU (s9))) (sW (s9)) (sB s9)).2.2.1)), .ref bt, .int (nI ((nr 16 (shL (sF (s9)) (sT (s9)) 8 (sL (s9)) (sU (s9))) (shU (sF (s9)) (sT (s9)) 8 (sL (s9)) (sU (s9))) (sW (s9)) (sB s9)).2.2.2.length)), .ref cs, .ref gv, .int (nI gL), .int (nI tk), .int (nI vv), .ref rd, .int (nI rM), .ref tx, .int (nI tL), .int (nI pl)])), (ct, .inl (cI, 9, .inl (fun j => nI (((sF (s9))) j)))), (bt, .inl (cI, 1400, .inl (fun j => nI (fb2_1 j))))]) [0, 1, 2] rfl (by decide) ?_
  refine V_ws (ws2 := [(m9, .inr (9, [.ref al, .ref hs, .int (nI hL), .ref ct, .int (nI (sT s9)), .int (nI (sH s9)), .int (nI ((nrS s9 8).1)), .int (nI ((nrS s9 8).2.1)), .int (nI ((nrS s9 8).2.2.1)), .ref bt, .int (nI ((nrS s9 8).2.2.2.length)), .ref cs, .ref gv, .int (nI gL), .int (nI tk), .int (nI vv), .ref rd, .int (nI rM), .ref tx, .int (nI tL), .int (nI pl)])), (ct, .inl (cI, 9, .inl (fun j => nI (((sF (s9))) j)))), (bt, .inl (cI, 1400, .inl (fun j => nI (fb2_1 j))))]) (rfl) ?_
  refine V_aload_n hC dX9_ends_6 rfl 0 rfl ?_
  refine V_dup hC dX9_ends_7 rfl ?_
  refine V_get (ci := 9) (v := .int (nI ((nrS s9 8).2.2.1))) hC in_X9 0 rfl cls_X9 8 (by decide) fl_X9_47 rfl dX9_ends_8 ?_
  refine V_iconst (v := nI 1) hC dX9_ends_11 (by decide) ?_
  refine V_iadd hC dX9_ends_12 ?_
  refine V_put (ci := 9) (v := .int (nI (((nrS s9 8).2.2.1) + 1))) hC tyX9 tyX9_ok nmX9 in_X9 0 rfl cls_X9 8 (by decide) fl_X9_47 rfl rfl rfl (Nat.le_of_ble_eq_true rfl) dX9_ends_13 (ws2 := [(m9, .inr (9, [.ref al, .ref hs, .int (nI hL), .ref ct, .int (nI (sT s9)), .int (nI (sH s9)), .int (nI ((nrS s9 8).1)), .int (nI ((nrS s9 8).2.1)), .int (nI (((nrS s9 8).2.2.1) + 1)), .ref bt, .int (nI ((nrS s9 8).2.2.2.length)), .ref cs, .ref gv, .int (nI gL), .int (nI tk), .int (nI vv), .ref rd, .int (nI rM), .ref tx, .int (nI tL), .int (nI pl)])), (ct, .inl (cI, 9, .inl (fun j => nI (((sF (s9))) j)))), (bt, .inl (cI, 1400, .inl (fun j => nI (fb2_1 j))))]) rfl ?_
  refine V_aload_n hC dX9_ends_16 rfl 0 rfl ?_
  refine V_aload_n hC dX9_ends_17 rfl 0 rfl ?_
  refine V_get (ci := 9) (v := .int (nI ((nrS s9 8).1))) hC in_X9 0 rfl cls_X9 6 (by decide) fl_X9_53 rfl dX9_ends_18 ?_
  refine V_sipush (v := nI 16384) hC dX9_ends_21 (by decide) ?_
  refine V_icmp_ge (tgt := 31) hC (by omega) (by omega) dX9_ends_24 (by decide) (fun c24 => ?_) (fun c24 => ?_)
  · refine V_iconst (v := nI 1) hC dX9_ends_31 (by decide) ?_
    refine V_callvV (As := [.int (nI 1)]) (rest := []) (wr := [(ct, .inl (cI, 9, .inl (fun j => nI (((sF (s9))) j))))]) hC (c_X9_writes l D cI cQ m9 al hs hL ct (sT s9) (sH s9) ((nrS s9 8).1) ((nrS s9 8).2.1) (((nrS s9 8).2.2.1) + 1) bt ((nrS s9 8).2.2.2.length) cs gv gL tk vv rd rM tx tL pl 1 fb2_1 ((nrS s9 8).2.2.2) (rfl) (h3) (by omega) (by omega)) mok_X9_writes ml_X9_70 (q1 := 0) rfl cls_X9 rfl rfl rfl (by decide) (by decide) (by decide) (Nat.le_of_ble_eq_true rfl) [0, 2] [1] rfl (by decide) rfl (by decide) (by decide) dX9_ends_32 rfl (fun u9 h32 => ?_)
    obtain ⟨f2_2, rfl⟩ : ∃ z, z = u9 := ⟨_, rfl⟩
    have h32 : rep f2_2 (wB ((nrS s9 8).2.2.2) (((nrS s9 8).2.2.1) + 1) 1) := h32
    refine V_perm (ws2 := [(m9, .inr (9, [.ref al, .ref hs, .int (nI hL), .ref ct, .int (nI ((sT s9))), .int (nI ((sH s9))), .int (nI (((nrS s9 8).1))), .int (nI (((nrS s9 8).2.1))), .int (nI 0), .ref bt, .int (nI (((nrS s9 8).2.2.2.length) + 1 + (((nrS s9 8).2.2.1) + 1))), .ref cs, .ref gv, .int (nI gL), .int (nI tk), .int (nI vv), .ref rd, .int (nI rM), .ref tx, .int (nI tL), .int (nI pl)])), (ct, .inl (cI, 9, .inl (fun j => nI (((sF (s9))) j)))), (bt, .inl (cI, 1400, .inl (fun j => nI (f2_2 j))))]) [1, 0, 2] rfl (by decide) ?_
    have ece : sB (cEnd s9) = wB (nrS s9 8).2.2.2 ((nrS s9 8).2.2.1 + 1) 1 := by show wB _ _ (if (nrS s9 8).1 < 16384 then 0 else 1) = _; rw [if_neg (show ¬ (nrS s9 8).1 < 16384 by omega)]
    rw [← ece] at h32
    refine V_ws (ws2 := [(m9, .inr (9, [.ref al, .ref hs, .int (nI hL), .ref ct, .int (nI (sT (cEnd s9))), .int (nI (sH (cEnd s9))), .int (nI (sL (cEnd s9))), .int (nI (sU (cEnd s9))), .int (nI (sW (cEnd s9))), .ref bt, .int (nI ((sB (cEnd s9)).length)), .ref cs, .ref gv, .int (nI gL), .int (nI tk), .int (nI vv), .ref rd, .int (nI rM), .ref tx, .int (nI tL), .int (nI pl)])), (ct, .inl (cI, 9, .inl (fun j => nI (((sF (s9))) j)))), (bt, .inl (cI, 1400, .inl (fun j => nI (f2_2 j))))]) (by rw [show (sB (cEnd s9)).length = (nrS s9 8).2.2.2.length + 1 + ((nrS s9 8).2.2.1 + 1) by rw [ece, wB_len]]; rfl) ?_
    subst hQ
    exact V_vret hC hr hlk (by decide) (by decide) dX9_ends_35 (f2_2) [0, 1, 2] rfl (by decide) (h32)
  · refine V_iconst (v := nI 0) hC dX9_ends_27 (by decide) ?_
    refine V_goto (tgt := 32) hC dX9_ends_28 (by decide) ?_
    refine V_callvV (As := [.int (nI 0)]) (rest := []) (wr := [(ct, .inl (cI, 9, .inl (fun j => nI (((sF (s9))) j))))]) hC (c_X9_writes l D cI cQ m9 al hs hL ct (sT s9) (sH s9) ((nrS s9 8).1) ((nrS s9 8).2.1) (((nrS s9 8).2.2.1) + 1) bt ((nrS s9 8).2.2.2.length) cs gv gL tk vv rd rM tx tL pl 0 fb2_1 ((nrS s9 8).2.2.2) (rfl) (h3) (by omega) (by omega)) mok_X9_writes ml_X9_70 (q1 := 0) rfl cls_X9 rfl rfl rfl (by decide) (by decide) (by decide) (Nat.le_of_ble_eq_true rfl) [0, 2] [1] rfl (by decide) rfl (by decide) (by decide) dX9_ends_32 rfl (fun u9 h32 => ?_)
    obtain ⟨f2_3, rfl⟩ : ∃ z, z = u9 := ⟨_, rfl⟩
    have h32 : rep f2_3 (wB ((nrS s9 8).2.2.2) (((nrS s9 8).2.2.1) + 1) 0) := h32
    refine V_perm (ws2 := [(m9, .inr (9, [.ref al, .ref hs, .int (nI hL), .ref ct, .int (nI ((sT s9))), .int (nI ((sH s9))), .int (nI (((nrS s9 8).1))), .int (nI (((nrS s9 8).2.1))), .int (nI 0), .ref bt, .int (nI (((nrS s9 8).2.2.2.length) + 1 + (((nrS s9 8).2.2.1) + 1))), .ref cs, .ref gv, .int (nI gL), .int (nI tk), .int (nI vv), .ref rd, .int (nI rM), .ref tx, .int (nI tL), .int (nI pl)])), (ct, .inl (cI, 9, .inl (fun j => nI (((sF (s9))) j)))), (bt, .inl (cI, 1400, .inl (fun j => nI (f2_3 j))))]) [1, 0, 2] rfl (by decide) ?_
    have ece : sB (cEnd s9) = wB (nrS s9 8).2.2.2 ((nrS s9 8).2.2.1 + 1) 0 := by show wB _ _ (if (nrS s9 8).1 < 16384 then 0 else 1) = _; rw [if_pos (show (nrS s9 8).1 < 16384 by omega)]
    rw [← ece] at h32
    refine V_ws (ws2 := [(m9, .inr (9, [.ref al, .ref hs, .int (nI hL), .ref ct, .int (nI (sT (cEnd s9))), .int (nI (sH (cEnd s9))), .int (nI (sL (cEnd s9))), .int (nI (sU (cEnd s9))), .int (nI (sW (cEnd s9))), .ref bt, .int (nI ((sB (cEnd s9)).length)), .ref cs, .ref gv, .int (nI gL), .int (nI tk), .int (nI vv), .ref rd, .int (nI rM), .ref tx, .int (nI tL), .int (nI pl)])), (ct, .inl (cI, 9, .inl (fun j => nI (((sF (s9))) j)))), (bt, .inl (cI, 1400, .inl (fun j => nI (f2_3 j))))]) (by rw [show (sB (cEnd s9)).length = (nrS s9 8).2.2.2.length + 1 + ((nrS s9 8).2.2.1 + 1) by rw [ece, wB_len]]; rfl) ?_
    subst hQ
    exact V_vret hC hr hlk (by decide) (by decide) dX9_ends_35 (f2_3) [0, 1, 2] rfl (by decide) (h32)
abbrev rm_X9_putsAll : Room := { frames := 4, cells := 0, slots := 0, locals := 88 }
set_option maxHeartbeats 4000000 in
set_option maxRecDepth 100000 in
theorem c_X9_putsAll (l : Launch) (D : va_G) (cI cQ : ClassId) (m9 al hs hL ct tt hv lo hi wt bt bL cs gv gL tk vv rd rM tx tL pl n e p b q e2 : Nat) (g f fb fc : Nat → Nat) (hn : n ≤ 40) (hg : ∀ j, j < n → g j < 8) (hb : b ≤ 2000) (hq9 : q ≤ 64) (he2 : e2 < 2) : MV l yX9_putsAll cX9_putsAll 5 none rm_X9_putsAll D (TY cI cQ) [.ref m9, .int (nI q), .int (nI e2)] [(m9, .inr (9, [.ref al, .ref hs, .int (nI hL), .ref ct, .int (nI tt), .int (nI hv), .int (nI lo), .int (nI hi), .int (nI wt), .ref bt, .int (nI bL), .ref cs, .ref gv, .int (nI gL), .int (nI tk), .int (nI vv), .ref rd, .int (nI rM), .ref tx, .int (nI tL), .int (nI pl)])), (al, .inl (cI, 44, .inl (fun j => nI ((allF g n e p b) j)))), (ct, .inl (cI, 9, .inl (fun j => nI (f j)))), (bt, .inl (cI, 1400, .inl (fun j => nI (fb j)))), (cs, .inl (cI, 40, .inl (fun j => nI (fc j))))] (fun (u : (Nat → Nat) × (Nat → Nat)) => rep u.1 (sB (cM q b g n e2)) ∧ ∀ j, j < n → u.2 j = cost q b g j) (fun (u : (Nat → Nat) × (Nat → Nat)) => [(m9, .inr (9, [.ref al, .ref hs, .int (nI hL), .ref ct, .int (nI (sT (cM q b g n e2))), .int (nI (sH (cM q b g n e2))), .int (nI (sL (cM q b g n e2))), .int (nI (sU (cM q b g n e2))), .int (nI (sW (cM q b g n e2))), .ref bt, .int (nI ((sB (cM q b g n e2)).length)), .ref cs, .ref gv, .int (nI gL), .int (nI tk), .int (nI vv), .ref rd, .int (nI rM), .ref tx, .int (nI tL), .int (nI pl)])), (al, .inl (cI, 44, .inl (fun j => nI ((allF g n e p b) j)))), (ct, .inl (cI, 9, .inl (fun j => nI ((sF (cM q b g n e2)) j)))), (bt, .inl (cI, 1400, .inl (fun j => nI (u.1 j)))), (cs, .inl (cI, 40, .inl (fun j => nI (u.2 j))))]) 0 0 := by
  refine MV.start (by decide) (Nat.le_of_ble_eq_true rfl) (lv0 := [(0, .ref m9), (1, .int (nI q)), (2, .int (nI e2))]) rfl ?_
  intro pp9 ee9 ss9 mm9 args9 below9 meth9 co9 A9 Q9 hQ hC hr hlk hnm
  refine V_aload_n hC dX9_putsAll_0 rfl 0 rfl ?_
  refine V_callvV (As := []) (rest := []) (wr := [(al, .inl (cI, 44, .inl (fun j => nI ((allF g n e p b) j)))), (bt, .inl (cI, 1400, .inl (fun j => nI (fb j)))), (cs, .inl (cI, 40, .inl (fun j => nI (fc j))))]) hC (c_X9_beginsSpan l D cI cQ m9 al hs hL ct tt hv lo hi wt bt bL cs gv gL tk vv rd rM tx tL pl f ) mok_X9_beginsSpan ml_X9_83 (q1 := 0) rfl cls_X9 rfl rfl rfl (by decide) (by decide) (by decide) (Nat.le_of_ble_eq_true rfl) [0, 2] [1, 3, 4] rfl (by decide) rfl (by decide) (by decide) dX9_putsAll_1 rfl (fun u9 h1 => ?_)
  clear h1
  refine V_perm (ws2 := [(m9, .inr (9, [.ref al, .ref hs, .int (nI hL), .ref ct, .int (nI 9), .int (nI 0), .int (nI 0), .int (nI 65535), .int (nI wt), .ref bt, .int (nI bL), .ref cs, .ref gv, .int (nI gL), .int (nI tk), .int (nI vv), .ref rd, .int (nI rM), .ref tx, .int (nI tL), .int (nI pl)])), (al, .inl (cI, 44, .inl (fun j => nI ((allF g n e p b) j)))), (ct, .inl (cI, 9, .inl (fun j => nI (one j)))), (bt, .inl (cI, 1400, .inl (fun j => nI (fb j)))), (cs, .inl (cI, 40, .inl (fun j => nI (fc j))))]) [3, 0, 4, 1, 2] rfl (by decide) ?_
  refine V_aload_n hC dX9_putsAll_4 rfl 0 rfl ?_
  refine V_iconst (v := nI 0) hC dX9_putsAll_5 (by decide) ?_
  refine V_put (ci := 9) (v := .int (nI 0)) hC tyX9 tyX9_ok nmX9 in_X9 0 rfl cls_X9 8 (by decide) fl_X9_47 rfl rfl rfl (Nat.le_of_ble_eq_true rfl) dX9_putsAll_6 (ws2 := [(m9, .inr (9, [.ref al, .ref hs, .int (nI hL), .ref ct, .int (nI 9), .int (nI 0), .int (nI 0), .int (nI 65535), .int (nI 0), .ref bt, .int (nI bL), .ref cs, .ref gv, .int (nI gL), .int (nI tk), .int (nI vv), .ref rd, .int (nI rM), .ref tx, .int (nI tL), .int (nI pl)])), (al, .inl (cI, 44, .inl (fun j => nI ((allF g n e p b) j)))), (ct, .inl (cI, 9, .inl (fun j => nI (one j)))), (bt, .inl (cI, 1400, .inl (fun j => nI (fb j)))), (cs, .inl (cI, 40, .inl (fun j => nI (fc j))))]) rfl ?_
  refine V_aload_n hC dX9_putsAll_9 rfl 0 rfl ?_
  refine V_iconst (v := nI 0) hC dX9_putsAll_10 (by decide) ?_
  refine V_put (ci := 9) (v := .int (nI 0)) hC tyX9 tyX9_ok nmX9 in_X9 0 rfl cls_X9 10 (by decide) fl_X9_44 rfl rfl rfl (Nat.le_of_ble_eq_true rfl) dX9_putsAll_11 (ws2 := [(m9, .inr (9, [.ref al, .ref hs, .int (nI hL), .ref ct, .int (nI 9), .int (nI 0), .int (nI 0), .int (nI 65535), .int (nI 0), .ref bt, .int (nI 0), .ref cs, .ref gv, .int (nI gL), .int (nI tk), .int (nI vv), .ref rd, .int (nI rM), .ref tx, .int (nI tL), .int (nI pl)])), (al, .inl (cI, 44, .inl (fun j => nI ((allF g n e p b) j)))), (ct, .inl (cI, 9, .inl (fun j => nI (one j)))), (bt, .inl (cI, 1400, .inl (fun j => nI (fb j)))), (cs, .inl (cI, 40, .inl (fun j => nI (fc j))))]) rfl ?_
  refine V_iconst (v := nI 0) hC dX9_putsAll_14 (by decide) ?_
  refine V_istore_n (lv2 := [(0, .ref m9), (1, .int (nI q)), (2, .int (nI e2)), (3, .int (nI 0))]) hC dX9_putsAll_15 rfl (by decide) [1, 2, 3, 0] rfl ?_
  have L16 : ∀ (n9 : Nat) (i : Nat) (fb2 : Nat → Nat) (fc2 : Nat → Nat), (i ≤ n) → (rep fb2 (sB (cR q b g i))) → (∀ j, j < i → fc2 j = cost q b g j) → n - i < n9 → V pp9 l ee9 rm_X9_putsAll ss9 mm9 args9 below9 meth9 co9 D A9 ss9.heap 5 Q9 [(m9, .inr (9, [.ref al, .ref hs, .int (nI hL), .ref ct, .int (nI (sT (cR q b g i))), .int (nI (sH (cR q b g i))), .int (nI (sL (cR q b g i))), .int (nI (sU (cR q b g i))), .int (nI (sW (cR q b g i))), .ref bt, .int (nI ((sB (cR q b g i)).length)), .ref cs, .ref gv, .int (nI gL), .int (nI tk), .int (nI vv), .ref rd, .int (nI rM), .ref tx, .int (nI tL), .int (nI pl)])), (al, .inl (cI, 44, .inl (fun j => nI ((allF g n e p b) j)))), (ct, .inl (cI, 9, .inl (fun j => nI ((sF (cR q b g i)) j)))), (bt, .inl (cI, 1400, .inl (fun j => nI (fb2 j)))), (cs, .inl (cI, 40, .inl (fun j => nI (fc2 j))))] [(0, .ref m9), (1, .int (nI q)), (2, .int (nI e2)), (3, .int (nI i))] 0 0 16 [] := by
    intro n9
    induction n9 with
    | zero => intro i fb2 fc2 h1 h2 h3 h9; exact absurd h9 (Nat.not_lt_zero _)
    | succ n9 ih16 =>
      intro i fb2 fc2 h1 h2 h3 h9
      refine V_iload_n hC dX9_putsAll_16 rfl 3 rfl ?_
      refine V_aload_n hC dX9_putsAll_17 rfl 0 rfl ?_
      refine V_get (ci := 9) (v := .ref al) hC in_X9 0 rfl cls_X9 0 (by decide) fl_X9_7 rfl dX9_putsAll_18 ?_
      refine V_iconst (v := nI 2) hC dX9_putsAll_21 (by decide) ?_
      refine V_iald hC 1 0 rfl rfl (by omega) (by decide) dX9_putsAll_22 ?_
      refine V_st (st2 := [.int (nI n), .int (nI i)]) (by rw [show ((allF g n e p b) 2) = (n) from rfl]) ?_
      refine V_icmp_ge (tgt := 76) hC (by omega) (by omega) dX9_putsAll_23 (by decide) (fun c23 => ?_) (fun c23 => ?_)
      · have ei9 : i = n := by omega
        subst ei9
        refine V_iload_n hC dX9_putsAll_76 rfl 2 rfl ?_
        refine V_if_eq (tgt := 84) hC (by omega) dX9_putsAll_77 (by decide) (fun c77 => ?_) (fun c77 => ?_)
        · refine V_ws (ws2 := [(m9, .inr (9, [.ref al, .ref hs, .int (nI hL), .ref ct, .int (nI (sT (cM q b g i e2))), .int (nI (sH (cM q b g i e2))), .int (nI (sL (cM q b g i e2))), .int (nI (sU (cM q b g i e2))), .int (nI (sW (cM q b g i e2))), .ref bt, .int (nI ((sB (cM q b g i e2)).length)), .ref cs, .ref gv, .int (nI gL), .int (nI tk), .int (nI vv), .ref rd, .int (nI rM), .ref tx, .int (nI tL), .int (nI pl)])), (al, .inl (cI, 44, .inl (fun j => nI ((allF g i e p b) j)))), (ct, .inl (cI, 9, .inl (fun j => nI ((sF (cM q b g i e2)) j)))), (bt, .inl (cI, 1400, .inl (fun j => nI (fb2 j)))), (cs, .inl (cI, 40, .inl (fun j => nI (fc2 j))))]) (by rw [show cM q b g i e2 = cR q b g i from if_neg (by omega)]) ?_
          subst hQ
          exact V_vret hC hr hlk (by decide) (by decide) dX9_putsAll_84 ((fb2, fc2)) [0, 1, 2, 3, 4] rfl (by decide) (⟨by rw [show cM q b g i e2 = cR q b g i from if_neg (by omega)]; exact h2, h3⟩)
        · refine V_aload_n hC dX9_putsAll_80 rfl 0 rfl ?_
          refine V_callvV (As := []) (rest := []) (wr := [(al, .inl (cI, 44, .inl (fun j => nI ((allF g i e p b) j)))), (cs, .inl (cI, 40, .inl (fun j => nI (fc2 j))))]) hC (c_X9_ends l D cI cQ m9 al hs hL ct bt cs gv gL tk vv rd rM tx tL pl fb2 (cR q b g i) (cR_ok hq9 hb hg) (h2) (by have := cR_len q b g i; omega)) mok_X9_ends ml_X9_90 (q1 := 0) rfl cls_X9 rfl rfl rfl (by decide) (by decide) (by decide) (Nat.le_of_ble_eq_true rfl) [0, 2, 3] [1, 4] rfl (by decide) rfl (by decide) (by decide) dX9_putsAll_81 rfl (fun u9 h81 => ?_)
          obtain ⟨fb2_1, rfl⟩ : ∃ z, z = u9 := ⟨_, rfl⟩
          have h81 : rep fb2_1 (sB (cEnd (cR q b g i))) := h81
          refine V_perm (ws2 := [(m9, .inr (9, [.ref al, .ref hs, .int (nI hL), .ref ct, .int (nI (sT (cEnd (cR q b g i)))), .int (nI (sH (cEnd (cR q b g i)))), .int (nI (sL (cEnd (cR q b g i)))), .int (nI (sU (cEnd (cR q b g i)))), .int (nI (sW (cEnd (cR q b g i)))), .ref bt, .int (nI ((sB (cEnd (cR q b g i))).length)), .ref cs, .ref gv, .int (nI gL), .int (nI tk), .int (nI vv), .ref rd, .int (nI rM), .ref tx, .int (nI tL), .int (nI pl)])), (al, .inl (cI, 44, .inl (fun j => nI ((allF g i e p b) j)))), (ct, .inl (cI, 9, .inl (fun j => nI ((sF (cEnd (cR q b g i))) j)))), (bt, .inl (cI, 1400, .inl (fun j => nI (fb2_1 j)))), (cs, .inl (cI, 40, .inl (fun j => nI (fc2 j))))]) [2, 0, 3, 4, 1] rfl (by decide) ?_
          refine V_ws (ws2 := [(m9, .inr (9, [.ref al, .ref hs, .int (nI hL), .ref ct, .int (nI (sT (cM q b g i e2))), .int (nI (sH (cM q b g i e2))), .int (nI (sL (cM q b g i e2))), .int (nI (sU (cM q b g i e2))), .int (nI (sW (cM q b g i e2))), .ref bt, .int (nI ((sB (cM q b g i e2)).length)), .ref cs, .ref gv, .int (nI gL), .int (nI tk), .int (nI vv), .ref rd, .int (nI rM), .ref tx, .int (nI tL), .int (nI pl)])), (al, .inl (cI, 44, .inl (fun j => nI ((allF g i e p b) j)))), (ct, .inl (cI, 9, .inl (fun j => nI ((sF (cM q b g i e2)) j)))), (bt, .inl (cI, 1400, .inl (fun j => nI (fb2_1 j)))), (cs, .inl (cI, 40, .inl (fun j => nI (fc2 j))))]) (by rw [show cM q b g i e2 = cEnd (cR q b g i) from if_pos (by omega)]) ?_
          subst hQ
          exact V_vret hC hr hlk (by decide) (by decide) dX9_putsAll_84 ((fb2_1, fc2)) [0, 1, 2, 3, 4] rfl (by decide) (⟨by rw [show cM q b g i e2 = cEnd (cR q b g i) from if_pos (by omega)]; exact h81, h3⟩)
      · have hSi := cR_ok (g := g) (n := i) hq9 hb (fun j hj => hg j (by omega))
        have hni := (nrS_len (cR q b g i) (g i)).1
        refine V_aload_n hC dX9_putsAll_26 rfl 0 rfl ?_
        refine V_get (ci := 9) (v := .int (nI ((sB (cR q b g i)).length))) hC in_X9 0 rfl cls_X9 10 (by decide) fl_X9_44 rfl dX9_putsAll_27 ?_
        refine V_istore (lv2 := [(0, .ref m9), (1, .int (nI q)), (2, .int (nI e2)), (3, .int (nI i)), (4, .int (nI ((sB (cR q b g i)).length)))]) hC dX9_putsAll_30 (by decide) [1, 2, 3, 4, 0] rfl ?_
        refine V_aload_n hC dX9_putsAll_32 rfl 0 rfl ?_
        refine V_aload_n hC dX9_putsAll_33 rfl 0 rfl ?_
        refine V_get (ci := 9) (v := .ref al) hC in_X9 0 rfl cls_X9 0 (by decide) fl_X9_7 rfl dX9_putsAll_34 ?_
        refine V_iconst (v := nI 4) hC dX9_putsAll_37 (by decide) ?_
        refine V_iload_n hC dX9_putsAll_38 rfl 3 rfl ?_
        refine V_iadd hC dX9_putsAll_39 ?_
        refine V_iald hC 1 0 rfl rfl (by omega) (by decide) dX9_putsAll_40 ?_
        refine V_st (st2 := [.int (nI (g i)), .ref m9]) (by rw [show ((allF g n e p b) (4 + i)) = (g i) from allF_4 _ _ _ _ _ _]) ?_
        refine V_callvV (As := [.int (nI (g i))]) (rest := []) (wr := [(al, .inl (cI, 44, .inl (fun j => nI ((allF g n e p b) j)))), (cs, .inl (cI, 40, .inl (fun j => nI (fc2 j))))]) hC (c_X9_narrows l D cI cQ m9 al hs hL ct (sT (cR q b g i)) (sH (cR q b g i)) (sL (cR q b g i)) (sU (cR q b g i)) (sW (cR q b g i)) bt ((sB (cR q b g i)).length) cs gv gL tk vv rd rM tx tL pl (g i) (sF (cR q b g i)) fb2 (sB (cR q b g i)) (by have := hg i (by omega); omega) (hSi.1) (⟨hSi.2.1, hSi.2.2.1⟩) (hSi.wide) (rfl) (h2) (by have := cR_len q b g i; omega)) mok_X9_narrows ml_X9_80 (q1 := 0) rfl cls_X9 rfl rfl rfl (by decide) (by decide) (by decide) (Nat.le_of_ble_eq_true rfl) [0, 2, 3] [1, 4] rfl (by decide) rfl (by decide) (by decide) dX9_putsAll_41 rfl (fun u9 h41 => ?_)
        obtain ⟨fb2_2, rfl⟩ : ∃ z, z = u9 := ⟨_, rfl⟩
        have h41 : rep fb2_2 (nr 16 (shL (sF (cR q b g i)) (sT (cR q b g i)) (g i) (sL (cR q b g i)) (sU (cR q b g i))) (shU (sF (cR q b g i)) (sT (cR q b g i)) (g i) (sL (cR q b g i)) (sU (cR q b g i))) (sW (cR q b g i)) (sB (cR q b g i))).2.2.2 := h41
        refine V_perm (ws2 := [(m9, .inr (9, [.ref al, .ref hs, .int (nI hL), .ref ct, .int (nI ((sT (cR q b g i)))), .int (nI ((sH (cR q b g i)))), .int (nI ((nr 16 (shL (sF (cR q b g i)) (sT (cR q b g i)) (g i) (sL (cR q b g i)) (sU (cR q b g i))) (shU (sF (cR q b g i)) (sT (cR q b g i)) (g i) (sL (cR q b g i)) (sU (cR q b g i))) (sW (cR q b g i)) (sB (cR q b g i))).1)), .int (nI ((nr 16 (shL (sF (cR q b g i)) (sT (cR q b g i)) (g i) (sL (cR q b g i)) (sU (cR q b g i))) (shU (sF (cR q b g i)) (sT (cR q b g i)) (g i) (sL (cR q b g i)) (sU (cR q b g i))) (sW (cR q b g i)) (sB (cR q b g i))).2.1)), .int (nI ((nr 16 (shL (sF (cR q b g i)) (sT (cR q b g i)) (g i) (sL (cR q b g i)) (sU (cR q b g i))) (shU (sF (cR q b g i)) (sT (cR q b g i)) (g i) (sL (cR q b g i)) (sU (cR q b g i))) (sW (cR q b g i)) (sB (cR q b g i))).2.2.1)), .ref bt, .int (nI ((nr 16 (shL (sF (cR q b g i)) (sT (cR q b g i)) (g i) (sL (cR q b g i)) (sU (cR q b g i))) (shU (sF (cR q b g i)) (sT (cR q b g i)) (g i) (sL (cR q b g i)) (sU (cR q b g i))) (sW (cR q b g i)) (sB (cR q b g i))).2.2.2.length)), .ref cs, .ref gv, .int (nI gL), .int (nI tk), .int (nI vv), .ref rd, .int (nI rM), .ref tx, .int (nI tL), .int (nI pl)])), (al, .inl (cI, 44, .inl (fun j => nI ((allF g n e p b) j)))), (ct, .inl (cI, 9, .inl (fun j => nI (((sF (cR q b g i))) j)))), (bt, .inl (cI, 1400, .inl (fun j => nI (fb2_2 j)))), (cs, .inl (cI, 40, .inl (fun j => nI (fc2 j))))]) [2, 0, 3, 4, 1] rfl (by decide) ?_
        refine V_aload_n hC dX9_putsAll_44 rfl 0 rfl ?_
        refine V_get (ci := 9) (v := .ref cs) hC in_X9 0 rfl cls_X9 11 (by decide) fl_X9_22 rfl dX9_putsAll_45 ?_
        refine V_iload_n hC dX9_putsAll_48 rfl 3 rfl ?_
        refine V_aload_n hC dX9_putsAll_49 rfl 0 rfl ?_
        refine V_get (ci := 9) (v := .int (nI ((nr 16 (shL (sF (cR q b g i)) (sT (cR q b g i)) (g i) (sL (cR q b g i)) (sU (cR q b g i))) (shU (sF (cR q b g i)) (sT (cR q b g i)) (g i) (sL (cR q b g i)) (sU (cR q b g i))) (sW (cR q b g i)) (sB (cR q b g i))).2.2.2.length))) hC in_X9 0 rfl cls_X9 10 (by decide) fl_X9_44 rfl dX9_putsAll_50 ?_
        refine V_iload hC dX9_putsAll_53 4 rfl ?_
        refine V_isub hC dX9_putsAll_55 (show (sB (cR q b g i)).length ≤ (nrS (cR q b g i) (g i)).2.2.2.length from hni) ?_
        refine V_iast hC 4 0 rfl rfl (by omega) (by decide) dX9_putsAll_56 (ws2 := [(m9, .inr (9, [.ref al, .ref hs, .int (nI hL), .ref ct, .int (nI ((sT (cR q b g i)))), .int (nI ((sH (cR q b g i)))), .int (nI ((nr 16 (shL (sF (cR q b g i)) (sT (cR q b g i)) (g i) (sL (cR q b g i)) (sU (cR q b g i))) (shU (sF (cR q b g i)) (sT (cR q b g i)) (g i) (sL (cR q b g i)) (sU (cR q b g i))) (sW (cR q b g i)) (sB (cR q b g i))).1)), .int (nI ((nr 16 (shL (sF (cR q b g i)) (sT (cR q b g i)) (g i) (sL (cR q b g i)) (sU (cR q b g i))) (shU (sF (cR q b g i)) (sT (cR q b g i)) (g i) (sL (cR q b g i)) (sU (cR q b g i))) (sW (cR q b g i)) (sB (cR q b g i))).2.1)), .int (nI ((nr 16 (shL (sF (cR q b g i)) (sT (cR q b g i)) (g i) (sL (cR q b g i)) (sU (cR q b g i))) (shU (sF (cR q b g i)) (sT (cR q b g i)) (g i) (sL (cR q b g i)) (sU (cR q b g i))) (sW (cR q b g i)) (sB (cR q b g i))).2.2.1)), .ref bt, .int (nI ((nr 16 (shL (sF (cR q b g i)) (sT (cR q b g i)) (g i) (sL (cR q b g i)) (sU (cR q b g i))) (shU (sF (cR q b g i)) (sT (cR q b g i)) (g i) (sL (cR q b g i)) (sU (cR q b g i))) (sW (cR q b g i)) (sB (cR q b g i))).2.2.2.length)), .ref cs, .ref gv, .int (nI gL), .int (nI tk), .int (nI vv), .ref rd, .int (nI rM), .ref tx, .int (nI tL), .int (nI pl)])), (al, .inl (cI, 44, .inl (fun j => nI ((allF g n e p b) j)))), (ct, .inl (cI, 9, .inl (fun j => nI (((sF (cR q b g i))) j)))), (bt, .inl (cI, 1400, .inl (fun j => nI (fb2_2 j)))), (cs, .inl (cI, 40, .inl (fun j => nI ((va_up fc2 i (((nr 16 (shL (sF (cR q b g i)) (sT (cR q b g i)) (g i) (sL (cR q b g i)) (sU (cR q b g i))) (shU (sF (cR q b g i)) (sT (cR q b g i)) (g i) (sL (cR q b g i)) (sU (cR q b g i))) (sW (cR q b g i)) (sB (cR q b g i))).2.2.2.length) - ((sB (cR q b g i)).length))) j))))]) rfl ?_
        refine V_aload_n hC dX9_putsAll_57 rfl 0 rfl ?_
        refine V_aload_n hC dX9_putsAll_58 rfl 0 rfl ?_
        refine V_get (ci := 9) (v := .ref al) hC in_X9 0 rfl cls_X9 0 (by decide) fl_X9_7 rfl dX9_putsAll_59 ?_
        refine V_iconst (v := nI 4) hC dX9_putsAll_62 (by decide) ?_
        refine V_iload_n hC dX9_putsAll_63 rfl 3 rfl ?_
        refine V_iadd hC dX9_putsAll_64 ?_
        refine V_iald hC 1 0 rfl rfl (by omega) (by decide) dX9_putsAll_65 ?_
        refine V_st (st2 := [.int (nI (g i)), .ref m9]) (by rw [show ((allF g n e p b) (4 + i)) = (g i) from allF_4 _ _ _ _ _ _]) ?_
        refine V_iload_n hC dX9_putsAll_66 rfl 1 rfl ?_
        refine V_callvV (As := [.int (nI (g i)), .int (nI q)]) (rest := []) (wr := [(bt, .inl (cI, 1400, .inl (fun j => nI (fb2_2 j)))), (cs, .inl (cI, 40, .inl (fun j => nI ((va_up fc2 i (((nr 16 (shL (sF (cR q b g i)) (sT (cR q b g i)) (g i) (sL (cR q b g i)) (sU (cR q b g i))) (shU (sF (cR q b g i)) (sT (cR q b g i)) (g i) (sL (cR q b g i)) (sU (cR q b g i))) (sW (cR q b g i)) (sB (cR q b g i))).2.2.2.length) - ((sB (cR q b g i)).length))) j))))]) hC (c_X9_learns l D cI cQ m9 al hs hL ct ((sT (cR q b g i))) ((sH (cR q b g i))) ((nr 16 (shL (sF (cR q b g i)) (sT (cR q b g i)) (g i) (sL (cR q b g i)) (sU (cR q b g i))) (shU (sF (cR q b g i)) (sT (cR q b g i)) (g i) (sL (cR q b g i)) (sU (cR q b g i))) (sW (cR q b g i)) (sB (cR q b g i))).1) ((nr 16 (shL (sF (cR q b g i)) (sT (cR q b g i)) (g i) (sL (cR q b g i)) (sU (cR q b g i))) (shU (sF (cR q b g i)) (sT (cR q b g i)) (g i) (sL (cR q b g i)) (sU (cR q b g i))) (sW (cR q b g i)) (sB (cR q b g i))).2.1) ((nr 16 (shL (sF (cR q b g i)) (sT (cR q b g i)) (g i) (sL (cR q b g i)) (sU (cR q b g i))) (shU (sF (cR q b g i)) (sT (cR q b g i)) (g i) (sL (cR q b g i)) (sU (cR q b g i))) (sW (cR q b g i)) (sB (cR q b g i))).2.2.1) bt ((nr 16 (shL (sF (cR q b g i)) (sT (cR q b g i)) (g i) (sL (cR q b g i)) (sU (cR q b g i))) (shU (sF (cR q b g i)) (sT (cR q b g i)) (g i) (sL (cR q b g i)) (sU (cR q b g i))) (sW (cR q b g i)) (sB (cR q b g i))).2.2.2.length) cs gv gL tk vv rd rM tx tL pl n e p b (g i) q g ((sF (cR q b g i))) (by have := hg i (by omega); omega) (hSi.1) (hq9) (hb)) mok_X9_learns ml_X9_86 (q1 := 0) rfl cls_X9 rfl rfl rfl (by decide) (by decide) (by decide) (Nat.le_of_ble_eq_true rfl) [0, 1, 2] [3, 4] rfl (by decide) rfl (by decide) (by decide) dX9_putsAll_67 rfl (fun u9 h67 => ?_)
        clear h67
        refine V_perm (ws2 := [(m9, .inr (9, [.ref al, .ref hs, .int (nI hL), .ref ct, .int (nI (lrT q b ((sF (cR q b g i))) ((sT (cR q b g i))) (g i))), .int (nI (lrH q b ((sT (cR q b g i))) ((sH (cR q b g i))))), .int (nI (((nr 16 (shL (sF (cR q b g i)) (sT (cR q b g i)) (g i) (sL (cR q b g i)) (sU (cR q b g i))) (shU (sF (cR q b g i)) (sT (cR q b g i)) (g i) (sL (cR q b g i)) (sU (cR q b g i))) (sW (cR q b g i)) (sB (cR q b g i))).1))), .int (nI (((nr 16 (shL (sF (cR q b g i)) (sT (cR q b g i)) (g i) (sL (cR q b g i)) (sU (cR q b g i))) (shU (sF (cR q b g i)) (sT (cR q b g i)) (g i) (sL (cR q b g i)) (sU (cR q b g i))) (sW (cR q b g i)) (sB (cR q b g i))).2.1))), .int (nI (((nr 16 (shL (sF (cR q b g i)) (sT (cR q b g i)) (g i) (sL (cR q b g i)) (sU (cR q b g i))) (shU (sF (cR q b g i)) (sT (cR q b g i)) (g i) (sL (cR q b g i)) (sU (cR q b g i))) (sW (cR q b g i)) (sB (cR q b g i))).2.2.1))), .ref bt, .int (nI (((nr 16 (shL (sF (cR q b g i)) (sT (cR q b g i)) (g i) (sL (cR q b g i)) (sU (cR q b g i))) (shU (sF (cR q b g i)) (sT (cR q b g i)) (g i) (sL (cR q b g i)) (sU (cR q b g i))) (sW (cR q b g i)) (sB (cR q b g i))).2.2.2.length))), .ref cs, .ref gv, .int (nI gL), .int (nI tk), .int (nI vv), .ref rd, .int (nI rM), .ref tx, .int (nI tL), .int (nI pl)])), (al, .inl (cI, 44, .inl (fun j => nI ((allF g n e p b) j)))), (ct, .inl (cI, 9, .inl (fun j => nI ((lrF q b ((sF (cR q b g i))) ((sT (cR q b g i))) (g i)) j)))), (bt, .inl (cI, 1400, .inl (fun j => nI (fb2_2 j)))), (cs, .inl (cI, 40, .inl (fun j => nI ((va_up fc2 i (((nr 16 (shL (sF (cR q b g i)) (sT (cR q b g i)) (g i) (sL (cR q b g i)) (sU (cR q b g i))) (shU (sF (cR q b g i)) (sT (cR q b g i)) (g i) (sL (cR q b g i)) (sU (cR q b g i))) (sW (cR q b g i)) (sB (cR q b g i))).2.2.2.length) - ((sB (cR q b g i)).length))) j))))]) [2, 3, 4, 0, 1] rfl (by decide) ?_
        refine V_iinc (v := (nI (i + 1))) (lv2 := [(0, .ref m9), (1, .int (nI q)), (2, .int (nI e2)), (3, .int (nI (i + 1))), (4, .int (nI ((sB (cR q b g i)).length)))]) (q := 3) hC dX9_putsAll_70 rfl (nI_add _ _) (by decide) [1, 2, 3, 0, 4] rfl ?_
        refine V_goto (tgt := 16) hC dX9_putsAll_73 (by decide) ?_
        refine V_ws (ws2 := [(m9, .inr (9, [.ref al, .ref hs, .int (nI hL), .ref ct, .int (nI (sT (cR q b g (i + 1)))), .int (nI (sH (cR q b g (i + 1)))), .int (nI (sL (cR q b g (i + 1)))), .int (nI (sU (cR q b g (i + 1)))), .int (nI (sW (cR q b g (i + 1)))), .ref bt, .int (nI ((sB (cR q b g (i + 1))).length)), .ref cs, .ref gv, .int (nI gL), .int (nI tk), .int (nI vv), .ref rd, .int (nI rM), .ref tx, .int (nI tL), .int (nI pl)])), (al, .inl (cI, 44, .inl (fun j => nI ((allF g n e p b) j)))), (ct, .inl (cI, 9, .inl (fun j => nI ((sF (cR q b g (i + 1))) j)))), (bt, .inl (cI, 1400, .inl (fun j => nI (fb2_2 j)))), (cs, .inl (cI, 40, .inl (fun j => nI ((va_up fc2 i (cost q b g i)) j))))]) (rfl) ?_
        refine V_pick (lv2 := [(0, .ref m9), (1, .int (nI q)), (2, .int (nI e2)), (3, .int (nI ((i + 1))))]) [0, 1, 2, 3] rfl ?_
        exact ih16 (i + 1) fb2_2 (va_up fc2 i (cost q b g i)) (by omega) (h41) (lt_s (fun j hj => by rw [va_up_ne fc2 _ (show j ≠ i by omega)]; exact h3 j hj) (va_up_self fc2 i _)) (by omega)
  exact L16 _ 0 fb fc (by omega) (rep_nil _) (fun j hj => absurd hj (Nat.not_lt_zero j)) (Nat.lt_succ_self _)
abbrev rm_X9_putsNow : Room := { frames := 5, cells := 0, slots := 0, locals := 112 }
set_option maxHeartbeats 4000000 in
set_option maxRecDepth 100000 in
theorem c_X9_putsNow (l : Launch) (D : va_G) (cI cQ : ClassId) (m9 al hs hL ct tt hv lo hi wt bt bL cs gv gL tk vv rd rM tx tL pl n e p b : Nat) (g f fb fc : Nat → Nat) (hn : n ≤ 40) (hg : ∀ j, j < n → g j < 8) (he : e < 2) (hp : p ≤ 64) (hb : b ≤ 2000) : MV l yX9_putsNow cX9_putsNow 1 none rm_X9_putsNow D (TY cI cQ) [.ref m9] [(m9, .inr (9, [.ref al, .ref hs, .int (nI hL), .ref ct, .int (nI tt), .int (nI hv), .int (nI lo), .int (nI hi), .int (nI wt), .ref bt, .int (nI bL), .ref cs, .ref gv, .int (nI gL), .int (nI tk), .int (nI vv), .ref rd, .int (nI rM), .ref tx, .int (nI tL), .int (nI pl)])), (al, .inl (cI, 44, .inl (fun j => nI ((allF g n e p b) j)))), (ct, .inl (cI, 9, .inl (fun j => nI (f j)))), (bt, .inl (cI, 1400, .inl (fun j => nI (fb j)))), (cs, .inl (cI, 40, .inl (fun j => nI (fc j))))] (fun (u : (Nat → Nat) × (Nat → Nat)) => rep u.1 (sB (cM p b g n e)) ∧ ∀ j, j < n → u.2 j = cost p b g j) (fun (u : (Nat → Nat) × (Nat → Nat)) => [(m9, .inr (9, [.ref al, .ref hs, .int (nI hL), .ref ct, .int (nI (sT (cM p b g n e))), .int (nI (sH (cM p b g n e))), .int (nI (sL (cM p b g n e))), .int (nI (sU (cM p b g n e))), .int (nI (sW (cM p b g n e))), .ref bt, .int (nI ((sB (cM p b g n e)).length)), .ref cs, .ref gv, .int (nI gL), .int (nI tk), .int (nI vv), .ref rd, .int (nI rM), .ref tx, .int (nI tL), .int (nI pl)])), (al, .inl (cI, 44, .inl (fun j => nI ((allF g n e p b) j)))), (ct, .inl (cI, 9, .inl (fun j => nI ((sF (cM p b g n e)) j)))), (bt, .inl (cI, 1400, .inl (fun j => nI (u.1 j)))), (cs, .inl (cI, 40, .inl (fun j => nI (u.2 j))))]) 0 0 := by
  refine MV.start (by decide) (Nat.le_of_ble_eq_true rfl) (lv0 := [(0, .ref m9)]) rfl ?_
  intro pp9 ee9 ss9 mm9 args9 below9 meth9 co9 A9 Q9 hQ hC hr hlk hnm
  refine V_aload_n hC dX9_putsNow_0 rfl 0 rfl ?_
  refine V_aload_n hC dX9_putsNow_1 rfl 0 rfl ?_
  refine V_get (ci := 9) (v := .ref al) hC in_X9 0 rfl cls_X9 0 (by decide) fl_X9_7 rfl dX9_putsNow_2 ?_
  refine V_iconst (v := nI 0) hC dX9_putsNow_5 (by decide) ?_
  refine V_iald hC 1 0 rfl rfl (by omega) (by decide) dX9_putsNow_6 ?_
  refine V_st (st2 := [.int (nI p), .ref m9]) (by rw [show ((allF g n e p b) 0) = (p) from rfl]) ?_
  refine V_aload_n hC dX9_putsNow_7 rfl 0 rfl ?_
  refine V_get (ci := 9) (v := .ref al) hC in_X9 0 rfl cls_X9 0 (by decide) fl_X9_7 rfl dX9_putsNow_8 ?_
  refine V_iconst (v := nI 3) hC dX9_putsNow_11 (by decide) ?_
  refine V_iald hC 1 0 rfl rfl (by omega) (by decide) dX9_putsNow_12 ?_
  refine V_st (st2 := [.int (nI e), .int (nI p), .ref m9]) (by rw [show ((allF g n e p b) 3) = (e) from rfl]) ?_
  refine V_iconst (v := nI 1) hC dX9_putsNow_13 (by decide) ?_
  refine V_icmp_ne (tgt := 21) hC (by omega) (by omega) dX9_putsNow_14 (by decide) (fun c14 => ?_) (fun c14 => ?_)
  · refine V_iconst (v := nI 0) hC dX9_putsNow_21 (by decide) ?_
    refine V_st (st2 := [.int (nI e), .int (nI p), .ref m9]) (by rw [show (0) = (e) from (by omega)]) ?_
    refine V_callvV (As := [.int (nI p), .int (nI e)]) (rest := []) (wr := []) hC (c_X9_putsAll l D cI cQ m9 al hs hL ct tt hv lo hi wt bt bL cs gv gL tk vv rd rM tx tL pl n e p b p e g f fb fc (by omega) (hg) (by omega) (by omega) (by omega)) mok_X9_putsAll ml_X9_93 (q1 := 0) rfl cls_X9 rfl rfl rfl (by decide) (by decide) (by decide) (Nat.le_of_ble_eq_true rfl) [0, 1, 2, 3, 4] [] rfl (by decide) rfl (by decide) (by decide) dX9_putsNow_22 rfl (fun u9 h22 => ?_)
    obtain ⟨fb2_1, fc2_2⟩ := u9
    have h22 : rep fb2_1 (sB (cM p b g n e)) ∧ ∀ j, j < n → fc2_2 j = cost p b g j := h22
    refine V_perm (ws2 := [(m9, .inr (9, [.ref al, .ref hs, .int (nI hL), .ref ct, .int (nI (sT (cM p b g n e))), .int (nI (sH (cM p b g n e))), .int (nI (sL (cM p b g n e))), .int (nI (sU (cM p b g n e))), .int (nI (sW (cM p b g n e))), .ref bt, .int (nI ((sB (cM p b g n e)).length)), .ref cs, .ref gv, .int (nI gL), .int (nI tk), .int (nI vv), .ref rd, .int (nI rM), .ref tx, .int (nI tL), .int (nI pl)])), (al, .inl (cI, 44, .inl (fun j => nI ((allF g n e p b) j)))), (ct, .inl (cI, 9, .inl (fun j => nI ((sF (cM p b g n e)) j)))), (bt, .inl (cI, 1400, .inl (fun j => nI (fb2_1 j)))), (cs, .inl (cI, 40, .inl (fun j => nI (fc2_2 j))))]) [0, 1, 2, 3, 4] rfl (by decide) ?_
    subst hQ
    exact V_vret hC hr hlk (by decide) (by decide) dX9_putsNow_25 ((fb2_1, fc2_2)) [0, 1, 2, 3, 4] rfl (by decide) (h22)
  · refine V_iconst (v := nI 1) hC dX9_putsNow_17 (by decide) ?_
    refine V_goto (tgt := 22) hC dX9_putsNow_18 (by decide) ?_
    refine V_st (st2 := [.int (nI e), .int (nI p), .ref m9]) (by rw [show (1) = (e) from (by omega)]) ?_
    refine V_callvV (As := [.int (nI p), .int (nI e)]) (rest := []) (wr := []) hC (c_X9_putsAll l D cI cQ m9 al hs hL ct tt hv lo hi wt bt bL cs gv gL tk vv rd rM tx tL pl n e p b p e g f fb fc (by omega) (hg) (by omega) (by omega) (by omega)) mok_X9_putsAll ml_X9_93 (q1 := 0) rfl cls_X9 rfl rfl rfl (by decide) (by decide) (by decide) (Nat.le_of_ble_eq_true rfl) [0, 1, 2, 3, 4] [] rfl (by decide) rfl (by decide) (by decide) dX9_putsNow_22 rfl (fun u9 h22 => ?_)
    obtain ⟨fb2_3, fc2_4⟩ := u9
    have h22 : rep fb2_3 (sB (cM p b g n e)) ∧ ∀ j, j < n → fc2_4 j = cost p b g j := h22
    refine V_perm (ws2 := [(m9, .inr (9, [.ref al, .ref hs, .int (nI hL), .ref ct, .int (nI (sT (cM p b g n e))), .int (nI (sH (cM p b g n e))), .int (nI (sL (cM p b g n e))), .int (nI (sU (cM p b g n e))), .int (nI (sW (cM p b g n e))), .ref bt, .int (nI ((sB (cM p b g n e)).length)), .ref cs, .ref gv, .int (nI gL), .int (nI tk), .int (nI vv), .ref rd, .int (nI rM), .ref tx, .int (nI tL), .int (nI pl)])), (al, .inl (cI, 44, .inl (fun j => nI ((allF g n e p b) j)))), (ct, .inl (cI, 9, .inl (fun j => nI ((sF (cM p b g n e)) j)))), (bt, .inl (cI, 1400, .inl (fun j => nI (fb2_3 j)))), (cs, .inl (cI, 40, .inl (fun j => nI (fc2_4 j))))]) [0, 1, 2, 3, 4] rfl (by decide) ?_
    subst hQ
    exact V_vret hC hr hlk (by decide) (by decide) dX9_putsNow_25 ((fb2_3, fc2_4)) [0, 1, 2, 3, 4] rfl (by decide) (h22)
abbrev rm_X9_bitsNow : Room := { frames := 6, cells := 0, slots := 0, locals := 132 }
set_option maxHeartbeats 4000000 in
set_option maxRecDepth 100000 in
theorem c_X9_bitsNow (l : Launch) (D : va_G) (cI cQ : ClassId) (m9 al hs hL ct tt hv lo hi wt bt bL cs gv gL tk vv rd rM tx tL pl n e p b : Nat) (g f fb fc : Nat → Nat) (hn : n ≤ 40) (hg : ∀ j, j < n → g j < 8) (he : e < 2) (hp : p ≤ 64) (hb : b ≤ 2000) : MI l yX9_bitsNow cX9_bitsNow 1 (some .int) rm_X9_bitsNow D (TY cI cQ) [.ref m9] [(m9, .inr (9, [.ref al, .ref hs, .int (nI hL), .ref ct, .int (nI tt), .int (nI hv), .int (nI lo), .int (nI hi), .int (nI wt), .ref bt, .int (nI bL), .ref cs, .ref gv, .int (nI gL), .int (nI tk), .int (nI vv), .ref rd, .int (nI rM), .ref tx, .int (nI tL), .int (nI pl)])), (al, .inl (cI, 44, .inl (fun j => nI ((allF g n e p b) j)))), (ct, .inl (cI, 9, .inl (fun j => nI (f j)))), (bt, .inl (cI, 1400, .inl (fun j => nI (fb j)))), (cs, .inl (cI, 40, .inl (fun j => nI (fc j))))] (fun (r9 : Int32) (u : (Nat → Nat) × (Nat → Nat)) => r9 = (nI ((sB (cM p b g n e)).length)) ∧ (rep u.1 (sB (cM p b g n e)) ∧ ∀ j, j < n → u.2 j = cost p b g j)) (fun (u : (Nat → Nat) × (Nat → Nat)) => [(m9, .inr (9, [.ref al, .ref hs, .int (nI hL), .ref ct, .int (nI (sT (cM p b g n e))), .int (nI (sH (cM p b g n e))), .int (nI (sL (cM p b g n e))), .int (nI (sU (cM p b g n e))), .int (nI (sW (cM p b g n e))), .ref bt, .int (nI ((sB (cM p b g n e)).length)), .ref cs, .ref gv, .int (nI gL), .int (nI tk), .int (nI vv), .ref rd, .int (nI rM), .ref tx, .int (nI tL), .int (nI pl)])), (al, .inl (cI, 44, .inl (fun j => nI ((allF g n e p b) j)))), (ct, .inl (cI, 9, .inl (fun j => nI ((sF (cM p b g n e)) j)))), (bt, .inl (cI, 1400, .inl (fun j => nI (u.1 j)))), (cs, .inl (cI, 40, .inl (fun j => nI (u.2 j))))]) 0 0 := by
  refine MI.start (by decide) (Nat.le_of_ble_eq_true rfl) (lv0 := [(0, .ref m9)]) rfl ?_
  intro pp9 ee9 ss9 mm9 args9 below9 meth9 co9 A9 Q9 hQ hC hr hlk hnm
  refine V_aload_n hC dX9_bitsNow_0 rfl 0 rfl ?_
  refine V_callvV (As := []) (rest := []) (wr := []) hC (c_X9_putsNow l D cI cQ m9 al hs hL ct tt hv lo hi wt bt bL cs gv gL tk vv rd rM tx tL pl n e p b g f fb fc (by omega) (hg) (by omega) (by omega) (by omega)) mok_X9_putsNow ml_X9_97 (q1 := 0) rfl cls_X9 rfl rfl rfl (by decide) (by decide) (by decide) (Nat.le_of_ble_eq_true rfl) [0, 1, 2, 3, 4] [] rfl (by decide) rfl (by decide) (by decide) dX9_bitsNow_1 rfl (fun u9 h1 => ?_)
  obtain ⟨fb2_1, fc2_2⟩ := u9
  have h1 : rep fb2_1 (sB (cM p b g n e)) ∧ ∀ j, j < n → fc2_2 j = cost p b g j := h1
  refine V_perm (ws2 := [(m9, .inr (9, [.ref al, .ref hs, .int (nI hL), .ref ct, .int (nI (sT (cM p b g n e))), .int (nI (sH (cM p b g n e))), .int (nI (sL (cM p b g n e))), .int (nI (sU (cM p b g n e))), .int (nI (sW (cM p b g n e))), .ref bt, .int (nI ((sB (cM p b g n e)).length)), .ref cs, .ref gv, .int (nI gL), .int (nI tk), .int (nI vv), .ref rd, .int (nI rM), .ref tx, .int (nI tL), .int (nI pl)])), (al, .inl (cI, 44, .inl (fun j => nI ((allF g n e p b) j)))), (ct, .inl (cI, 9, .inl (fun j => nI ((sF (cM p b g n e)) j)))), (bt, .inl (cI, 1400, .inl (fun j => nI (fb2_1 j)))), (cs, .inl (cI, 40, .inl (fun j => nI (fc2_2 j))))]) [0, 1, 2, 3, 4] rfl (by decide) ?_
  refine V_aload_n hC dX9_bitsNow_4 rfl 0 rfl ?_
  refine V_get (ci := 9) (v := .int (nI ((sB (cM p b g n e)).length))) hC in_X9 0 rfl cls_X9 10 (by decide) fl_X9_44 rfl dX9_bitsNow_5 ?_
  subst hQ
  exact V_iret hC hr hlk rfl (by decide) (by decide) dX9_bitsNow_8 ((fb2_1, fc2_2)) [0, 1, 2, 3, 4] rfl (by decide) (⟨rfl, h1⟩)
abbrev rm_X9_bitsOf : Room := { frames := 5, cells := 0, slots := 0, locals := 112 }
set_option maxHeartbeats 4000000 in
set_option maxRecDepth 100000 in
theorem c_X9_bitsOf (l : Launch) (D : va_G) (cI cQ : ClassId) (m9 al hs hL ct tt hv lo hi wt bt bL cs gv gL tk vv rd rM tx tL pl n e p b q : Nat) (g f fb fc : Nat → Nat) (hn : n ≤ 40) (hg : ∀ j, j < n → g j < 8) (hb : b ≤ 2000) (hq9 : q ≤ 64) : MI l yX9_bitsOf cX9_bitsOf 2 (some .int) rm_X9_bitsOf D (TY cI cQ) [.ref m9, .int (nI q)] [(m9, .inr (9, [.ref al, .ref hs, .int (nI hL), .ref ct, .int (nI tt), .int (nI hv), .int (nI lo), .int (nI hi), .int (nI wt), .ref bt, .int (nI bL), .ref cs, .ref gv, .int (nI gL), .int (nI tk), .int (nI vv), .ref rd, .int (nI rM), .ref tx, .int (nI tL), .int (nI pl)])), (al, .inl (cI, 44, .inl (fun j => nI ((allF g n e p b) j)))), (ct, .inl (cI, 9, .inl (fun j => nI (f j)))), (bt, .inl (cI, 1400, .inl (fun j => nI (fb j)))), (cs, .inl (cI, 40, .inl (fun j => nI (fc j))))] (fun (r9 : Int32) (u : (Nat → Nat) × (Nat → Nat)) => r9 = (nI (bE q b g n)) ∧ (True)) (fun (u : (Nat → Nat) × (Nat → Nat)) => [(m9, .inr (9, [.ref al, .ref hs, .int (nI hL), .ref ct, .int (nI (sT (cEnd (cR q b g n)))), .int (nI (sH (cEnd (cR q b g n)))), .int (nI (sL (cEnd (cR q b g n)))), .int (nI (sU (cEnd (cR q b g n)))), .int (nI (sW (cEnd (cR q b g n)))), .ref bt, .int (nI ((sB (cEnd (cR q b g n))).length)), .ref cs, .ref gv, .int (nI gL), .int (nI tk), .int (nI vv), .ref rd, .int (nI rM), .ref tx, .int (nI tL), .int (nI pl)])), (al, .inl (cI, 44, .inl (fun j => nI ((allF g n e p b) j)))), (ct, .inl (cI, 9, .inl (fun j => nI ((sF (cEnd (cR q b g n))) j)))), (bt, .inl (cI, 1400, .inl (fun j => nI (u.1 j)))), (cs, .inl (cI, 40, .inl (fun j => nI (u.2 j))))]) 0 0 := by
  refine MI.start (by decide) (Nat.le_of_ble_eq_true rfl) (lv0 := [(0, .ref m9), (1, .int (nI q))]) rfl ?_
  intro pp9 ee9 ss9 mm9 args9 below9 meth9 co9 A9 Q9 hQ hC hr hlk hnm
  refine V_aload_n hC dX9_bitsOf_0 rfl 0 rfl ?_
  refine V_iload_n hC dX9_bitsOf_1 rfl 1 rfl ?_
  refine V_iconst (v := nI 1) hC dX9_bitsOf_2 (by decide) ?_
  refine V_callvV (As := [.int (nI q), .int (nI 1)]) (rest := []) (wr := []) hC (c_X9_putsAll l D cI cQ m9 al hs hL ct tt hv lo hi wt bt bL cs gv gL tk vv rd rM tx tL pl n e p b q 1 g f fb fc (by omega) (hg) (by omega) (by omega) (by omega)) mok_X9_putsAll ml_X9_93 (q1 := 0) rfl cls_X9 rfl rfl rfl (by decide) (by decide) (by decide) (Nat.le_of_ble_eq_true rfl) [0, 1, 2, 3, 4] [] rfl (by decide) rfl (by decide) (by decide) dX9_bitsOf_3 rfl (fun u9 h3 => ?_)
  obtain ⟨fb2_1, fc2_2⟩ := u9
  have h3 : rep fb2_1 (sB (cM q b g n 1)) ∧ ∀ j, j < n → fc2_2 j = cost q b g j := h3
  refine V_perm (ws2 := [(m9, .inr (9, [.ref al, .ref hs, .int (nI hL), .ref ct, .int (nI (sT (cM q b g n 1))), .int (nI (sH (cM q b g n 1))), .int (nI (sL (cM q b g n 1))), .int (nI (sU (cM q b g n 1))), .int (nI (sW (cM q b g n 1))), .ref bt, .int (nI ((sB (cM q b g n 1)).length)), .ref cs, .ref gv, .int (nI gL), .int (nI tk), .int (nI vv), .ref rd, .int (nI rM), .ref tx, .int (nI tL), .int (nI pl)])), (al, .inl (cI, 44, .inl (fun j => nI ((allF g n e p b) j)))), (ct, .inl (cI, 9, .inl (fun j => nI ((sF (cM q b g n 1)) j)))), (bt, .inl (cI, 1400, .inl (fun j => nI (fb2_1 j)))), (cs, .inl (cI, 40, .inl (fun j => nI (fc2_2 j))))]) [0, 1, 2, 3, 4] rfl (by decide) ?_
  refine V_ws (ws2 := [(m9, .inr (9, [.ref al, .ref hs, .int (nI hL), .ref ct, .int (nI (sT (cEnd (cR q b g n)))), .int (nI (sH (cEnd (cR q b g n)))), .int (nI (sL (cEnd (cR q b g n)))), .int (nI (sU (cEnd (cR q b g n)))), .int (nI (sW (cEnd (cR q b g n)))), .ref bt, .int (nI ((sB (cEnd (cR q b g n))).length)), .ref cs, .ref gv, .int (nI gL), .int (nI tk), .int (nI vv), .ref rd, .int (nI rM), .ref tx, .int (nI tL), .int (nI pl)])), (al, .inl (cI, 44, .inl (fun j => nI ((allF g n e p b) j)))), (ct, .inl (cI, 9, .inl (fun j => nI ((sF (cEnd (cR q b g n))) j)))), (bt, .inl (cI, 1400, .inl (fun j => nI (fb2_1 j)))), (cs, .inl (cI, 40, .inl (fun j => nI (fc2_2 j))))]) (by rw [cM_1]) ?_
  refine V_aload_n hC dX9_bitsOf_6 rfl 0 rfl ?_
  refine V_get (ci := 9) (v := .int (nI ((sB (cEnd (cR q b g n))).length))) hC in_X9 0 rfl cls_X9 10 (by decide) fl_X9_44 rfl dX9_bitsOf_7 ?_
  subst hQ
  exact V_iret hC hr hlk rfl (by decide) (by decide) dX9_bitsOf_10 ((fb2_1, fc2_2)) [0, 1, 2, 3, 4] rfl (by decide) (⟨rfl, trivial⟩)
abbrev rm_X9_record_lt : Room := { frames := 0, cells := 0, slots := 0, locals := 0 }
set_option maxHeartbeats 4000000 in
set_option maxRecDepth 100000 in
theorem c_X9_record_lt (l : Launch) (D : va_G) (cI cQ : ClassId) (m9 al hs hL ct tt hv lo hi wt bt bL cs gv gL tk vv rd rM tx tL pl n e p b : Nat) (g fh : Nat → Nat) (hz : hL < 4) : MV l yX9_record cX9_record 2 none rm_X9_record_lt D (TY cI cQ) [.ref m9] [(m9, .inr (9, [.ref al, .ref hs, .int (nI hL), .ref ct, .int (nI tt), .int (nI hv), .int (nI lo), .int (nI hi), .int (nI wt), .ref bt, .int (nI bL), .ref cs, .ref gv, .int (nI gL), .int (nI tk), .int (nI vv), .ref rd, .int (nI rM), .ref tx, .int (nI tL), .int (nI pl)])), (al, .inl (cI, 44, .inl (fun j => nI ((allF g n e p b) j)))), (hs, .inl (cI, 176, .inl (fun j => nI (fh j))))] (fun (u : (Nat → Nat)) => ∀ k, k < hsz hL → ∀ j, j < 44 → HB u k j = hup (HB fh) hL (allF g n e p b) k j) (fun (u : (Nat → Nat)) => [(m9, .inr (9, [.ref al, .ref hs, .int (nI (hsz hL)), .ref ct, .int (nI tt), .int (nI hv), .int (nI lo), .int (nI hi), .int (nI wt), .ref bt, .int (nI bL), .ref cs, .ref gv, .int (nI gL), .int (nI tk), .int (nI vv), .ref rd, .int (nI rM), .ref tx, .int (nI tL), .int (nI pl)])), (al, .inl (cI, 44, .inl (fun j => nI ((allF g n e p b) j)))), (hs, .inl (cI, 176, .inl (fun j => nI (u j))))]) 0 0 := by
  refine MV.start (by decide) (Nat.le_of_ble_eq_true rfl) (lv0 := [(0, .ref m9)]) rfl ?_
  intro pp9 ee9 ss9 mm9 args9 below9 meth9 co9 A9 Q9 hQ hC hr hlk hnm
  refine V_aload_n hC dX9_record_0 rfl 0 rfl ?_
  refine V_get (ci := 9) (v := .int (nI hL)) hC in_X9 0 rfl cls_X9 2 (by decide) fl_X9_34 rfl dX9_record_1 ?_
  refine V_iconst (v := nI 4) hC dX9_record_4 (by decide) ?_
  refine V_icmp_ne (tgt := 48) hC (by omega) (by omega) dX9_record_5 (by decide) (fun c5 => ?_) (fun c5 => ?_)
  · refine V_iconst (v := nI 0) hC dX9_record_48 (by decide) ?_
    refine V_istore_n (lv2 := [(0, .ref m9), (1, .int (nI 0))]) hC dX9_record_49 rfl (by decide) [1, 0] rfl ?_
    have L50 : ∀ (n9 : Nat) (i : Nat) (fh2 : Nat → Nat), (i ≤ 44) → (∀ j, fh2 j = if 44 * hL ≤ j ∧ j < 44 * hL + i then allF g n e p b (j - 44 * hL) else fh j) → 44 - i < n9 → V pp9 l ee9 rm_X9_record_lt ss9 mm9 args9 below9 meth9 co9 D A9 ss9.heap 2 Q9 [(m9, .inr (9, [.ref al, .ref hs, .int (nI hL), .ref ct, .int (nI tt), .int (nI hv), .int (nI lo), .int (nI hi), .int (nI wt), .ref bt, .int (nI bL), .ref cs, .ref gv, .int (nI gL), .int (nI tk), .int (nI vv), .ref rd, .int (nI rM), .ref tx, .int (nI tL), .int (nI pl)])), (al, .inl (cI, 44, .inl (fun j => nI ((allF g n e p b) j)))), (hs, .inl (cI, 176, .inl (fun j => nI (fh2 j))))] [(0, .ref m9), (1, .int (nI i))] 0 0 50 [] := by
      intro n9
      induction n9 with
      | zero => intro i fh2 h1 h2 h9; exact absurd h9 (Nat.not_lt_zero _)
      | succ n9 ih50 =>
        intro i fh2 h1 h2 h9
        refine V_iload_n hC dX9_record_50 rfl 1 rfl ?_
        refine V_bipush (v := nI 44) hC dX9_record_51 (by decide) ?_
        refine V_icmp_ge (tgt := 82) hC (by omega) (by omega) dX9_record_53 (by decide) (fun c53 => ?_) (fun c53 => ?_)
        · refine V_aload_n hC dX9_record_82 rfl 0 rfl ?_
          refine V_dup hC dX9_record_83 rfl ?_
          refine V_get (ci := 9) (v := .int (nI hL)) hC in_X9 0 rfl cls_X9 2 (by decide) fl_X9_34 rfl dX9_record_84 ?_
          refine V_iconst (v := nI 1) hC dX9_record_87 (by decide) ?_
          refine V_iadd hC dX9_record_88 ?_
          refine V_put (ci := 9) (v := .int (nI (hL + 1))) hC tyX9 tyX9_ok nmX9 in_X9 0 rfl cls_X9 2 (by decide) fl_X9_34 rfl rfl rfl (Nat.le_of_ble_eq_true rfl) dX9_record_89 (ws2 := [(m9, .inr (9, [.ref al, .ref hs, .int (nI (hL + 1)), .ref ct, .int (nI tt), .int (nI hv), .int (nI lo), .int (nI hi), .int (nI wt), .ref bt, .int (nI bL), .ref cs, .ref gv, .int (nI gL), .int (nI tk), .int (nI vv), .ref rd, .int (nI rM), .ref tx, .int (nI tL), .int (nI pl)])), (al, .inl (cI, 44, .inl (fun j => nI ((allF g n e p b) j)))), (hs, .inl (cI, 176, .inl (fun j => nI (fh2 j))))]) rfl ?_
          refine V_ws (ws2 := [(m9, .inr (9, [.ref al, .ref hs, .int (nI (hsz hL)), .ref ct, .int (nI tt), .int (nI hv), .int (nI lo), .int (nI hi), .int (nI wt), .ref bt, .int (nI bL), .ref cs, .ref gv, .int (nI gL), .int (nI tk), .int (nI vv), .ref rd, .int (nI rM), .ref tx, .int (nI tL), .int (nI pl)])), (al, .inl (cI, 44, .inl (fun j => nI ((allF g n e p b) j)))), (hs, .inl (cI, 176, .inl (fun j => nI (fh2 j))))]) (by rw [show hsz hL = hL + 1 from if_pos hz]) ?_
          subst hQ
          exact V_vret hC hr hlk (by decide) (by decide) dX9_record_92 (fh2) [0, 1, 2] rfl (by decide) (rec_lt hz (by omega) h2)
        · refine V_aload_n hC dX9_record_56 rfl 0 rfl ?_
          refine V_get (ci := 9) (v := .ref hs) hC in_X9 0 rfl cls_X9 1 (by decide) fl_X9_13 rfl dX9_record_57 ?_
          refine V_bipush (v := nI 44) hC dX9_record_60 (by decide) ?_
          refine V_aload_n hC dX9_record_62 rfl 0 rfl ?_
          refine V_get (ci := 9) (v := .int (nI hL)) hC in_X9 0 rfl cls_X9 2 (by decide) fl_X9_34 rfl dX9_record_63 ?_
          refine V_imul hC dX9_record_66 ?_
          refine V_iload_n hC dX9_record_67 rfl 1 rfl ?_
          refine V_iadd hC dX9_record_68 ?_
          refine V_aload_n hC dX9_record_69 rfl 0 rfl ?_
          refine V_get (ci := 9) (v := .ref al) hC in_X9 0 rfl cls_X9 0 (by decide) fl_X9_7 rfl dX9_record_70 ?_
          refine V_iload_n hC dX9_record_73 rfl 1 rfl ?_
          refine V_iald hC 1 0 rfl rfl (by omega) (by decide) dX9_record_74 ?_
          refine V_iast hC 2 0 rfl rfl (by omega) (by decide) dX9_record_75 (ws2 := [(m9, .inr (9, [.ref al, .ref hs, .int (nI hL), .ref ct, .int (nI tt), .int (nI hv), .int (nI lo), .int (nI hi), .int (nI wt), .ref bt, .int (nI bL), .ref cs, .ref gv, .int (nI gL), .int (nI tk), .int (nI vv), .ref rd, .int (nI rM), .ref tx, .int (nI tL), .int (nI pl)])), (al, .inl (cI, 44, .inl (fun j => nI ((allF g n e p b) j)))), (hs, .inl (cI, 176, .inl (fun j => nI ((va_up fh2 ((44 * hL) + i) ((allF g n e p b) i)) j))))]) rfl ?_
          refine V_iinc (v := (nI (i + 1))) (lv2 := [(0, .ref m9), (1, .int (nI (i + 1)))]) (q := 1) hC dX9_record_76 rfl (nI_add _ _) (by decide) [1, 0] rfl ?_
          refine V_goto (tgt := 50) hC dX9_record_79 (by decide) ?_
          exact ih50 (i + 1) (va_up fh2 ((44 * hL) + i) ((allF g n e p b) i)) (by omega) (rec_step h2) (by omega)
    exact L50 _ 0 fh (by omega) (fun j => by rw [if_neg (by omega)]) (Nat.lt_succ_self _)
  · exact False.elim (by omega)
abbrev rm_X9_record_eq : Room := { frames := 0, cells := 0, slots := 0, locals := 0 }
set_option maxHeartbeats 4000000 in
set_option maxRecDepth 100000 in
theorem c_X9_record_eq (l : Launch) (D : va_G) (cI cQ : ClassId) (m9 al hs hL ct tt hv lo hi wt bt bL cs gv gL tk vv rd rM tx tL pl n e p b : Nat) (g fh : Nat → Nat) (hz : hL = 4) : MV l yX9_record cX9_record 2 none rm_X9_record_eq D (TY cI cQ) [.ref m9] [(m9, .inr (9, [.ref al, .ref hs, .int (nI hL), .ref ct, .int (nI tt), .int (nI hv), .int (nI lo), .int (nI hi), .int (nI wt), .ref bt, .int (nI bL), .ref cs, .ref gv, .int (nI gL), .int (nI tk), .int (nI vv), .ref rd, .int (nI rM), .ref tx, .int (nI tL), .int (nI pl)])), (al, .inl (cI, 44, .inl (fun j => nI ((allF g n e p b) j)))), (hs, .inl (cI, 176, .inl (fun j => nI (fh j))))] (fun (u : (Nat → Nat)) => ∀ k, k < hsz hL → ∀ j, j < 44 → HB u k j = hup (HB fh) hL (allF g n e p b) k j) (fun (u : (Nat → Nat)) => [(m9, .inr (9, [.ref al, .ref hs, .int (nI (hsz hL)), .ref ct, .int (nI tt), .int (nI hv), .int (nI lo), .int (nI hi), .int (nI wt), .ref bt, .int (nI bL), .ref cs, .ref gv, .int (nI gL), .int (nI tk), .int (nI vv), .ref rd, .int (nI rM), .ref tx, .int (nI tL), .int (nI pl)])), (al, .inl (cI, 44, .inl (fun j => nI ((allF g n e p b) j)))), (hs, .inl (cI, 176, .inl (fun j => nI (u j))))]) 0 0 := by
  refine MV.start (by decide) (Nat.le_of_ble_eq_true rfl) (lv0 := [(0, .ref m9)]) rfl ?_
  intro pp9 ee9 ss9 mm9 args9 below9 meth9 co9 A9 Q9 hQ hC hr hlk hnm
  subst hz
  refine V_aload_n hC dX9_record_0 rfl 0 rfl ?_
  refine V_get (ci := 9) (v := .int (nI 4)) hC in_X9 0 rfl cls_X9 2 (by decide) fl_X9_34 rfl dX9_record_1 ?_
  refine V_iconst (v := nI 4) hC dX9_record_4 (by decide) ?_
  refine V_icmp_ne_F (tgt := 48) hC dX9_record_5 (by decide) (congrArg nI (show 4 = 4 by omega)) ?_
  refine V_iconst (v := nI 0) hC dX9_record_8 (by decide) ?_
  refine V_istore_n (lv2 := [(0, .ref m9), (1, .int (nI 0))]) hC dX9_record_9 rfl (by decide) [1, 0] rfl ?_
  have L10 : ∀ (n9 : Nat) (i : Nat) (fh2 : Nat → Nat), (i ≤ 132) → (∀ j, fh2 j = if j < i then fh (j + 44) else fh j) → 132 - i < n9 → V pp9 l ee9 rm_X9_record_eq ss9 mm9 args9 below9 meth9 co9 D A9 ss9.heap 2 Q9 [(m9, .inr (9, [.ref al, .ref hs, .int (nI 4), .ref ct, .int (nI tt), .int (nI hv), .int (nI lo), .int (nI hi), .int (nI wt), .ref bt, .int (nI bL), .ref cs, .ref gv, .int (nI gL), .int (nI tk), .int (nI vv), .ref rd, .int (nI rM), .ref tx, .int (nI tL), .int (nI pl)])), (al, .inl (cI, 44, .inl (fun j => nI ((allF g n e p b) j)))), (hs, .inl (cI, 176, .inl (fun j => nI (fh2 j))))] [(0, .ref m9), (1, .int (nI i))] 0 0 10 [] := by
    intro n9
    induction n9 with
    | zero => intro i fh2 h1 h2 h9; exact absurd h9 (Nat.not_lt_zero _)
    | succ n9 ih10 =>
      intro i fh2 h1 h2 h9
      refine V_iload_n hC dX9_record_10 rfl 1 rfl ?_
      refine V_sipush (v := nI 132) hC dX9_record_11 (by decide) ?_
      refine V_icmp_ge (tgt := 38) hC (by omega) (by omega) dX9_record_14 (by decide) (fun c14 => ?_) (fun c14 => ?_)
      · have ei9 : i = 132 := by omega
        subst ei9
        refine V_aload_n hC dX9_record_38 rfl 0 rfl ?_
        refine V_dup hC dX9_record_39 rfl ?_
        refine V_get (ci := 9) (v := .int (nI 4)) hC in_X9 0 rfl cls_X9 2 (by decide) fl_X9_34 rfl dX9_record_40 ?_
        refine V_iconst (v := nI 1) hC dX9_record_43 (by decide) ?_
        refine V_isub hC dX9_record_44 (by omega) ?_
        refine V_put (ci := 9) (v := .int (nI 3)) hC tyX9 tyX9_ok nmX9 in_X9 0 rfl cls_X9 2 (by decide) fl_X9_34 rfl rfl rfl (Nat.le_of_ble_eq_true rfl) dX9_record_45 (ws2 := [(m9, .inr (9, [.ref al, .ref hs, .int (nI 3), .ref ct, .int (nI tt), .int (nI hv), .int (nI lo), .int (nI hi), .int (nI wt), .ref bt, .int (nI bL), .ref cs, .ref gv, .int (nI gL), .int (nI tk), .int (nI vv), .ref rd, .int (nI rM), .ref tx, .int (nI tL), .int (nI pl)])), (al, .inl (cI, 44, .inl (fun j => nI ((allF g n e p b) j)))), (hs, .inl (cI, 176, .inl (fun j => nI (fh2 j))))]) rfl ?_
        refine V_iconst (v := nI 0) hC dX9_record_48 (by decide) ?_
        refine V_istore_n (lv2 := [(0, .ref m9), (1, .int (nI 0))]) hC dX9_record_49 rfl (by decide) [1, 0] rfl ?_
        have L50 : ∀ (n9 : Nat) (i : Nat) (fh3 : Nat → Nat), (i ≤ 44) → (∀ j, fh3 j = if 44 * 3 ≤ j ∧ j < 44 * 3 + i then allF g n e p b (j - 44 * 3) else fh2 j) → 44 - i < n9 → V pp9 l ee9 rm_X9_record_eq ss9 mm9 args9 below9 meth9 co9 D A9 ss9.heap 2 Q9 [(m9, .inr (9, [.ref al, .ref hs, .int (nI 3), .ref ct, .int (nI tt), .int (nI hv), .int (nI lo), .int (nI hi), .int (nI wt), .ref bt, .int (nI bL), .ref cs, .ref gv, .int (nI gL), .int (nI tk), .int (nI vv), .ref rd, .int (nI rM), .ref tx, .int (nI tL), .int (nI pl)])), (al, .inl (cI, 44, .inl (fun j => nI ((allF g n e p b) j)))), (hs, .inl (cI, 176, .inl (fun j => nI (fh3 j))))] [(0, .ref m9), (1, .int (nI i))] 0 0 50 [] := by
          intro n9
          induction n9 with
          | zero => intro i fh3 h1 h3 h9; exact absurd h9 (Nat.not_lt_zero _)
          | succ n9 ih50 =>
            intro i fh3 h1 h3 h9
            refine V_iload_n hC dX9_record_50 rfl 1 rfl ?_
            refine V_bipush (v := nI 44) hC dX9_record_51 (by decide) ?_
            refine V_icmp_ge (tgt := 82) hC (by omega) (by omega) dX9_record_53 (by decide) (fun c53 => ?_) (fun c53 => ?_)
            · refine V_aload_n hC dX9_record_82 rfl 0 rfl ?_
              refine V_dup hC dX9_record_83 rfl ?_
              refine V_get (ci := 9) (v := .int (nI 3)) hC in_X9 0 rfl cls_X9 2 (by decide) fl_X9_34 rfl dX9_record_84 ?_
              refine V_iconst (v := nI 1) hC dX9_record_87 (by decide) ?_
              refine V_iadd hC dX9_record_88 ?_
              refine V_put (ci := 9) (v := .int (nI 4)) hC tyX9 tyX9_ok nmX9 in_X9 0 rfl cls_X9 2 (by decide) fl_X9_34 rfl rfl rfl (Nat.le_of_ble_eq_true rfl) dX9_record_89 (ws2 := [(m9, .inr (9, [.ref al, .ref hs, .int (nI 4), .ref ct, .int (nI tt), .int (nI hv), .int (nI lo), .int (nI hi), .int (nI wt), .ref bt, .int (nI bL), .ref cs, .ref gv, .int (nI gL), .int (nI tk), .int (nI vv), .ref rd, .int (nI rM), .ref tx, .int (nI tL), .int (nI pl)])), (al, .inl (cI, 44, .inl (fun j => nI ((allF g n e p b) j)))), (hs, .inl (cI, 176, .inl (fun j => nI (fh3 j))))]) rfl ?_
              subst hQ
              exact V_vret hC hr hlk (by decide) (by decide) dX9_record_92 (fh3) [0, 1, 2] rfl (by decide) (rec_eq (by omega) h2 h3)
            · refine V_aload_n hC dX9_record_56 rfl 0 rfl ?_
              refine V_get (ci := 9) (v := .ref hs) hC in_X9 0 rfl cls_X9 1 (by decide) fl_X9_13 rfl dX9_record_57 ?_
              refine V_bipush (v := nI 44) hC dX9_record_60 (by decide) ?_
              refine V_aload_n hC dX9_record_62 rfl 0 rfl ?_
              refine V_get (ci := 9) (v := .int (nI 3)) hC in_X9 0 rfl cls_X9 2 (by decide) fl_X9_34 rfl dX9_record_63 ?_
              refine V_imul hC dX9_record_66 ?_
              refine V_iload_n hC dX9_record_67 rfl 1 rfl ?_
              refine V_iadd hC dX9_record_68 ?_
              refine V_aload_n hC dX9_record_69 rfl 0 rfl ?_
              refine V_get (ci := 9) (v := .ref al) hC in_X9 0 rfl cls_X9 0 (by decide) fl_X9_7 rfl dX9_record_70 ?_
              refine V_iload_n hC dX9_record_73 rfl 1 rfl ?_
              refine V_iald hC 1 0 rfl rfl (by omega) (by decide) dX9_record_74 ?_
              refine V_iast hC 2 0 rfl rfl (by omega) (by decide) dX9_record_75 (ws2 := [(m9, .inr (9, [.ref al, .ref hs, .int (nI 3), .ref ct, .int (nI tt), .int (nI hv), .int (nI lo), .int (nI hi), .int (nI wt), .ref bt, .int (nI bL), .ref cs, .ref gv, .int (nI gL), .int (nI tk), .int (nI vv), .ref rd, .int (nI rM), .ref tx, .int (nI tL), .int (nI pl)])), (al, .inl (cI, 44, .inl (fun j => nI ((allF g n e p b) j)))), (hs, .inl (cI, 176, .inl (fun j => nI ((va_up fh3 (132 + i) ((allF g n e p b) i)) j))))]) rfl ?_
              refine V_iinc (v := (nI (i + 1))) (lv2 := [(0, .ref m9), (1, .int (nI (i + 1)))]) (q := 1) hC dX9_record_76 rfl (nI_add _ _) (by decide) [1, 0] rfl ?_
              refine V_goto (tgt := 50) hC dX9_record_79 (by decide) ?_
              exact ih50 (i + 1) (va_up fh3 (132 + i) ((allF g n e p b) i)) (by omega) (rec_step h3) (by omega)
        exact L50 _ 0 fh2 (by omega) (fun j => by rw [if_neg (by omega)]) (Nat.lt_succ_self _)
      · refine V_aload_n hC dX9_record_17 rfl 0 rfl ?_
        refine V_get (ci := 9) (v := .ref hs) hC in_X9 0 rfl cls_X9 1 (by decide) fl_X9_13 rfl dX9_record_18 ?_
        refine V_iload_n hC dX9_record_21 rfl 1 rfl ?_
        refine V_aload_n hC dX9_record_22 rfl 0 rfl ?_
        refine V_get (ci := 9) (v := .ref hs) hC in_X9 0 rfl cls_X9 1 (by decide) fl_X9_13 rfl dX9_record_23 ?_
        refine V_iload_n hC dX9_record_26 rfl 1 rfl ?_
        refine V_bipush (v := nI 44) hC dX9_record_27 (by decide) ?_
        refine V_iadd hC dX9_record_29 ?_
        refine V_iald hC 2 0 rfl rfl (by omega) (by decide) dX9_record_30 ?_
        refine V_iast hC 2 0 rfl rfl (by omega) (by decide) dX9_record_31 (ws2 := [(m9, .inr (9, [.ref al, .ref hs, .int (nI 4), .ref ct, .int (nI tt), .int (nI hv), .int (nI lo), .int (nI hi), .int (nI wt), .ref bt, .int (nI bL), .ref cs, .ref gv, .int (nI gL), .int (nI tk), .int (nI vv), .ref rd, .int (nI rM), .ref tx, .int (nI tL), .int (nI pl)])), (al, .inl (cI, 44, .inl (fun j => nI ((allF g n e p b) j)))), (hs, .inl (cI, 176, .inl (fun j => nI ((va_up fh2 i (fh2 (i + 44))) j))))]) rfl ?_
        refine V_iinc (v := (nI (i + 1))) (lv2 := [(0, .ref m9), (1, .int (nI (i + 1)))]) (q := 1) hC dX9_record_32 rfl (nI_add _ _) (by decide) [1, 0] rfl ?_
        refine V_goto (tgt := 10) hC dX9_record_35 (by decide) ?_
        exact ih10 (i + 1) (va_up fh2 i (fh2 (i + 44))) (by omega) (rec_shift h2) (by omega)
  exact L10 _ 0 fh (by omega) (fun j => by rw [if_neg (Nat.not_lt_zero j)]) (Nat.lt_succ_self _)
abbrev rm_X9_begins : Room := { frames := 0, cells := 0, slots := 0, locals := 0 }
set_option maxHeartbeats 4000000 in
set_option maxRecDepth 100000 in
theorem c_X9_begins (l : Launch) (D : va_G) (cI cQ : ClassId) (m9 al hs hL ct tt hv lo hi wt bt bL cs gv gL tk vv rd rM tx tL pl n e p b : Nat) (g : Nat → Nat)  : MI l yX9_begins cX9_begins 2 (some .int) rm_X9_begins D (TY cI cQ) [.ref m9] [(m9, .inr (9, [.ref al, .ref hs, .int (nI hL), .ref ct, .int (nI tt), .int (nI hv), .int (nI lo), .int (nI hi), .int (nI wt), .ref bt, .int (nI bL), .ref cs, .ref gv, .int (nI gL), .int (nI tk), .int (nI vv), .ref rd, .int (nI rM), .ref tx, .int (nI tL), .int (nI pl)])), (al, .inl (cI, 44, .inl (fun j => nI ((allF g n e p b) j))))] (fun (r9 : Int32) (u : Unit) => r9 = (nI n) ∧ (True)) (fun (u : Unit) => [(m9, .inr (9, [.ref al, .ref hs, .int (nI hL), .ref ct, .int (nI tt), .int (nI hv), .int (nI lo), .int (nI hi), .int (nI wt), .ref bt, .int (nI bL), .ref cs, .ref gv, .int (nI gL), .int (nI tk), .int (nI vv), .ref rd, .int (nI rM), .ref tx, .int (nI tL), .int (nI pl)])), (al, .inl (cI, 44, .inl (fun j => nI ((allF g 0 0 p b) j))))]) 0 0 := by
  refine MI.start (by decide) (Nat.le_of_ble_eq_true rfl) (lv0 := [(0, .ref m9)]) rfl ?_
  intro pp9 ee9 ss9 mm9 args9 below9 meth9 co9 A9 Q9 hQ hC hr hlk hnm
  refine V_aload_n hC dX9_begins_0 rfl 0 rfl ?_
  refine V_get (ci := 9) (v := .ref al) hC in_X9 0 rfl cls_X9 0 (by decide) fl_X9_7 rfl dX9_begins_1 ?_
  refine V_iconst (v := nI 2) hC dX9_begins_4 (by decide) ?_
  refine V_iald hC 1 0 rfl rfl (by omega) (by decide) dX9_begins_5 ?_
  refine V_st (st2 := [.int (nI n)]) (by rw [show ((allF g n e p b) 2) = (n) from rfl]) ?_
  refine V_istore_n (lv2 := [(0, .ref m9), (1, .int (nI n))]) hC dX9_begins_6 rfl (by decide) [1, 0] rfl ?_
  refine V_aload_n hC dX9_begins_7 rfl 0 rfl ?_
  refine V_get (ci := 9) (v := .ref al) hC in_X9 0 rfl cls_X9 0 (by decide) fl_X9_7 rfl dX9_begins_8 ?_
  refine V_iconst (v := nI 2) hC dX9_begins_11 (by decide) ?_
  refine V_iconst (v := nI 0) hC dX9_begins_12 (by decide) ?_
  refine V_iast hC 1 0 rfl rfl (by omega) (by decide) dX9_begins_13 (ws2 := [(m9, .inr (9, [.ref al, .ref hs, .int (nI hL), .ref ct, .int (nI tt), .int (nI hv), .int (nI lo), .int (nI hi), .int (nI wt), .ref bt, .int (nI bL), .ref cs, .ref gv, .int (nI gL), .int (nI tk), .int (nI vv), .ref rd, .int (nI rM), .ref tx, .int (nI tL), .int (nI pl)])), (al, .inl (cI, 44, .inl (fun j => nI ((va_up (allF g n e p b) 2 0) j))))]) rfl ?_
  refine V_ws (ws2 := [(m9, .inr (9, [.ref al, .ref hs, .int (nI hL), .ref ct, .int (nI tt), .int (nI hv), .int (nI lo), .int (nI hi), .int (nI wt), .ref bt, .int (nI bL), .ref cs, .ref gv, .int (nI gL), .int (nI tk), .int (nI vv), .ref rd, .int (nI rM), .ref tx, .int (nI tL), .int (nI pl)])), (al, .inl (cI, 44, .inl (fun j => nI ((allF g 0 e p b) j))))]) (by rw [show va_up (allF g n e p b) 2 0 = allF g 0 e p b from allF_up2 _ _ _ _ _ _]) ?_
  refine V_aload_n hC dX9_begins_14 rfl 0 rfl ?_
  refine V_get (ci := 9) (v := .ref al) hC in_X9 0 rfl cls_X9 0 (by decide) fl_X9_7 rfl dX9_begins_15 ?_
  refine V_iconst (v := nI 3) hC dX9_begins_18 (by decide) ?_
  refine V_iconst (v := nI 0) hC dX9_begins_19 (by decide) ?_
  refine V_iast hC 1 0 rfl rfl (by omega) (by decide) dX9_begins_20 (ws2 := [(m9, .inr (9, [.ref al, .ref hs, .int (nI hL), .ref ct, .int (nI tt), .int (nI hv), .int (nI lo), .int (nI hi), .int (nI wt), .ref bt, .int (nI bL), .ref cs, .ref gv, .int (nI gL), .int (nI tk), .int (nI vv), .ref rd, .int (nI rM), .ref tx, .int (nI tL), .int (nI pl)])), (al, .inl (cI, 44, .inl (fun j => nI ((va_up (allF g 0 e p b) 3 0) j))))]) rfl ?_
  refine V_ws (ws2 := [(m9, .inr (9, [.ref al, .ref hs, .int (nI hL), .ref ct, .int (nI tt), .int (nI hv), .int (nI lo), .int (nI hi), .int (nI wt), .ref bt, .int (nI bL), .ref cs, .ref gv, .int (nI gL), .int (nI tk), .int (nI vv), .ref rd, .int (nI rM), .ref tx, .int (nI tL), .int (nI pl)])), (al, .inl (cI, 44, .inl (fun j => nI ((allF g 0 0 p b) j))))]) (by rw [show va_up (allF g 0 e p b) 3 0 = allF g 0 0 p b from allF_up3 _ _ _ _ _ _]) ?_
  refine V_iload_n hC dX9_begins_21 rfl 1 rfl ?_
  subst hQ
  exact V_iret hC hr hlk rfl (by decide) (by decide) dX9_begins_22 (()) [0, 1] rfl (by decide) (⟨rfl, trivial⟩)
abbrev rm_X9_stands : Room := { frames := 0, cells := 0, slots := 0, locals := 0 }
set_option maxHeartbeats 4000000 in
set_option maxRecDepth 100000 in
theorem c_X9_stands (l : Launch) (D : va_G) (cI cQ : ClassId) (m9 al hs hL ct tt hv lo hi wt bt bL cs gv gL tk vv rd rM tx tL pl n e p b k : Nat) (g : Nat → Nat) (hn : n ≤ 40) (hg : ∀ j, j < n → g j < 8) (hk : k < 2147483648) : MI l yX9_stands cX9_stands 4 (some .int) rm_X9_stands D (TY cI cQ) [.ref m9, .int (nI k)] [(m9, .inr (9, [.ref al, .ref hs, .int (nI hL), .ref ct, .int (nI tt), .int (nI hv), .int (nI lo), .int (nI hi), .int (nI wt), .ref bt, .int (nI bL), .ref cs, .ref gv, .int (nI gL), .int (nI tk), .int (nI vv), .ref rd, .int (nI rM), .ref tx, .int (nI tL), .int (nI pl)])), (al, .inl (cI, 44, .inl (fun j => nI ((allF g n e p b) j))))] (fun (r9 : Int32) (u : Unit) => r9 = (nI (hO g k n)) ∧ (True)) (fun (u : Unit) => [(m9, .inr (9, [.ref al, .ref hs, .int (nI hL), .ref ct, .int (nI tt), .int (nI hv), .int (nI lo), .int (nI hi), .int (nI wt), .ref bt, .int (nI bL), .ref cs, .ref gv, .int (nI gL), .int (nI tk), .int (nI vv), .ref rd, .int (nI rM), .ref tx, .int (nI tL), .int (nI pl)])), (al, .inl (cI, 44, .inl (fun j => nI ((allF g n e p b) j))))]) 0 0 := by
  refine MI.start (by decide) (Nat.le_of_ble_eq_true rfl) (lv0 := [(0, .ref m9), (1, .int (nI k))]) rfl ?_
  intro pp9 ee9 ss9 mm9 args9 below9 meth9 co9 A9 Q9 hQ hC hr hlk hnm
  refine V_iconst (v := nI 0) hC dX9_stands_0 (by decide) ?_
  refine V_istore_n (lv2 := [(0, .ref m9), (1, .int (nI k)), (2, .int (nI 0))]) hC dX9_stands_1 rfl (by decide) [1, 2, 0] rfl ?_
  refine V_iconst (v := nI 0) hC dX9_stands_2 (by decide) ?_
  refine V_istore_n (lv2 := [(0, .ref m9), (1, .int (nI k)), (2, .int (nI 0)), (3, .int (nI 0))]) hC dX9_stands_3 rfl (by decide) [1, 2, 3, 0] rfl ?_
  have L4 : ∀ (n9 : Nat) (i : Nat) (c2 : Nat), (i ≤ n) → (c2 = hO g k i) → n - i < n9 → V pp9 l ee9 rm_X9_stands ss9 mm9 args9 below9 meth9 co9 D A9 ss9.heap 4 Q9 [(m9, .inr (9, [.ref al, .ref hs, .int (nI hL), .ref ct, .int (nI tt), .int (nI hv), .int (nI lo), .int (nI hi), .int (nI wt), .ref bt, .int (nI bL), .ref cs, .ref gv, .int (nI gL), .int (nI tk), .int (nI vv), .ref rd, .int (nI rM), .ref tx, .int (nI tL), .int (nI pl)])), (al, .inl (cI, 44, .inl (fun j => nI ((allF g n e p b) j))))] [(0, .ref m9), (1, .int (nI k)), (2, .int (nI c2)), (3, .int (nI i))] 0 0 4 [] := by
    intro n9
    induction n9 with
    | zero => intro i c2 h1 h2 h9; exact absurd h9 (Nat.not_lt_zero _)
    | succ n9 ih4 =>
      intro i c2 h1 h2 h9
      refine V_iload_n hC dX9_stands_4 rfl 3 rfl ?_
      refine V_aload_n hC dX9_stands_5 rfl 0 rfl ?_
      refine V_get (ci := 9) (v := .ref al) hC in_X9 0 rfl cls_X9 0 (by decide) fl_X9_7 rfl dX9_stands_6 ?_
      refine V_iconst (v := nI 2) hC dX9_stands_9 (by decide) ?_
      refine V_iald hC 1 0 rfl rfl (by omega) (by decide) dX9_stands_10 ?_
      refine V_st (st2 := [.int (nI n), .int (nI i)]) (by rw [show ((allF g n e p b) 2) = (n) from rfl]) ?_
      refine V_icmp_ge (tgt := 40) hC (by omega) (by omega) dX9_stands_11 (by decide) (fun c11 => ?_) (fun c11 => ?_)
      · refine V_iload_n hC dX9_stands_40 rfl 2 rfl ?_
        subst hQ
        exact V_iret hC hr hlk rfl (by decide) (by decide) dX9_stands_41 (()) [0, 1] rfl (by decide) (⟨by rw [h2, show i = n by omega], trivial⟩)
      · refine V_iload_n hC dX9_stands_14 rfl 2 rfl ?_
        refine V_aload_n hC dX9_stands_15 rfl 0 rfl ?_
        refine V_get (ci := 9) (v := .ref al) hC in_X9 0 rfl cls_X9 0 (by decide) fl_X9_7 rfl dX9_stands_16 ?_
        refine V_iconst (v := nI 4) hC dX9_stands_19 (by decide) ?_
        refine V_iload_n hC dX9_stands_20 rfl 3 rfl ?_
        refine V_iadd hC dX9_stands_21 ?_
        refine V_iald hC 1 0 rfl rfl (by omega) (by decide) dX9_stands_22 ?_
        refine V_st (st2 := [.int (nI (g i)), .int (nI c2)]) (by rw [show ((allF g n e p b) (4 + i)) = (g i) from allF_4 _ _ _ _ _ _]) ?_
        have hgi := hg i (by omega)
        refine V_iload_n hC dX9_stands_23 rfl 1 rfl ?_
        refine V_icmp_ne (tgt := 31) hC (by omega) (by omega) dX9_stands_24 (by decide) (fun c24 => ?_) (fun c24 => ?_)
        · refine V_iconst (v := nI 0) hC dX9_stands_31 (by decide) ?_
          refine V_iadd hC dX9_stands_32 ?_
          refine V_istore_n (lv2 := [(0, .ref m9), (1, .int (nI k)), (2, .int (nI (c2 + 0))), (3, .int (nI i))]) hC dX9_stands_33 rfl (by decide) [1, 2, 0, 3] rfl ?_
          refine V_iinc (v := (nI (i + 1))) (lv2 := [(0, .ref m9), (1, .int (nI k)), (2, .int (nI (c2 + 0))), (3, .int (nI (i + 1)))]) (q := 3) hC dX9_stands_34 rfl (nI_add _ _) (by decide) [1, 2, 3, 0] rfl ?_
          refine V_goto (tgt := 4) hC dX9_stands_37 (by decide) ?_
          exact ih4 (i + 1) (c2 + 0) (by omega) (by rw [h2, hO, if_neg (by omega)]) (by omega)
        · refine V_iconst (v := nI 1) hC dX9_stands_27 (by decide) ?_
          refine V_goto (tgt := 32) hC dX9_stands_28 (by decide) ?_
          refine V_iadd hC dX9_stands_32 ?_
          refine V_istore_n (lv2 := [(0, .ref m9), (1, .int (nI k)), (2, .int (nI (c2 + 1))), (3, .int (nI i))]) hC dX9_stands_33 rfl (by decide) [1, 2, 0, 3] rfl ?_
          refine V_iinc (v := (nI (i + 1))) (lv2 := [(0, .ref m9), (1, .int (nI k)), (2, .int (nI (c2 + 1))), (3, .int (nI (i + 1)))]) (q := 3) hC dX9_stands_34 rfl (nI_add _ _) (by decide) [1, 2, 3, 0] rfl ?_
          refine V_goto (tgt := 4) hC dX9_stands_37 (by decide) ?_
          exact ih4 (i + 1) (c2 + 1) (by omega) (by rw [h2, hO, if_pos (by omega)]) (by omega)
  exact L4 _ 0 0 (by omega) (rfl) (Nat.lt_succ_self _)
abbrev rm_X9_mostWritten : Room := { frames := 0, cells := 0, slots := 0, locals := 0 }
set_option maxHeartbeats 4000000 in
set_option maxRecDepth 100000 in
theorem c_X9_mostWritten (l : Launch) (D : va_G) (cI cQ : ClassId) (m9 al hs hL ct tt hv lo hi wt bt bL cs gv gL tk vv rd rM tx tL pl n e p b : Nat) (g fc : Nat → Nat) (hn : n ≤ 40) (hf : ∀ j, j < n → fc j < 100000) : MI l yX9_mostWritten cX9_mostWritten 3 (some .int) rm_X9_mostWritten D (TY cI cQ) [.ref m9] [(m9, .inr (9, [.ref al, .ref hs, .int (nI hL), .ref ct, .int (nI tt), .int (nI hv), .int (nI lo), .int (nI hi), .int (nI wt), .ref bt, .int (nI bL), .ref cs, .ref gv, .int (nI gL), .int (nI tk), .int (nI vv), .ref rd, .int (nI rM), .ref tx, .int (nI tL), .int (nI pl)])), (al, .inl (cI, 44, .inl (fun j => nI ((allF g n e p b) j)))), (cs, .inl (cI, 40, .inl (fun j => nI (fc j))))] (fun (r9 : Int32) (u : Unit) => r9 = (nI (mxF fc n)) ∧ (True)) (fun (u : Unit) => [(m9, .inr (9, [.ref al, .ref hs, .int (nI hL), .ref ct, .int (nI tt), .int (nI hv), .int (nI lo), .int (nI hi), .int (nI wt), .ref bt, .int (nI bL), .ref cs, .ref gv, .int (nI gL), .int (nI tk), .int (nI vv), .ref rd, .int (nI rM), .ref tx, .int (nI tL), .int (nI pl)])), (al, .inl (cI, 44, .inl (fun j => nI ((allF g n e p b) j)))), (cs, .inl (cI, 40, .inl (fun j => nI (fc j))))]) 0 0 := by
  refine MI.start (by decide) (Nat.le_of_ble_eq_true rfl) (lv0 := [(0, .ref m9)]) rfl ?_
  intro pp9 ee9 ss9 mm9 args9 below9 meth9 co9 A9 Q9 hQ hC hr hlk hnm
  refine V_iconst (v := nI 0) hC dX9_mostWritten_0 (by decide) ?_
  refine V_istore_n (lv2 := [(0, .ref m9), (1, .int (nI 0))]) hC dX9_mostWritten_1 rfl (by decide) [1, 0] rfl ?_
  refine V_iconst (v := nI 0) hC dX9_mostWritten_2 (by decide) ?_
  refine V_istore_n (lv2 := [(0, .ref m9), (1, .int (nI 0)), (2, .int (nI 0))]) hC dX9_mostWritten_3 rfl (by decide) [1, 2, 0] rfl ?_
  have L4 : ∀ (n9 : Nat) (i : Nat) (mx : Nat), (i ≤ n) → (mx = mxF fc i) → (mx < 100000) → n - i < n9 → V pp9 l ee9 rm_X9_mostWritten ss9 mm9 args9 below9 meth9 co9 D A9 ss9.heap 3 Q9 [(m9, .inr (9, [.ref al, .ref hs, .int (nI hL), .ref ct, .int (nI tt), .int (nI hv), .int (nI lo), .int (nI hi), .int (nI wt), .ref bt, .int (nI bL), .ref cs, .ref gv, .int (nI gL), .int (nI tk), .int (nI vv), .ref rd, .int (nI rM), .ref tx, .int (nI tL), .int (nI pl)])), (al, .inl (cI, 44, .inl (fun j => nI ((allF g n e p b) j)))), (cs, .inl (cI, 40, .inl (fun j => nI (fc j))))] [(0, .ref m9), (1, .int (nI mx)), (2, .int (nI i))] 0 0 4 [] := by
    intro n9
    induction n9 with
    | zero => intro i mx h1 h2 h3 h9; exact absurd h9 (Nat.not_lt_zero _)
    | succ n9 ih4 =>
      intro i mx h1 h2 h3 h9
      refine V_iload_n hC dX9_mostWritten_4 rfl 2 rfl ?_
      refine V_aload_n hC dX9_mostWritten_5 rfl 0 rfl ?_
      refine V_get (ci := 9) (v := .ref al) hC in_X9 0 rfl cls_X9 0 (by decide) fl_X9_7 rfl dX9_mostWritten_6 ?_
      refine V_iconst (v := nI 2) hC dX9_mostWritten_9 (by decide) ?_
      refine V_iald hC 1 0 rfl rfl (by omega) (by decide) dX9_mostWritten_10 ?_
      refine V_st (st2 := [.int (nI n), .int (nI i)]) (by rw [show ((allF g n e p b) 2) = (n) from rfl]) ?_
      refine V_icmp_ge (tgt := 41) hC (by omega) (by omega) dX9_mostWritten_11 (by decide) (fun c11 => ?_) (fun c11 => ?_)
      · refine V_iload_n hC dX9_mostWritten_41 rfl 1 rfl ?_
        subst hQ
        exact V_iret hC hr hlk rfl (by decide) (by decide) dX9_mostWritten_42 (()) [0, 1, 2] rfl (by decide) (⟨by rw [h2, show i = n by omega], trivial⟩)
      · refine V_aload_n hC dX9_mostWritten_14 rfl 0 rfl ?_
        refine V_get (ci := 9) (v := .ref cs) hC in_X9 0 rfl cls_X9 11 (by decide) fl_X9_22 rfl dX9_mostWritten_15 ?_
        refine V_iload_n hC dX9_mostWritten_18 rfl 2 rfl ?_
        refine V_iald hC 2 0 rfl rfl (by omega) (by decide) dX9_mostWritten_19 ?_
        have hfi := hf i (by omega)
        refine V_iload_n hC dX9_mostWritten_20 rfl 1 rfl ?_
        refine V_icmp_le (tgt := 33) hC (by omega) (by omega) dX9_mostWritten_21 (by decide) (fun c21 => ?_) (fun c21 => ?_)
        · refine V_iload_n hC dX9_mostWritten_33 rfl 1 rfl ?_
          refine V_istore_n (lv2 := [(0, .ref m9), (1, .int (nI mx)), (2, .int (nI i))]) hC dX9_mostWritten_34 rfl (by decide) [1, 0, 2] rfl ?_
          refine V_iinc (v := (nI (i + 1))) (lv2 := [(0, .ref m9), (1, .int (nI mx)), (2, .int (nI (i + 1)))]) (q := 2) hC dX9_mostWritten_35 rfl (nI_add _ _) (by decide) [1, 2, 0] rfl ?_
          refine V_goto (tgt := 4) hC dX9_mostWritten_38 (by decide) ?_
          exact ih4 (i + 1) mx (by omega) (by rw [mxF, ← h2]; omega) (by omega) (by omega)
        · refine V_aload_n hC dX9_mostWritten_24 rfl 0 rfl ?_
          refine V_get (ci := 9) (v := .ref cs) hC in_X9 0 rfl cls_X9 11 (by decide) fl_X9_22 rfl dX9_mostWritten_25 ?_
          refine V_iload_n hC dX9_mostWritten_28 rfl 2 rfl ?_
          refine V_iald hC 2 0 rfl rfl (by omega) (by decide) dX9_mostWritten_29 ?_
          refine V_goto (tgt := 34) hC dX9_mostWritten_30 (by decide) ?_
          refine V_istore_n (lv2 := [(0, .ref m9), (1, .int (nI (fc i))), (2, .int (nI i))]) hC dX9_mostWritten_34 rfl (by decide) [1, 0, 2] rfl ?_
          refine V_iinc (v := (nI (i + 1))) (lv2 := [(0, .ref m9), (1, .int (nI (fc i))), (2, .int (nI (i + 1)))]) (q := 2) hC dX9_mostWritten_35 rfl (nI_add _ _) (by decide) [1, 2, 0] rfl ?_
          refine V_goto (tgt := 4) hC dX9_mostWritten_38 (by decide) ?_
          exact ih4 (i + 1) (fc i) (by omega) (by rw [mxF, ← h2]; omega) (by omega) (by omega)
  exact L4 _ 0 0 (by omega) (rfl) (by omega) (Nat.lt_succ_self _)
abbrev rm_X9_takes : Room := { frames := 0, cells := 0, slots := 0, locals := 0 }
set_option maxHeartbeats 4000000 in
set_option maxRecDepth 100000 in
theorem c_X9_takes (l : Launch) (D : va_G) (cI cQ : ClassId) (m9 al hs hL ct tt hv lo hi wt bt bL cs gv gL tk vv rd rM tx tL pl : Nat) (fg β : Nat → Nat) (hgL : gL ≤ 1400) (hβ : ∀ j, (if j < gL then fg j else 0) = β j) (htk : tk < 2147483648) : MV l yX9_takes cX9_takes 1 none rm_X9_takes D (TY cI cQ) [.ref m9] [(m9, .inr (9, [.ref al, .ref hs, .int (nI hL), .ref ct, .int (nI tt), .int (nI hv), .int (nI lo), .int (nI hi), .int (nI wt), .ref bt, .int (nI bL), .ref cs, .ref gv, .int (nI gL), .int (nI tk), .int (nI vv), .ref rd, .int (nI rM), .ref tx, .int (nI tL), .int (nI pl)])), (gv, .inl (cI, 1400, .inl (fun j => nI (fg j))))] (fun (u : Unit) => True) (fun (u : Unit) => [(m9, .inr (9, [.ref al, .ref hs, .int (nI hL), .ref ct, .int (nI tt), .int (nI hv), .int (nI lo), .int (nI hi), .int (nI wt), .ref bt, .int (nI bL), .ref cs, .ref gv, .int (nI gL), .int (nI (tk + 1)), .int (nI (vv * 2 + β tk)), .ref rd, .int (nI rM), .ref tx, .int (nI tL), .int (nI pl)])), (gv, .inl (cI, 1400, .inl (fun j => nI (fg j))))]) 0 0 := by
  refine MV.start (by decide) (Nat.le_of_ble_eq_true rfl) (lv0 := [(0, .ref m9)]) rfl ?_
  intro pp9 ee9 ss9 mm9 args9 below9 meth9 co9 A9 Q9 hQ hC hr hlk hnm
  refine V_aload_n hC dX9_takes_0 rfl 0 rfl ?_
  refine V_iconst (v := nI 2) hC dX9_takes_1 (by decide) ?_
  refine V_aload_n hC dX9_takes_2 rfl 0 rfl ?_
  refine V_get (ci := 9) (v := .int (nI vv)) hC in_X9 0 rfl cls_X9 15 (by decide) fl_X9_142 rfl dX9_takes_3 ?_
  refine V_imul hC dX9_takes_6 ?_
  refine V_aload_n hC dX9_takes_7 rfl 0 rfl ?_
  refine V_get (ci := 9) (v := .int (nI tk)) hC in_X9 0 rfl cls_X9 14 (by decide) fl_X9_145 rfl dX9_takes_8 ?_
  refine V_aload_n hC dX9_takes_11 rfl 0 rfl ?_
  refine V_get (ci := 9) (v := .int (nI gL)) hC in_X9 0 rfl cls_X9 13 (by decide) fl_X9_148 rfl dX9_takes_12 ?_
  refine V_icmp_ge (tgt := 30) hC (by omega) (by omega) dX9_takes_15 (by decide) (fun c15 => ?_) (fun c15 => ?_)
  · refine V_iconst (v := nI 0) hC dX9_takes_30 (by decide) ?_
    refine V_st (st2 := [.int (nI (β tk)), .int (nI (2 * vv)), .ref m9]) (by rw [show (0) = (β tk) from (by rw [← hβ tk, if_neg (by omega)])]) ?_
    refine V_iadd hC dX9_takes_31 ?_
    refine V_st (st2 := [.int (nI (vv * 2 + β tk)), .ref m9]) (by rw [show ((2 * vv) + (β tk)) = (vv * 2 + β tk) from (by rw [Nat.mul_comm 2 vv])]) ?_
    refine V_put (ci := 9) (v := .int (nI (vv * 2 + β tk))) hC tyX9 tyX9_ok nmX9 in_X9 0 rfl cls_X9 15 (by decide) fl_X9_142 rfl rfl rfl (Nat.le_of_ble_eq_true rfl) dX9_takes_32 (ws2 := [(m9, .inr (9, [.ref al, .ref hs, .int (nI hL), .ref ct, .int (nI tt), .int (nI hv), .int (nI lo), .int (nI hi), .int (nI wt), .ref bt, .int (nI bL), .ref cs, .ref gv, .int (nI gL), .int (nI tk), .int (nI (vv * 2 + β tk)), .ref rd, .int (nI rM), .ref tx, .int (nI tL), .int (nI pl)])), (gv, .inl (cI, 1400, .inl (fun j => nI (fg j))))]) rfl ?_
    refine V_aload_n hC dX9_takes_35 rfl 0 rfl ?_
    refine V_dup hC dX9_takes_36 rfl ?_
    refine V_get (ci := 9) (v := .int (nI tk)) hC in_X9 0 rfl cls_X9 14 (by decide) fl_X9_145 rfl dX9_takes_37 ?_
    refine V_iconst (v := nI 1) hC dX9_takes_40 (by decide) ?_
    refine V_iadd hC dX9_takes_41 ?_
    refine V_put (ci := 9) (v := .int (nI (tk + 1))) hC tyX9 tyX9_ok nmX9 in_X9 0 rfl cls_X9 14 (by decide) fl_X9_145 rfl rfl rfl (Nat.le_of_ble_eq_true rfl) dX9_takes_42 (ws2 := [(m9, .inr (9, [.ref al, .ref hs, .int (nI hL), .ref ct, .int (nI tt), .int (nI hv), .int (nI lo), .int (nI hi), .int (nI wt), .ref bt, .int (nI bL), .ref cs, .ref gv, .int (nI gL), .int (nI (tk + 1)), .int (nI (vv * 2 + β tk)), .ref rd, .int (nI rM), .ref tx, .int (nI tL), .int (nI pl)])), (gv, .inl (cI, 1400, .inl (fun j => nI (fg j))))]) rfl ?_
    subst hQ
    exact V_vret hC hr hlk (by decide) (by decide) dX9_takes_45 (()) [0, 1] rfl (by decide) (trivial)
  · refine V_aload_n hC dX9_takes_18 rfl 0 rfl ?_
    refine V_get (ci := 9) (v := .ref gv) hC in_X9 0 rfl cls_X9 12 (by decide) fl_X9_25 rfl dX9_takes_19 ?_
    refine V_aload_n hC dX9_takes_22 rfl 0 rfl ?_
    refine V_get (ci := 9) (v := .int (nI tk)) hC in_X9 0 rfl cls_X9 14 (by decide) fl_X9_145 rfl dX9_takes_23 ?_
    refine V_iald hC 1 0 rfl rfl (by omega) (by decide) dX9_takes_26 ?_
    refine V_goto (tgt := 31) hC dX9_takes_27 (by decide) ?_
    refine V_st (st2 := [.int (nI (β tk)), .int (nI (2 * vv)), .ref m9]) (by rw [show (fg tk) = (β tk) from (by rw [← hβ tk, if_pos (by omega)])]) ?_
    refine V_iadd hC dX9_takes_31 ?_
    refine V_st (st2 := [.int (nI (vv * 2 + β tk)), .ref m9]) (by rw [show ((2 * vv) + (β tk)) = (vv * 2 + β tk) from (by rw [Nat.mul_comm 2 vv])]) ?_
    refine V_put (ci := 9) (v := .int (nI (vv * 2 + β tk))) hC tyX9 tyX9_ok nmX9 in_X9 0 rfl cls_X9 15 (by decide) fl_X9_142 rfl rfl rfl (Nat.le_of_ble_eq_true rfl) dX9_takes_32 (ws2 := [(m9, .inr (9, [.ref al, .ref hs, .int (nI hL), .ref ct, .int (nI tt), .int (nI hv), .int (nI lo), .int (nI hi), .int (nI wt), .ref bt, .int (nI bL), .ref cs, .ref gv, .int (nI gL), .int (nI tk), .int (nI (vv * 2 + β tk)), .ref rd, .int (nI rM), .ref tx, .int (nI tL), .int (nI pl)])), (gv, .inl (cI, 1400, .inl (fun j => nI (fg j))))]) rfl ?_
    refine V_aload_n hC dX9_takes_35 rfl 0 rfl ?_
    refine V_dup hC dX9_takes_36 rfl ?_
    refine V_get (ci := 9) (v := .int (nI tk)) hC in_X9 0 rfl cls_X9 14 (by decide) fl_X9_145 rfl dX9_takes_37 ?_
    refine V_iconst (v := nI 1) hC dX9_takes_40 (by decide) ?_
    refine V_iadd hC dX9_takes_41 ?_
    refine V_put (ci := 9) (v := .int (nI (tk + 1))) hC tyX9 tyX9_ok nmX9 in_X9 0 rfl cls_X9 14 (by decide) fl_X9_145 rfl rfl rfl (Nat.le_of_ble_eq_true rfl) dX9_takes_42 (ws2 := [(m9, .inr (9, [.ref al, .ref hs, .int (nI hL), .ref ct, .int (nI tt), .int (nI hv), .int (nI lo), .int (nI hi), .int (nI wt), .ref bt, .int (nI bL), .ref cs, .ref gv, .int (nI gL), .int (nI (tk + 1)), .int (nI (vv * 2 + β tk)), .ref rd, .int (nI rM), .ref tx, .int (nI tL), .int (nI pl)])), (gv, .inl (cI, 1400, .inl (fun j => nI (fg j))))]) rfl ?_
    subst hQ
    exact V_vret hC hr hlk (by decide) (by decide) dX9_takes_45 (()) [0, 1] rfl (by decide) (trivial)
abbrev rm_X9_letterAt : Room := { frames := 0, cells := 0, slots := 0, locals := 0 }
set_option maxHeartbeats 4000000 in
set_option maxRecDepth 100000 in
theorem c_X9_letterAt (l : Launch) (D : va_G) (cI cQ : ClassId) (m9 al hs hL ct tt hv lo hi wt bt bL cs gv gL tk vv rd rM tx tL pl : Nat) (f : Nat → Nat) (hc : okC f tt) (hv9 : lo ≤ vv ∧ vv ≤ hi ∧ hi ≤ 65535) : MI l yX9_letterAt cX9_letterAt 5 (some .int) rm_X9_letterAt D (TY cI cQ) [.ref m9] [(m9, .inr (9, [.ref al, .ref hs, .int (nI hL), .ref ct, .int (nI tt), .int (nI hv), .int (nI lo), .int (nI hi), .int (nI wt), .ref bt, .int (nI bL), .ref cs, .ref gv, .int (nI gL), .int (nI tk), .int (nI vv), .ref rd, .int (nI rM), .ref tx, .int (nI tL), .int (nI pl)])), (ct, .inl (cI, 9, .inl (fun j => nI (f j))))] (fun (r9 : Int32) (u : Unit) => r9 = (nI (lwX f tt lo hi vv)) ∧ (True)) (fun (u : Unit) => [(m9, .inr (9, [.ref al, .ref hs, .int (nI hL), .ref ct, .int (nI tt), .int (nI hv), .int (nI lo), .int (nI hi), .int (nI wt), .ref bt, .int (nI bL), .ref cs, .ref gv, .int (nI gL), .int (nI tk), .int (nI vv), .ref rd, .int (nI rM), .ref tx, .int (nI tL), .int (nI pl)])), (ct, .inl (cI, 9, .inl (fun j => nI (f j))))]) 0 0 := by
  refine MI.start (by decide) (Nat.le_of_ble_eq_true rfl) (lv0 := [(0, .ref m9)]) rfl ?_
  intro pp9 ee9 ss9 mm9 args9 below9 meth9 co9 A9 Q9 hQ hC hr hlk hnm
  have ht9 := hc.t9
  have htm := hc.2.2
  have hm1 : 1 ≤ (vv - lo + 1) * tt := Nat.mul_pos (by omega) (by omega)
  have hm2 : (vv - lo + 1) * tt ≤ 65536 * 2000 := Nat.mul_le_mul (by omega) (by omega)
  have hm3 : ((vv - lo + 1) * tt - 1) / (hi - lo + 1) ≤ (vv - lo + 1) * tt - 1 := Nat.div_le_self _ _
  have hm4 := lwX_lt hc (⟨hv9.1, hv9.2.1⟩ : lo ≤ vv ∧ vv ≤ hi)
  have hcs := fun j (hj : j ≤ 9) => hc.cle hj
  refine V_aload_n hC dX9_letterAt_0 rfl 0 rfl ?_
  refine V_get (ci := 9) (v := .int (nI hi)) hC in_X9 0 rfl cls_X9 7 (by decide) fl_X9_50 rfl dX9_letterAt_1 ?_
  refine V_aload_n hC dX9_letterAt_4 rfl 0 rfl ?_
  refine V_get (ci := 9) (v := .int (nI lo)) hC in_X9 0 rfl cls_X9 6 (by decide) fl_X9_53 rfl dX9_letterAt_5 ?_
  refine V_isub hC dX9_letterAt_8 (by omega) ?_
  refine V_iconst (v := nI 1) hC dX9_letterAt_9 (by decide) ?_
  refine V_iadd hC dX9_letterAt_10 ?_
  refine V_istore_n (lv2 := [(0, .ref m9), (1, .int (nI ((hi - lo) + 1)))]) hC dX9_letterAt_11 rfl (by decide) [1, 0] rfl ?_
  refine V_aload_n hC dX9_letterAt_12 rfl 0 rfl ?_
  refine V_get (ci := 9) (v := .int (nI vv)) hC in_X9 0 rfl cls_X9 15 (by decide) fl_X9_142 rfl dX9_letterAt_13 ?_
  refine V_aload_n hC dX9_letterAt_16 rfl 0 rfl ?_
  refine V_get (ci := 9) (v := .int (nI lo)) hC in_X9 0 rfl cls_X9 6 (by decide) fl_X9_53 rfl dX9_letterAt_17 ?_
  refine V_isub hC dX9_letterAt_20 (by omega) ?_
  refine V_iconst (v := nI 1) hC dX9_letterAt_21 (by decide) ?_
  refine V_iadd hC dX9_letterAt_22 ?_
  refine V_aload_n hC dX9_letterAt_23 rfl 0 rfl ?_
  refine V_get (ci := 9) (v := .int (nI tt)) hC in_X9 0 rfl cls_X9 4 (by decide) fl_X9_38 rfl dX9_letterAt_24 ?_
  refine V_imul hC dX9_letterAt_27 ?_
  refine V_iconst (v := nI 1) hC dX9_letterAt_28 (by decide) ?_
  refine V_isub hC dX9_letterAt_29 (by omega) ?_
  refine V_iload_n hC dX9_letterAt_30 rfl 1 rfl ?_
  refine V_idiv hC dX9_letterAt_31 (by omega) (by omega) (by omega) ?_
  obtain ⟨x9, hx9⟩ : ∃ z, z = ((vv - lo + 1) * tt - 1) / (hi - lo + 1) := ⟨_, rfl⟩
  rw [← hx9] at hm3 hm4
  refine V_st (st2 := [.int (nI x9)]) (by rw [show (((((vv - lo) + 1) * tt) - 1) / ((hi - lo) + 1)) = (x9) from hx9.symm]) ?_
  have hlwx : lwX f tt lo hi vv = lw f x9 := by unfold lwX; rw [← hx9]
  refine V_istore_n (lv2 := [(0, .ref m9), (1, .int (nI ((hi - lo) + 1))), (2, .int (nI x9))]) hC dX9_letterAt_32 rfl (by decide) [1, 2, 0] rfl ?_
  refine V_iconst (v := nI 0) hC dX9_letterAt_33 (by decide) ?_
  refine V_istore_n (lv2 := [(0, .ref m9), (1, .int (nI ((hi - lo) + 1))), (2, .int (nI x9)), (3, .int (nI 0))]) hC dX9_letterAt_34 rfl (by decide) [1, 2, 3, 0] rfl ?_
  refine V_aload_n hC dX9_letterAt_35 rfl 0 rfl ?_
  refine V_get (ci := 9) (v := .ref ct) hC in_X9 0 rfl cls_X9 3 (by decide) fl_X9_16 rfl dX9_letterAt_36 ?_
  refine V_iconst (v := nI 0) hC dX9_letterAt_39 (by decide) ?_
  refine V_iald hC 1 0 rfl rfl (by omega) (by decide) dX9_letterAt_40 ?_
  refine V_istore (lv2 := [(0, .ref m9), (1, .int (nI ((hi - lo) + 1))), (2, .int (nI x9)), (3, .int (nI 0)), (4, .int (nI (f 0)))]) hC dX9_letterAt_41 (by decide) [1, 2, 3, 4, 0] rfl ?_
  have L43 : ∀ (n9 : Nat) (i : Nat) (s2 : Nat), (i ≤ 8) → (s2 = cB f i + f i) → (lwA f x9 (9 - i) i = lw f x9) → 8 - i < n9 → V pp9 l ee9 rm_X9_letterAt ss9 mm9 args9 below9 meth9 co9 D A9 ss9.heap 5 Q9 [(m9, .inr (9, [.ref al, .ref hs, .int (nI hL), .ref ct, .int (nI tt), .int (nI hv), .int (nI lo), .int (nI hi), .int (nI wt), .ref bt, .int (nI bL), .ref cs, .ref gv, .int (nI gL), .int (nI tk), .int (nI vv), .ref rd, .int (nI rM), .ref tx, .int (nI tL), .int (nI pl)])), (ct, .inl (cI, 9, .inl (fun j => nI (f j))))] [(0, .ref m9), (1, .int (nI (hi - lo + 1))), (2, .int (nI x9)), (3, .int (nI i)), (4, .int (nI s2))] 0 0 43 [] := by
    intro n9
    induction n9 with
    | zero => intro i s2 h1 h2 h3 h9; exact absurd h9 (Nat.not_lt_zero _)
    | succ n9 ih43 =>
      intro i s2 h1 h2 h3 h9
      refine V_iload hC dX9_letterAt_43 4 rfl ?_
      have hci := hcs (i + 1) (by omega)
      rw [cB] at hci
      refine V_iload_n hC dX9_letterAt_45 rfl 2 rfl ?_
      refine V_icmp_gt (tgt := 66) hC (by omega) (by omega) dX9_letterAt_46 (by decide) (fun c46 => ?_) (fun c46 => ?_)
      · refine V_iload_n hC dX9_letterAt_66 rfl 3 rfl ?_
        subst hQ
        exact V_iret hC hr hlk rfl (by decide) (by decide) dX9_letterAt_67 (()) [0, 1] rfl (by decide) (⟨by rw [hlwx, ← h3, show 9 - i = (9 - (i + 1)) + 1 by omega, lwA, if_pos (by rw [cB, ← h2]; omega)], trivial⟩)
      · have hi8 : i < 8 := by
          rcases Nat.lt_or_ge i 8 with q | q
          · exact q
          · rw [show i = 8 by omega] at h2; rw [cB] at hm4; omega
        refine V_iinc (v := (nI (i + 1))) (lv2 := [(0, .ref m9), (1, .int (nI (hi - lo + 1))), (2, .int (nI x9)), (3, .int (nI (i + 1))), (4, .int (nI s2))]) (q := 3) hC dX9_letterAt_49 rfl (nI_add _ _) (by decide) [1, 2, 3, 0, 4] rfl ?_
        refine V_iload hC dX9_letterAt_52 4 rfl ?_
        refine V_aload_n hC dX9_letterAt_54 rfl 0 rfl ?_
        refine V_get (ci := 9) (v := .ref ct) hC in_X9 0 rfl cls_X9 3 (by decide) fl_X9_16 rfl dX9_letterAt_55 ?_
        refine V_iload_n hC dX9_letterAt_58 rfl 3 rfl ?_
        refine V_iald hC 1 0 rfl rfl (by omega) (by decide) dX9_letterAt_59 ?_
        refine V_iadd hC dX9_letterAt_60 ?_
        refine V_istore (lv2 := [(0, .ref m9), (1, .int (nI (hi - lo + 1))), (2, .int (nI x9)), (3, .int (nI (i + 1))), (4, .int (nI (s2 + (f (i + 1)))))]) hC dX9_letterAt_61 (by decide) [1, 2, 3, 4, 0] rfl ?_
        refine V_goto (tgt := 43) hC dX9_letterAt_63 (by decide) ?_
        exact ih43 (i + 1) (s2 + (f (i + 1))) (by omega) (by rw [h2, ← cB]) (by rw [← h3, show 9 - i = (9 - (i + 1)) + 1 by omega, lwA, if_neg (by rw [cB, ← h2]; omega)]) (by omega)
  exact L43 _ 0 (f 0) (by omega) ((Nat.zero_add _).symm) (rfl) (Nat.lt_succ_self _)
