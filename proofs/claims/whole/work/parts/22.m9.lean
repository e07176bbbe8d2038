abbrev rm_X9_record : Room := { frames := 0, cells := 0, slots := 0, locals := 0 }
theorem c_X9_record (l : Launch) (D : va_G) (cI cQ : ClassId) (m9 al hs hL ct tt hv lo hi wt bt bL cs gv gL tk vv rd rM tx tL pl n e p b : Nat) (g fh : Nat → Nat) (hz : hL ≤ 4) : MV l yX9_record cX9_record 2 none rm_X9_record D (TY cI cQ) [.ref m9] [(m9, .inr (9, [.ref al, .ref hs, .int (nI hL), .ref ct, .int (nI tt), .int (nI hv), .int (nI lo), .int (nI hi), .int (nI wt), .ref bt, .int (nI bL), .ref cs, .ref gv, .int (nI gL), .int (nI tk), .int (nI vv), .ref rd, .int (nI rM), .ref tx, .int (nI tL), .int (nI pl)])), (al, .inl (cI, 44, .inl (fun j => nI ((allF g n e p b) j)))), (hs, .inl (cI, 176, .inl (fun j => nI (fh j))))] (fun (u : (Nat → Nat)) => ∀ k, k < hsz hL → ∀ j, j < 44 → HB u k j = hup (HB fh) hL (allF g n e p b) k j) (fun (u : (Nat → Nat)) => [(m9, .inr (9, [.ref al, .ref hs, .int (nI (hsz hL)), .ref ct, .int (nI tt), .int (nI hv), .int (nI lo), .int (nI hi), .int (nI wt), .ref bt, .int (nI bL), .ref cs, .ref gv, .int (nI gL), .int (nI tk), .int (nI vv), .ref rd, .int (nI rM), .ref tx, .int (nI tL), .int (nI pl)])), (al, .inl (cI, 44, .inl (fun j => nI ((allF g n e p b) j)))), (hs, .inl (cI, 176, .inl (fun j => nI (u j))))]) 0 0 := by
  rcases Nat.lt_or_ge hL 4 with h | h
  · exact c_X9_record_lt l D cI cQ m9 al hs hL ct tt hv lo hi wt bt bL cs gv gL tk vv rd rM tx tL pl n e p b g fh h
  · exact c_X9_record_eq l D cI cQ m9 al hs hL ct tt hv lo hi wt bt bL cs gv gL tk vv rd rM tx tL pl n e p b g fh (by omega)
abbrev rm_X9_reads : Room := { frames := 2, cells := 0, slots := 0, locals := 46 }
set_option maxHeartbeats 4000000 in
set_option maxRecDepth 100000 in
theorem c_X9_reads (l : Launch) (D : va_G) (cI cQ : ClassId) (m9 al hs hL ct tt hv lo hi wt bt bL cs gv gL tk vv rd rM tx tL pl n e p b : Nat) (g f fg β frd : Nat → Nat) (hgL : gL ≤ 1400) (hβ : ∀ j, (if j < gL then fg j else 0) = β j) (hβ2 : ∀ j, β j < 2) (hp : p ≤ 64) (hb : b ≤ 2000) : MI l yX9_reads cX9_reads 3 (some .boolean) rm_X9_reads D (TY cI cQ) [.ref m9] [(m9, .inr (9, [.ref al, .ref hs, .int (nI hL), .ref ct, .int (nI tt), .int (nI hv), .int (nI lo), .int (nI hi), .int (nI wt), .ref bt, .int (nI bL), .ref cs, .ref gv, .int (nI gL), .int (nI tk), .int (nI vv), .ref rd, .int (nI rM), .ref tx, .int (nI tL), .int (nI pl)])), (al, .inl (cI, 44, .inl (fun j => nI ((allF g n e p b) j)))), (ct, .inl (cI, 9, .inl (fun j => nI (f j)))), (gv, .inl (cI, 1400, .inl (fun j => nI (fg j)))), (rd, .inl (cI, 40, .inl (fun j => nI (frd j))))] (fun (r9 : Int32) (u : (Nat → Nat)) => r9 = (nI ((rdF p b β).1)) ∧ (rep u (qR (rdF p b β).2))) (fun (u : (Nat → Nat)) => [(m9, .inr (9, [.ref al, .ref hs, .int (nI hL), .ref ct, .int (nI (qT ((rdF p b β).2))), .int (nI (qH ((rdF p b β).2))), .int (nI (qL ((rdF p b β).2))), .int (nI (qU ((rdF p b β).2))), .int (nI wt), .ref bt, .int (nI bL), .ref cs, .ref gv, .int (nI gL), .int (nI (qK ((rdF p b β).2))), .int (nI (qV ((rdF p b β).2))), .ref rd, .int (nI ((qR ((rdF p b β).2)).length)), .ref tx, .int (nI tL), .int (nI pl)])), (al, .inl (cI, 44, .inl (fun j => nI ((allF g n e p b) j)))), (ct, .inl (cI, 9, .inl (fun j => nI ((qF ((rdF p b β).2)) j)))), (gv, .inl (cI, 1400, .inl (fun j => nI (fg j)))), (rd, .inl (cI, 40, .inl (fun j => nI (u j))))]) 0 0 := by
  refine MI.start (by decide) (Nat.le_of_ble_eq_true rfl) (lv0 := [(0, .ref m9)]) rfl ?_
  intro pp9 ee9 ss9 mm9 args9 below9 meth9 co9 A9 Q9 hQ hC hr hlk hnm
  refine V_aload_n hC dX9_reads_0 rfl 0 rfl ?_
  refine V_callvV (As := []) (rest := []) (wr := [(al, .inl (cI, 44, .inl (fun j => nI ((allF g n e p b) j)))), (gv, .inl (cI, 1400, .inl (fun j => nI (fg j)))), (rd, .inl (cI, 40, .inl (fun j => nI (frd j))))]) hC (c_X9_beginsSpan l D cI cQ m9 al hs hL ct tt hv lo hi wt bt bL cs gv gL tk vv rd rM tx tL pl f ) mok_X9_beginsSpan ml_X9_83 (q1 := 0) rfl cls_X9 rfl rfl rfl (by decide) (by decide) (by decide) (Nat.le_of_ble_eq_true rfl) [0, 2] [1, 3, 4] rfl (by decide) rfl (by decide) (by decide) dX9_reads_1 rfl (fun u9 h1 => ?_)
  clear h1
  refine V_perm (ws2 := [(m9, .inr (9, [.ref al, .ref hs, .int (nI hL), .ref ct, .int (nI 9), .int (nI 0), .int (nI 0), .int (nI 65535), .int (nI wt), .ref bt, .int (nI bL), .ref cs, .ref gv, .int (nI gL), .int (nI tk), .int (nI vv), .ref rd, .int (nI rM), .ref tx, .int (nI tL), .int (nI pl)])), (al, .inl (cI, 44, .inl (fun j => nI ((allF g n e p b) j)))), (ct, .inl (cI, 9, .inl (fun j => nI (one j)))), (gv, .inl (cI, 1400, .inl (fun j => nI (fg j)))), (rd, .inl (cI, 40, .inl (fun j => nI (frd j))))]) [3, 0, 4, 1, 2] rfl (by decide) ?_
  refine V_aload_n hC dX9_reads_4 rfl 0 rfl ?_
  refine V_iconst (v := nI 0) hC dX9_reads_5 (by decide) ?_
  refine V_put (ci := 9) (v := .int (nI 0)) hC tyX9 tyX9_ok nmX9 in_X9 0 rfl cls_X9 15 (by decide) fl_X9_142 rfl rfl rfl (Nat.le_of_ble_eq_true rfl) dX9_reads_6 (ws2 := [(m9, .inr (9, [.ref al, .ref hs, .int (nI hL), .ref ct, .int (nI 9), .int (nI 0), .int (nI 0), .int (nI 65535), .int (nI wt), .ref bt, .int (nI bL), .ref cs, .ref gv, .int (nI gL), .int (nI tk), .int (nI 0), .ref rd, .int (nI rM), .ref tx, .int (nI tL), .int (nI pl)])), (al, .inl (cI, 44, .inl (fun j => nI ((allF g n e p b) j)))), (ct, .inl (cI, 9, .inl (fun j => nI (one j)))), (gv, .inl (cI, 1400, .inl (fun j => nI (fg j)))), (rd, .inl (cI, 40, .inl (fun j => nI (frd j))))]) rfl ?_
  refine V_aload_n hC dX9_reads_9 rfl 0 rfl ?_
  refine V_iconst (v := nI 0) hC dX9_reads_10 (by decide) ?_
  refine V_put (ci := 9) (v := .int (nI 0)) hC tyX9 tyX9_ok nmX9 in_X9 0 rfl cls_X9 14 (by decide) fl_X9_145 rfl rfl rfl (Nat.le_of_ble_eq_true rfl) dX9_reads_11 (ws2 := [(m9, .inr (9, [.ref al, .ref hs, .int (nI hL), .ref ct, .int (nI 9), .int (nI 0), .int (nI 0), .int (nI 65535), .int (nI wt), .ref bt, .int (nI bL), .ref cs, .ref gv, .int (nI gL), .int (nI 0), .int (nI 0), .ref rd, .int (nI rM), .ref tx, .int (nI tL), .int (nI pl)])), (al, .inl (cI, 44, .inl (fun j => nI ((allF g n e p b) j)))), (ct, .inl (cI, 9, .inl (fun j => nI (one j)))), (gv, .inl (cI, 1400, .inl (fun j => nI (fg j)))), (rd, .inl (cI, 40, .inl (fun j => nI (frd j))))]) rfl ?_
  refine V_aload_n hC dX9_reads_14 rfl 0 rfl ?_
  refine V_iconst (v := nI 0) hC dX9_reads_15 (by decide) ?_
  refine V_put (ci := 9) (v := .int (nI 0)) hC tyX9 tyX9_ok nmX9 in_X9 0 rfl cls_X9 17 (by decide) fl_X9_151 rfl rfl rfl (Nat.le_of_ble_eq_true rfl) dX9_reads_16 (ws2 := [(m9, .inr (9, [.ref al, .ref hs, .int (nI hL), .ref ct, .int (nI 9), .int (nI 0), .int (nI 0), .int (nI 65535), .int (nI wt), .ref bt, .int (nI bL), .ref cs, .ref gv, .int (nI gL), .int (nI 0), .int (nI 0), .ref rd, .int (nI 0), .ref tx, .int (nI tL), .int (nI pl)])), (al, .inl (cI, 44, .inl (fun j => nI ((allF g n e p b) j)))), (ct, .inl (cI, 9, .inl (fun j => nI (one j)))), (gv, .inl (cI, 1400, .inl (fun j => nI (fg j)))), (rd, .inl (cI, 40, .inl (fun j => nI (frd j))))]) rfl ?_
  refine V_iconst (v := nI 0) hC dX9_reads_19 (by decide) ?_
  refine V_istore_n (lv2 := [(0, .ref m9), (1, .int (nI 0))]) hC dX9_reads_20 rfl (by decide) [1, 0] rfl ?_
  have L21 : ∀ (n9 : Nat) (i : Nat), (i ≤ 16) → 16 - i < n9 → V pp9 l ee9 rm_X9_reads ss9 mm9 args9 below9 meth9 co9 D A9 ss9.heap 3 Q9 [(m9, .inr (9, [.ref al, .ref hs, .int (nI hL), .ref ct, .int (nI 9), .int (nI 0), .int (nI 0), .int (nI 65535), .int (nI wt), .ref bt, .int (nI bL), .ref cs, .ref gv, .int (nI gL), .int (nI i), .int (nI (v16 β i)), .ref rd, .int (nI 0), .ref tx, .int (nI tL), .int (nI pl)])), (al, .inl (cI, 44, .inl (fun j => nI ((allF g n e p b) j)))), (ct, .inl (cI, 9, .inl (fun j => nI (one j)))), (gv, .inl (cI, 1400, .inl (fun j => nI (fg j)))), (rd, .inl (cI, 40, .inl (fun j => nI (frd j))))] [(0, .ref m9), (1, .int (nI i))] 0 0 21 [] := by
    intro n9
    induction n9 with
    | zero => intro i h1 h9; exact absurd h9 (Nat.not_lt_zero _)
    | succ n9 ih21 =>
      intro i h1 h9
      refine V_iload_n hC dX9_reads_21 rfl 1 rfl ?_
      refine V_bipush (v := nI 16) hC dX9_reads_22 (by decide) ?_
      refine V_icmp_ge (tgt := 37) hC (by omega) (by omega) dX9_reads_24 (by decide) (fun c24 => ?_) (fun c24 => ?_)
      · have ei9 : i = 16 := by omega
        subst ei9
        refine V_aload_n hC dX9_reads_37 rfl 0 rfl ?_
        have h16 := v16_lt hβ2 16
        have h65 : (2 : Nat) ^ 16 = 65536 := by decide
        refine V_calliV (As := []) (rest := []) (wr := [(al, .inl (cI, 44, .inl (fun j => nI ((allF g n e p b) j)))), (gv, .inl (cI, 1400, .inl (fun j => nI (fg j)))), (rd, .inl (cI, 40, .inl (fun j => nI (frd j))))]) hC (c_X9_letterAt l D cI cQ m9 al hs hL ct 9 0 0 65535 wt bt bL cs gv gL 16 (v16 β 16) rd 0 tx tL pl one (okC_one) (by omega)) mok_X9_letterAt ml_X9_157 (q1 := 0) rfl cls_X9 rfl rfl rfl (by decide) (by decide) (by decide) (Nat.le_of_ble_eq_true rfl) [0, 2] [1, 3, 4] rfl (by decide) rfl (by decide) (by decide) dX9_reads_38 rfl (fun r9 u9 h38 => ?_)
        obtain ⟨rfl, h38⟩ := h38
        clear h38
        refine V_perm (ws2 := [(m9, .inr (9, [.ref al, .ref hs, .int (nI hL), .ref ct, .int (nI 9), .int (nI 0), .int (nI 0), .int (nI 65535), .int (nI wt), .ref bt, .int (nI bL), .ref cs, .ref gv, .int (nI gL), .int (nI 16), .int (nI ((v16 β 16))), .ref rd, .int (nI 0), .ref tx, .int (nI tL), .int (nI pl)])), (al, .inl (cI, 44, .inl (fun j => nI ((allF g n e p b) j)))), (ct, .inl (cI, 9, .inl (fun j => nI (one j)))), (gv, .inl (cI, 1400, .inl (fun j => nI (fg j)))), (rd, .inl (cI, 40, .inl (fun j => nI (frd j))))]) [3, 0, 4, 1, 2] rfl (by decide) ?_
        refine V_st (st2 := [.int (nI (lwS (rd0 β)))]) (by rw [show (lwX one 9 0 65535 (v16 β 16)) = (lwS (rd0 β)) from rfl]) ?_
        refine V_istore_n (lv2 := [(0, .ref m9), (1, .int (nI (lwS (rd0 β))))]) hC dX9_reads_41 rfl (by decide) [1, 0] rfl ?_
        have L42 : ∀ (n9 : Nat) (s9 : RS) (frd2 : Nat → Nat), (rdd p b β (41 - (qR s9).length) s9 = rdF p b β) → (okR s9) → (rep frd2 (qR s9)) → 40 - (qR s9).length < n9 → V pp9 l ee9 rm_X9_reads ss9 mm9 args9 below9 meth9 co9 D A9 ss9.heap 3 Q9 [(m9, .inr (9, [.ref al, .ref hs, .int (nI hL), .ref ct, .int (nI (qT (s9))), .int (nI (qH (s9))), .int (nI (qL (s9))), .int (nI (qU (s9))), .int (nI wt), .ref bt, .int (nI bL), .ref cs, .ref gv, .int (nI gL), .int (nI (qK (s9))), .int (nI (qV (s9))), .ref rd, .int (nI ((qR (s9)).length)), .ref tx, .int (nI tL), .int (nI pl)])), (al, .inl (cI, 44, .inl (fun j => nI ((allF g n e p b) j)))), (ct, .inl (cI, 9, .inl (fun j => nI ((qF (s9)) j)))), (gv, .inl (cI, 1400, .inl (fun j => nI (fg j)))), (rd, .inl (cI, 40, .inl (fun j => nI (frd2 j))))] [(0, .ref m9), (1, .int (nI (lwS s9)))] 0 0 42 [] := by
          intro n9
          induction n9 with
          | zero => intro s9 frd2 h3 hR h5 h9; exact absurd h9 (Nat.not_lt_zero _)
          | succ n9 ih42 =>
            intro s9 frd2 h3 hR h5 h9
            have hlw := hR.lw
            have hz2 := hR.2.2.2.2.2.2
            have hk9 := hR.2.2.2.2.2.1
            have hsh := sh_ok hR.1 hlw.1 ⟨Nat.le_trans hR.2.1 hR.2.2.1, hR.2.2.2.1⟩ hR.wide
            have hU := hR.2.2.2.1
            refine V_iload_n hC dX9_reads_42 rfl 1 rfl ?_
            refine V_bipush (v := nI 8) hC dX9_reads_43 (by decide) ?_
            refine V_icmp_eq (tgt := 137) hC (by omega) (by omega) dX9_reads_45 (by decide) (fun c45 => ?_) (fun c45 => ?_)
            · refine V_iload_n hC dX9_reads_137 rfl 1 rfl ?_
              refine V_bipush (v := nI 8) hC dX9_reads_138 (by decide) ?_
              refine V_icmp_ne_F (tgt := 147) hC dX9_reads_140 (by decide) (congrArg nI (show lwS s9 = 8 by omega)) ?_
              refine V_iconst (v := nI 1) hC dX9_reads_143 (by decide) ?_
              refine V_goto (tgt := 148) hC dX9_reads_144 (by decide) ?_
              subst hQ
              rw [← h3, show 41 - (qR s9).length = (41 - ((qR s9).length + 1)) + 1 by omega, rdd_end c45]
              exact V_iret hC hr hlk rfl (by decide) (by decide) dX9_reads_148 (frd2) [0, 1, 2, 3, 4] rfl (by decide) (⟨rfl, h5⟩)
            · refine V_aload_n hC dX9_reads_48 rfl 0 rfl ?_
              refine V_get (ci := 9) (v := .int (nI ((qR (s9)).length))) hC in_X9 0 rfl cls_X9 17 (by decide) fl_X9_151 rfl dX9_reads_49 ?_
              refine V_bipush (v := nI 40) hC dX9_reads_52 (by decide) ?_
              refine V_icmp_ge (tgt := 137) hC (by omega) (by omega) dX9_reads_54 (by decide) (fun c54 => ?_) (fun c54 => ?_)
              · refine V_iload_n hC dX9_reads_137 rfl 1 rfl ?_
                refine V_bipush (v := nI 8) hC dX9_reads_138 (by decide) ?_
                refine V_icmp_ne_T (tgt := 147) hC dX9_reads_140 (by decide) (fun z => absurd ((nI_eq (by omega) (by omega)).mp z) (show ¬ lwS s9 = 8 by omega)) ?_
                refine V_iconst (v := nI 0) hC dX9_reads_147 (by decide) ?_
                subst hQ
                rw [← h3, rdd_full c45 (by omega)]
                exact V_iret hC hr hlk rfl (by decide) (by decide) dX9_reads_148 (frd2) [0, 1, 2, 3, 4] rfl (by decide) (⟨rfl, h5⟩)
              · refine V_aload_n hC dX9_reads_57 rfl 0 rfl ?_
                refine V_get (ci := 9) (v := .ref rd) hC in_X9 0 rfl cls_X9 16 (by decide) fl_X9_28 rfl dX9_reads_58 ?_
                refine V_aload_n hC dX9_reads_61 rfl 0 rfl ?_
                refine V_get (ci := 9) (v := .int (nI ((qR (s9)).length))) hC in_X9 0 rfl cls_X9 17 (by decide) fl_X9_151 rfl dX9_reads_62 ?_
                refine V_iload_n hC dX9_reads_65 rfl 1 rfl ?_
                refine V_iast hC 4 0 rfl rfl (by omega) (by decide) dX9_reads_66 (ws2 := [(m9, .inr (9, [.ref al, .ref hs, .int (nI hL), .ref ct, .int (nI (qT (s9))), .int (nI (qH (s9))), .int (nI (qL (s9))), .int (nI (qU (s9))), .int (nI wt), .ref bt, .int (nI bL), .ref cs, .ref gv, .int (nI gL), .int (nI (qK (s9))), .int (nI (qV (s9))), .ref rd, .int (nI ((qR (s9)).length)), .ref tx, .int (nI tL), .int (nI pl)])), (al, .inl (cI, 44, .inl (fun j => nI ((allF g n e p b) j)))), (ct, .inl (cI, 9, .inl (fun j => nI ((qF (s9)) j)))), (gv, .inl (cI, 1400, .inl (fun j => nI (fg j)))), (rd, .inl (cI, 40, .inl (fun j => nI ((va_up frd2 ((qR (s9)).length) (lwS s9)) j))))]) rfl ?_
                refine V_aload_n hC dX9_reads_67 rfl 0 rfl ?_
                refine V_dup hC dX9_reads_68 rfl ?_
                refine V_get (ci := 9) (v := .int (nI ((qR (s9)).length))) hC in_X9 0 rfl cls_X9 17 (by decide) fl_X9_151 rfl dX9_reads_69 ?_
                refine V_iconst (v := nI 1) hC dX9_reads_72 (by decide) ?_
                refine V_iadd hC dX9_reads_73 ?_
                refine V_put (ci := 9) (v := .int (nI (((qR (s9)).length) + 1))) hC tyX9 tyX9_ok nmX9 in_X9 0 rfl cls_X9 17 (by decide) fl_X9_151 rfl rfl rfl (Nat.le_of_ble_eq_true rfl) dX9_reads_74 (ws2 := [(m9, .inr (9, [.ref al, .ref hs, .int (nI hL), .ref ct, .int (nI (qT (s9))), .int (nI (qH (s9))), .int (nI (qL (s9))), .int (nI (qU (s9))), .int (nI wt), .ref bt, .int (nI bL), .ref cs, .ref gv, .int (nI gL), .int (nI (qK (s9))), .int (nI (qV (s9))), .ref rd, .int (nI (((qR (s9)).length) + 1)), .ref tx, .int (nI tL), .int (nI pl)])), (al, .inl (cI, 44, .inl (fun j => nI ((allF g n e p b) j)))), (ct, .inl (cI, 9, .inl (fun j => nI ((qF (s9)) j)))), (gv, .inl (cI, 1400, .inl (fun j => nI (fg j)))), (rd, .inl (cI, 40, .inl (fun j => nI ((va_up frd2 ((qR (s9)).length) (lwS s9)) j))))]) rfl ?_
                refine V_aload_n hC dX9_reads_77 rfl 0 rfl ?_
                refine V_iload_n hC dX9_reads_78 rfl 1 rfl ?_
                refine V_callvV (As := [.int (nI (lwS s9))]) (rest := []) (wr := [(al, .inl (cI, 44, .inl (fun j => nI ((allF g n e p b) j)))), (gv, .inl (cI, 1400, .inl (fun j => nI (fg j)))), (rd, .inl (cI, 40, .inl (fun j => nI ((va_up frd2 ((qR (s9)).length) (lwS s9)) j))))]) hC (c_X9_cuts l D cI cQ m9 al hs hL ct (qT (s9)) (qH (s9)) (qL (s9)) (qU (s9)) wt bt bL cs gv gL (qK (s9)) (qV (s9)) rd (((qR (s9)).length) + 1) tx tL pl (lwS s9) (qF (s9)) (hlw.1) (hR.1) (⟨Nat.le_trans hR.2.1 hR.2.2.1, hR.2.2.2.1⟩) (hR.wide)) mok_X9_cuts ml_X9_62 (q1 := 0) rfl cls_X9 rfl rfl rfl (by decide) (by decide) (by decide) (Nat.le_of_ble_eq_true rfl) [0, 2] [1, 3, 4] rfl (by decide) rfl (by decide) (by decide) dX9_reads_79 rfl (fun u9 h79 => ?_)
                clear h79
                refine V_perm (ws2 := [(m9, .inr (9, [.ref al, .ref hs, .int (nI hL), .ref ct, .int (nI ((qT (s9)))), .int (nI ((qH (s9)))), .int (nI (shL (qF (s9)) (qT (s9)) (lwS s9) (qL (s9)) (qU (s9)))), .int (nI (shU (qF (s9)) (qT (s9)) (lwS s9) (qL (s9)) (qU (s9)))), .int (nI wt), .ref bt, .int (nI bL), .ref cs, .ref gv, .int (nI gL), .int (nI ((qK (s9)))), .int (nI ((qV (s9)))), .ref rd, .int (nI ((((qR (s9)).length) + 1))), .ref tx, .int (nI tL), .int (nI pl)])), (al, .inl (cI, 44, .inl (fun j => nI ((allF g n e p b) j)))), (ct, .inl (cI, 9, .inl (fun j => nI (((qF (s9))) j)))), (gv, .inl (cI, 1400, .inl (fun j => nI (fg j)))), (rd, .inl (cI, 40, .inl (fun j => nI ((va_up frd2 ((qR (s9)).length) (lwS s9)) j))))]) [3, 0, 4, 1, 2] rfl (by decide) ?_
                refine V_aload_n hC dX9_reads_82 rfl 0 rfl ?_
                by_cases hw1 : wO (shL (qF s9) (qT s9) (lwS s9) (qL s9) (qU s9)) (shU (qF s9) (qT s9) (lwS s9) (qL s9) (qU s9)) = 1
                · refine V_calliV (As := []) (rest := []) (wr := [(al, .inl (cI, 44, .inl (fun j => nI ((allF g n e p b) j)))), (ct, .inl (cI, 9, .inl (fun j => nI (((qF (s9))) j)))), (gv, .inl (cI, 1400, .inl (fun j => nI (fg j)))), (rd, .inl (cI, 40, .inl (fun j => nI ((va_up frd2 ((qR (s9)).length) (lwS s9)) j))))]) hC (c_X9_takenOff_stop l D cI cQ m9 al hs hL ct ((qT (s9))) ((qH (s9))) (shL (qF (s9)) (qT (s9)) (lwS s9) (qL (s9)) (qU (s9))) (shU (qF (s9)) (qT (s9)) (lwS s9) (qL (s9)) (qU (s9))) wt bt bL cs gv gL ((qK (s9))) ((qV (s9))) rd ((((qR (s9)).length) + 1)) tx tL pl (by omega) (hw1)) mok_X9_takenOff ml_X9_66 (q1 := 0) rfl cls_X9 rfl rfl rfl (by decide) (by decide) (by decide) (Nat.le_of_ble_eq_true rfl) [0] [1, 2, 3, 4] rfl (by decide) rfl (by decide) (by decide) dX9_reads_83 rfl (fun r9 u9 h83 => ?_)
                  obtain ⟨rfl, h83⟩ := h83
                  clear h83
                  refine V_perm (ws2 := [(m9, .inr (9, [.ref al, .ref hs, .int (nI hL), .ref ct, .int (nI (((qT (s9))))), .int (nI (((qH (s9))))), .int (nI ((shL (qF (s9)) (qT (s9)) (lwS s9) (qL (s9)) (qU (s9))))), .int (nI ((shU (qF (s9)) (qT (s9)) (lwS s9) (qL (s9)) (qU (s9))))), .int (nI wt), .ref bt, .int (nI bL), .ref cs, .ref gv, .int (nI gL), .int (nI (((qK (s9))))), .int (nI (((qV (s9))))), .ref rd, .int (nI (((((qR (s9)).length) + 1)))), .ref tx, .int (nI tL), .int (nI pl)])), (al, .inl (cI, 44, .inl (fun j => nI ((allF g n e p b) j)))), (ct, .inl (cI, 9, .inl (fun j => nI (((qF (s9))) j)))), (gv, .inl (cI, 1400, .inl (fun j => nI (fg j)))), (rd, .inl (cI, 40, .inl (fun j => nI ((va_up frd2 ((qR (s9)).length) (lwS s9)) j))))]) [4, 0, 1, 2, 3] rfl (by decide) ?_
                  refine V_istore_n (lv2 := [(0, .ref m9), (1, .int (nI (lwS s9))), (2, .int (-1))]) hC dX9_reads_86 rfl (by decide) [1, 2, 0] rfl ?_
                  refine V_iload_n hC dX9_reads_87 rfl 2 rfl ?_
                  refine V_if_lt_T (tgt := 118) hC dX9_reads_88 (by decide) (Int32.lt_iff_toInt_lt.mpr (by decide)) ?_
                  have hnv : nvS β s9 (lwS s9) = ((shL (qF (s9)) (qT (s9)) (lwS s9) (qL (s9)) (qU (s9))), (shU (qF (s9)) (qT (s9)) (lwS s9) (qL (s9)) (qU (s9))), ((qV (s9))), ((qK (s9)))) := nv_stop hw1
                  have hq1 : qL (rStep p b β s9) = (shL (qF (s9)) (qT (s9)) (lwS s9) (qL (s9)) (qU (s9))) := by show (nvS β s9 (lwS s9)).1 = _; rw [hnv]
                  have hq2 : qU (rStep p b β s9) = (shU (qF (s9)) (qT (s9)) (lwS s9) (qL (s9)) (qU (s9))) := by show (nvS β s9 (lwS s9)).2.1 = _; rw [hnv]
                  have hq3 : qV (rStep p b β s9) = ((qV (s9))) := by show (nvS β s9 (lwS s9)).2.2.1 = _; rw [hnv]
                  have hq4 : qK (rStep p b β s9) = ((qK (s9))) := by show (nvS β s9 (lwS s9)).2.2.2 = _; rw [hnv]
                  have hq5 : (qR (rStep p b β s9)).length = (qR s9).length + 1 := by show (qR s9 ++ [lwS s9]).length = _; rw [List.length_append, List.length_singleton]
                  have hRs := hR.step hβ2 hp hb (show (qR s9).length < 40 by omega)
                  refine V_aload_n hC dX9_reads_118 rfl 0 rfl ?_
                  refine V_iload_n hC dX9_reads_119 rfl 1 rfl ?_
                  refine V_aload_n hC dX9_reads_120 rfl 0 rfl ?_
                  refine V_get (ci := 9) (v := .ref al) hC in_X9 0 rfl cls_X9 0 (by decide) fl_X9_7 rfl dX9_reads_121 ?_
                  refine V_iconst (v := nI 0) hC dX9_reads_124 (by decide) ?_
                  refine V_iald hC 1 0 rfl rfl (by omega) (by decide) dX9_reads_125 ?_
                  refine V_st (st2 := [.int (nI p), .int (nI (lwS s9)), .ref m9]) (by rw [show ((allF g n e p b) 0) = (p) from rfl]) ?_
                  refine V_callvV (As := [.int (nI (lwS s9)), .int (nI p)]) (rest := []) (wr := [(gv, .inl (cI, 1400, .inl (fun j => nI (fg j)))), (rd, .inl (cI, 40, .inl (fun j => nI ((va_up frd2 ((qR (s9)).length) (lwS s9)) j))))]) hC (c_X9_learns l D cI cQ m9 al hs hL ct (((qT (s9)))) (((qH (s9)))) ((shL (qF (s9)) (qT (s9)) (lwS s9) (qL (s9)) (qU (s9)))) ((shU (qF (s9)) (qT (s9)) (lwS s9) (qL (s9)) (qU (s9)))) wt bt bL cs gv gL (((qK (s9)))) (((qV (s9)))) rd (((((qR (s9)).length) + 1))) tx tL pl n e p b (lwS s9) p g ((qF (s9))) (hlw.1) (hR.1) (hp) (hb)) mok_X9_learns ml_X9_86 (q1 := 0) rfl cls_X9 rfl rfl rfl (by decide) (by decide) (by decide) (Nat.le_of_ble_eq_true rfl) [0, 1, 2] [3, 4] rfl (by decide) rfl (by decide) (by decide) dX9_reads_126 rfl (fun u9 h126 => ?_)
                  clear h126
                  refine V_perm (ws2 := [(m9, .inr (9, [.ref al, .ref hs, .int (nI hL), .ref ct, .int (nI (lrT p b ((qF (s9))) (((qT (s9)))) (lwS s9))), .int (nI (lrH p b (((qT (s9)))) (((qH (s9)))))), .int (nI (((shL (qF (s9)) (qT (s9)) (lwS s9) (qL (s9)) (qU (s9)))))), .int (nI (((shU (qF (s9)) (qT (s9)) (lwS s9) (qL (s9)) (qU (s9)))))), .int (nI wt), .ref bt, .int (nI bL), .ref cs, .ref gv, .int (nI gL), .int (nI ((((qK (s9)))))), .int (nI ((((qV (s9)))))), .ref rd, .int (nI ((((((qR (s9)).length) + 1))))), .ref tx, .int (nI tL), .int (nI pl)])), (al, .inl (cI, 44, .inl (fun j => nI ((allF g n e p b) j)))), (ct, .inl (cI, 9, .inl (fun j => nI ((lrF p b ((qF (s9))) (((qT (s9)))) (lwS s9)) j)))), (gv, .inl (cI, 1400, .inl (fun j => nI (fg j)))), (rd, .inl (cI, 40, .inl (fun j => nI ((va_up frd2 ((qR (s9)).length) (lwS s9)) j))))]) [2, 3, 4, 0, 1] rfl (by decide) ?_
                  refine V_ws (ws2 := [(m9, .inr (9, [.ref al, .ref hs, .int (nI hL), .ref ct, .int (nI (qT (rStep p b β s9))), .int (nI (qH (rStep p b β s9))), .int (nI (qL (rStep p b β s9))), .int (nI (qU (rStep p b β s9))), .int (nI wt), .ref bt, .int (nI bL), .ref cs, .ref gv, .int (nI gL), .int (nI (qK (rStep p b β s9))), .int (nI (qV (rStep p b β s9))), .ref rd, .int (nI ((qR (rStep p b β s9)).length)), .ref tx, .int (nI tL), .int (nI pl)])), (al, .inl (cI, 44, .inl (fun j => nI ((allF g n e p b) j)))), (ct, .inl (cI, 9, .inl (fun j => nI ((qF (rStep p b β s9)) j)))), (gv, .inl (cI, 1400, .inl (fun j => nI (fg j)))), (rd, .inl (cI, 40, .inl (fun j => nI ((va_up frd2 ((qR (s9)).length) (lwS s9)) j))))]) (by rw [hq1, hq2, hq3, hq4, hq5]; rfl) ?_
                  refine V_aload_n hC dX9_reads_129 rfl 0 rfl ?_
                  refine V_calliV (As := []) (rest := []) (wr := [(al, .inl (cI, 44, .inl (fun j => nI ((allF g n e p b) j)))), (gv, .inl (cI, 1400, .inl (fun j => nI (fg j)))), (rd, .inl (cI, 40, .inl (fun j => nI ((va_up frd2 ((qR (s9)).length) (lwS s9)) j))))]) hC (c_X9_letterAt l D cI cQ m9 al hs hL ct (qT (rStep p b β s9)) (qH (rStep p b β s9)) (qL (rStep p b β s9)) (qU (rStep p b β s9)) wt bt bL cs gv gL (qK (rStep p b β s9)) (qV (rStep p b β s9)) rd ((qR (rStep p b β s9)).length) tx tL pl (qF (rStep p b β s9)) (hRs.1) (⟨hRs.2.1, hRs.2.2.1, hRs.2.2.2.1⟩)) mok_X9_letterAt ml_X9_157 (q1 := 0) rfl cls_X9 rfl rfl rfl (by decide) (by decide) (by decide) (Nat.le_of_ble_eq_true rfl) [0, 2] [1, 3, 4] rfl (by decide) rfl (by decide) (by decide) dX9_reads_130 rfl (fun r9 u9 h130 => ?_)
                  obtain ⟨rfl, h130⟩ := h130
                  clear h130
                  refine V_perm (ws2 := [(m9, .inr (9, [.ref al, .ref hs, .int (nI hL), .ref ct, .int (nI ((qT (rStep p b β s9)))), .int (nI ((qH (rStep p b β s9)))), .int (nI ((qL (rStep p b β s9)))), .int (nI ((qU (rStep p b β s9)))), .int (nI wt), .ref bt, .int (nI bL), .ref cs, .ref gv, .int (nI gL), .int (nI ((qK (rStep p b β s9)))), .int (nI ((qV (rStep p b β s9)))), .ref rd, .int (nI (((qR (rStep p b β s9)).length))), .ref tx, .int (nI tL), .int (nI pl)])), (al, .inl (cI, 44, .inl (fun j => nI ((allF g n e p b) j)))), (ct, .inl (cI, 9, .inl (fun j => nI (((qF (rStep p b β s9))) j)))), (gv, .inl (cI, 1400, .inl (fun j => nI (fg j)))), (rd, .inl (cI, 40, .inl (fun j => nI ((va_up frd2 ((qR (s9)).length) (lwS s9)) j))))]) [3, 0, 4, 1, 2] rfl (by decide) ?_
                  refine V_st (st2 := [.int (nI (lwS (rStep p b β s9)))]) (by rw [show (lwX (qF (rStep p b β s9)) (qT (rStep p b β s9)) (qL (rStep p b β s9)) (qU (rStep p b β s9)) (qV (rStep p b β s9))) = (lwS (rStep p b β s9)) from rfl]) ?_
                  refine V_istore_n (lv2 := [(0, .ref m9), (1, .int (nI (lwS (rStep p b β s9)))), (2, .int (-1))]) hC dX9_reads_133 rfl (by decide) [1, 0, 2] rfl ?_
                  refine V_goto (tgt := 42) hC dX9_reads_134 (by decide) ?_
                  refine V_pick (lv2 := [(0, .ref m9), (1, .int (nI (lwS (rStep p b β s9))))]) [0, 1] rfl ?_
                  exact ih42 (rStep p b β s9) (va_up frd2 ((qR (s9)).length) (lwS s9)) (by rw [← h3, hq5, show 41 - (qR s9).length = (41 - ((qR s9).length + 1)) + 1 by omega, rdd_go c45 (by omega)]) (hRs) (rep_push h5 rfl) (by rw [hq5]; omega)
                · refine V_calliV (As := []) (rest := []) (wr := [(al, .inl (cI, 44, .inl (fun j => nI ((allF g n e p b) j)))), (ct, .inl (cI, 9, .inl (fun j => nI (((qF (s9))) j)))), (gv, .inl (cI, 1400, .inl (fun j => nI (fg j)))), (rd, .inl (cI, 40, .inl (fun j => nI ((va_up frd2 ((qR (s9)).length) (lwS s9)) j))))]) hC (c_X9_takenOff_go l D cI cQ m9 al hs hL ct ((qT (s9))) ((qH (s9))) (shL (qF (s9)) (qT (s9)) (lwS s9) (qL (s9)) (qU (s9))) (shU (qF (s9)) (qT (s9)) (lwS s9) (qL (s9)) (qU (s9))) wt bt bL cs gv gL ((qK (s9))) ((qV (s9))) rd ((((qR (s9)).length) + 1)) tx tL pl (by omega) (hw1)) mok_X9_takenOff ml_X9_66 (q1 := 0) rfl cls_X9 rfl rfl rfl (by decide) (by decide) (by decide) (Nat.le_of_ble_eq_true rfl) [0] [1, 2, 3, 4] rfl (by decide) rfl (by decide) (by decide) dX9_reads_83 rfl (fun r9 u9 h83 => ?_)
                  obtain ⟨rfl, h83⟩ := h83
                  clear h83
                  refine V_perm (ws2 := [(m9, .inr (9, [.ref al, .ref hs, .int (nI hL), .ref ct, .int (nI (((qT (s9))))), .int (nI (((qH (s9))))), .int (nI ((shL (qF (s9)) (qT (s9)) (lwS s9) (qL (s9)) (qU (s9))))), .int (nI ((shU (qF (s9)) (qT (s9)) (lwS s9) (qL (s9)) (qU (s9))))), .int (nI wt), .ref bt, .int (nI bL), .ref cs, .ref gv, .int (nI gL), .int (nI (((qK (s9))))), .int (nI (((qV (s9))))), .ref rd, .int (nI (((((qR (s9)).length) + 1)))), .ref tx, .int (nI tL), .int (nI pl)])), (al, .inl (cI, 44, .inl (fun j => nI ((allF g n e p b) j)))), (ct, .inl (cI, 9, .inl (fun j => nI (((qF (s9))) j)))), (gv, .inl (cI, 1400, .inl (fun j => nI (fg j)))), (rd, .inl (cI, 40, .inl (fun j => nI ((va_up frd2 ((qR (s9)).length) (lwS s9)) j))))]) [4, 0, 1, 2, 3] rfl (by decide) ?_
                  refine V_istore_n (lv2 := [(0, .ref m9), (1, .int (nI (lwS s9))), (2, .int (nI (wO (shL (qF (s9)) (qT (s9)) (lwS s9) (qL (s9)) (qU (s9))) (shU (qF (s9)) (qT (s9)) (lwS s9) (qL (s9)) (qU (s9))))))]) hC dX9_reads_86 rfl (by decide) [1, 2, 0] rfl ?_
                  have L87 : ∀ (n9 : Nat) (j : Nat) (lo2 : Nat) (hi2 : Nat) (v2 : Nat) (tk2 : Nat), (lo2 ≤ v2 ∧ v2 ≤ hi2 ∧ hi2 ≤ 65535) → (nv β (16 - j) lo2 hi2 v2 tk2 = nvS β s9 (lwS s9)) → (tk2 ≤ 100000 + j) → (2 ^ j ≤ hi2 - lo2 + 1) → (wO lo2 hi2 ≠ 1) → 16 - j < n9 → V pp9 l ee9 rm_X9_reads ss9 mm9 args9 below9 meth9 co9 D A9 ss9.heap 3 Q9 [(m9, .inr (9, [.ref al, .ref hs, .int (nI hL), .ref ct, .int (nI (qT s9)), .int (nI (qH s9)), .int (nI lo2), .int (nI hi2), .int (nI wt), .ref bt, .int (nI bL), .ref cs, .ref gv, .int (nI gL), .int (nI tk2), .int (nI v2), .ref rd, .int (nI ((qR s9).length + 1)), .ref tx, .int (nI tL), .int (nI pl)])), (al, .inl (cI, 44, .inl (fun j => nI ((allF g n e p b) j)))), (ct, .inl (cI, 9, .inl (fun j => nI ((qF s9) j)))), (gv, .inl (cI, 1400, .inl (fun j => nI (fg j)))), (rd, .inl (cI, 40, .inl (fun j => nI ((va_up frd2 (qR s9).length (lwS s9)) j))))] [(0, .ref m9), (1, .int (nI (lwS s9))), (2, .int (nI (wO lo2 hi2)))] 0 0 87 [] := by
                    intro n9
                    induction n9 with
                    | zero => intro j lo2 hi2 v2 tk2 h2 h3i h4 hRj hw1 h9; exact absurd h9 (Nat.not_lt_zero _)
                    | succ n9 ih87 =>
                      intro j lo2 hi2 v2 tk2 h2 h3i h4 hRj hw1 h9
                      have hwc := wO_cases lo2 hi2
                      have hj16 := wO_lt (⟨by omega, by omega⟩ : lo2 ≤ hi2 ∧ hi2 ≤ 65535) hRj hw1
                      have hbt := hβ2 tk2
                      refine V_iload_n hC dX9_reads_87 rfl 2 rfl ?_
                      refine V_if_lt_F (tgt := 118) hC dX9_reads_88 (by decide) (nI_pos (by omega)) ?_
                      refine V_aload_n hC dX9_reads_91 rfl 0 rfl ?_
                      refine V_dup hC dX9_reads_92 rfl ?_
                      refine V_get (ci := 9) (v := .int (nI v2)) hC in_X9 0 rfl cls_X9 15 (by decide) fl_X9_142 rfl dX9_reads_93 ?_
                      refine V_iload_n hC dX9_reads_96 rfl 2 rfl ?_
                      refine V_isub hC dX9_reads_97 (by omega) ?_
                      refine V_put (ci := 9) (v := .int (nI (v2 - (wO lo2 hi2)))) hC tyX9 tyX9_ok nmX9 in_X9 0 rfl cls_X9 15 (by decide) fl_X9_142 rfl rfl rfl (Nat.le_of_ble_eq_true rfl) dX9_reads_98 (ws2 := [(m9, .inr (9, [.ref al, .ref hs, .int (nI hL), .ref ct, .int (nI (qT s9)), .int (nI (qH s9)), .int (nI lo2), .int (nI hi2), .int (nI wt), .ref bt, .int (nI bL), .ref cs, .ref gv, .int (nI gL), .int (nI tk2), .int (nI (v2 - (wO lo2 hi2))), .ref rd, .int (nI ((qR s9).length + 1)), .ref tx, .int (nI tL), .int (nI pl)])), (al, .inl (cI, 44, .inl (fun j => nI ((allF g n e p b) j)))), (ct, .inl (cI, 9, .inl (fun j => nI ((qF s9) j)))), (gv, .inl (cI, 1400, .inl (fun j => nI (fg j)))), (rd, .inl (cI, 40, .inl (fun j => nI ((va_up frd2 (qR s9).length (lwS s9)) j))))]) rfl ?_
                      refine V_aload_n hC dX9_reads_101 rfl 0 rfl ?_
                      refine V_callvV (As := []) (rest := []) (wr := [(al, .inl (cI, 44, .inl (fun j => nI ((allF g n e p b) j)))), (ct, .inl (cI, 9, .inl (fun j => nI ((qF s9) j)))), (rd, .inl (cI, 40, .inl (fun j => nI ((va_up frd2 (qR s9).length (lwS s9)) j))))]) hC (c_X9_takes l D cI cQ m9 al hs hL ct (qT s9) (qH s9) lo2 hi2 wt bt bL cs gv gL tk2 (v2 - (wO lo2 hi2)) rd ((qR s9).length + 1) tx tL pl fg β (by omega) (hβ) (by omega)) mok_X9_takes ml_X9_154 (q1 := 0) rfl cls_X9 rfl rfl rfl (by decide) (by decide) (by decide) (Nat.le_of_ble_eq_true rfl) [0, 3] [1, 2, 4] rfl (by decide) rfl (by decide) (by decide) dX9_reads_102 rfl (fun u9 h102 => ?_)
                      clear h102
                      refine V_perm (ws2 := [(m9, .inr (9, [.ref al, .ref hs, .int (nI hL), .ref ct, .int (nI ((qT s9))), .int (nI ((qH s9))), .int (nI lo2), .int (nI hi2), .int (nI wt), .ref bt, .int (nI bL), .ref cs, .ref gv, .int (nI gL), .int (nI (tk2 + 1)), .int (nI ((v2 - (wO lo2 hi2)) * 2 + β tk2)), .ref rd, .int (nI (((qR s9).length + 1))), .ref tx, .int (nI tL), .int (nI pl)])), (al, .inl (cI, 44, .inl (fun j => nI ((allF g n e p b) j)))), (ct, .inl (cI, 9, .inl (fun j => nI ((qF s9) j)))), (gv, .inl (cI, 1400, .inl (fun j => nI (fg j)))), (rd, .inl (cI, 40, .inl (fun j => nI ((va_up frd2 (qR s9).length (lwS s9)) j))))]) [3, 0, 1, 4, 2] rfl (by decide) ?_
                      refine V_aload_n hC dX9_reads_105 rfl 0 rfl ?_
                      refine V_iload_n hC dX9_reads_106 rfl 2 rfl ?_
                      refine V_callvV (As := [.int (nI (wO lo2 hi2))]) (rest := []) (wr := [(al, .inl (cI, 44, .inl (fun j => nI ((allF g n e p b) j)))), (ct, .inl (cI, 9, .inl (fun j => nI ((qF s9) j)))), (gv, .inl (cI, 1400, .inl (fun j => nI (fg j)))), (rd, .inl (cI, 40, .inl (fun j => nI ((va_up frd2 (qR s9).length (lwS s9)) j))))]) hC (c_X9_doubles l D cI cQ m9 al hs hL ct ((qT s9)) ((qH s9)) lo2 hi2 wt bt bL cs gv gL (tk2 + 1) ((v2 - (wO lo2 hi2)) * 2 + β tk2) rd (((qR s9).length + 1)) tx tL pl (wO lo2 hi2) (by omega)) mok_X9_doubles ml_X9_73 (q1 := 0) rfl cls_X9 rfl rfl rfl (by decide) (by decide) (by decide) (Nat.le_of_ble_eq_true rfl) [0] [1, 2, 3, 4] rfl (by decide) rfl (by decide) (by decide) dX9_reads_107 rfl (fun u9 h107 => ?_)
                      clear h107
                      refine V_perm (ws2 := [(m9, .inr (9, [.ref al, .ref hs, .int (nI hL), .ref ct, .int (nI (((qT s9)))), .int (nI (((qH s9)))), .int (nI ((lo2 - (wO lo2 hi2)) * 2)), .int (nI ((hi2 - (wO lo2 hi2)) * 2 + 1)), .int (nI wt), .ref bt, .int (nI bL), .ref cs, .ref gv, .int (nI gL), .int (nI ((tk2 + 1))), .int (nI (((v2 - (wO lo2 hi2)) * 2 + β tk2))), .ref rd, .int (nI ((((qR s9).length + 1)))), .ref tx, .int (nI tL), .int (nI pl)])), (al, .inl (cI, 44, .inl (fun j => nI ((allF g n e p b) j)))), (ct, .inl (cI, 9, .inl (fun j => nI ((qF s9) j)))), (gv, .inl (cI, 1400, .inl (fun j => nI (fg j)))), (rd, .inl (cI, 40, .inl (fun j => nI ((va_up frd2 (qR s9).length (lwS s9)) j))))]) [4, 0, 1, 2, 3] rfl (by decide) ?_
                      refine V_aload_n hC dX9_reads_110 rfl 0 rfl ?_
                      by_cases hw2 : wO ((lo2 - wO lo2 hi2) * 2) ((hi2 - wO lo2 hi2) * 2 + 1) = 1
                      · refine V_calliV (As := []) (rest := []) (wr := [(al, .inl (cI, 44, .inl (fun j => nI ((allF g n e p b) j)))), (ct, .inl (cI, 9, .inl (fun j => nI ((qF s9) j)))), (gv, .inl (cI, 1400, .inl (fun j => nI (fg j)))), (rd, .inl (cI, 40, .inl (fun j => nI ((va_up frd2 (qR s9).length (lwS s9)) j))))]) hC (c_X9_takenOff_stop l D cI cQ m9 al hs hL ct (((qT s9))) (((qH s9))) ((lo2 - (wO lo2 hi2)) * 2) ((hi2 - (wO lo2 hi2)) * 2 + 1) wt bt bL cs gv gL ((tk2 + 1)) (((v2 - (wO lo2 hi2)) * 2 + β tk2)) rd ((((qR s9).length + 1))) tx tL pl (by omega) (hw2)) mok_X9_takenOff ml_X9_66 (q1 := 0) rfl cls_X9 rfl rfl rfl (by decide) (by decide) (by decide) (Nat.le_of_ble_eq_true rfl) [0] [1, 2, 3, 4] rfl (by decide) rfl (by decide) (by decide) dX9_reads_111 rfl (fun r9 u9 h111 => ?_)
                        obtain ⟨rfl, h111⟩ := h111
                        clear h111
                        refine V_perm (ws2 := [(m9, .inr (9, [.ref al, .ref hs, .int (nI hL), .ref ct, .int (nI ((((qT s9))))), .int (nI ((((qH s9))))), .int (nI (((lo2 - (wO lo2 hi2)) * 2))), .int (nI (((hi2 - (wO lo2 hi2)) * 2 + 1))), .int (nI wt), .ref bt, .int (nI bL), .ref cs, .ref gv, .int (nI gL), .int (nI (((tk2 + 1)))), .int (nI ((((v2 - (wO lo2 hi2)) * 2 + β tk2)))), .ref rd, .int (nI (((((qR s9).length + 1))))), .ref tx, .int (nI tL), .int (nI pl)])), (al, .inl (cI, 44, .inl (fun j => nI ((allF g n e p b) j)))), (ct, .inl (cI, 9, .inl (fun j => nI ((qF s9) j)))), (gv, .inl (cI, 1400, .inl (fun j => nI (fg j)))), (rd, .inl (cI, 40, .inl (fun j => nI ((va_up frd2 (qR s9).length (lwS s9)) j))))]) [4, 0, 1, 2, 3] rfl (by decide) ?_
                        refine V_istore_n (lv2 := [(0, .ref m9), (1, .int (nI (lwS s9))), (2, .int (-1))]) hC dX9_reads_114 rfl (by decide) [1, 2, 0] rfl ?_
                        refine V_goto (tgt := 87) hC dX9_reads_115 (by decide) ?_
                        refine V_iload_n hC dX9_reads_87 rfl 2 rfl ?_
                        refine V_if_lt_T (tgt := 118) hC dX9_reads_88 (by decide) (Int32.lt_iff_toInt_lt.mpr (by decide)) ?_
                        have hnv : nvS β s9 (lwS s9) = (((lo2 - (wO lo2 hi2)) * 2), ((hi2 - (wO lo2 hi2)) * 2 + 1), (((v2 - (wO lo2 hi2)) * 2 + β tk2)), ((tk2 + 1))) := by rw [← h3i, show 16 - j = (16 - (j + 1)) + 1 by omega, nv_go hw1, nv_stop hw2]
                        have hq1 : qL (rStep p b β s9) = ((lo2 - (wO lo2 hi2)) * 2) := by show (nvS β s9 (lwS s9)).1 = _; rw [hnv]
                        have hq2 : qU (rStep p b β s9) = ((hi2 - (wO lo2 hi2)) * 2 + 1) := by show (nvS β s9 (lwS s9)).2.1 = _; rw [hnv]
                        have hq3 : qV (rStep p b β s9) = (((v2 - (wO lo2 hi2)) * 2 + β tk2)) := by show (nvS β s9 (lwS s9)).2.2.1 = _; rw [hnv]
                        have hq4 : qK (rStep p b β s9) = ((tk2 + 1)) := by show (nvS β s9 (lwS s9)).2.2.2 = _; rw [hnv]
                        have hq5 : (qR (rStep p b β s9)).length = (qR s9).length + 1 := by show (qR s9 ++ [lwS s9]).length = _; rw [List.length_append, List.length_singleton]
                        have hRs := hR.step hβ2 hp hb (show (qR s9).length < 40 by omega)
                        refine V_aload_n hC dX9_reads_118 rfl 0 rfl ?_
                        refine V_iload_n hC dX9_reads_119 rfl 1 rfl ?_
                        refine V_aload_n hC dX9_reads_120 rfl 0 rfl ?_
                        refine V_get (ci := 9) (v := .ref al) hC in_X9 0 rfl cls_X9 0 (by decide) fl_X9_7 rfl dX9_reads_121 ?_
                        refine V_iconst (v := nI 0) hC dX9_reads_124 (by decide) ?_
                        refine V_iald hC 1 0 rfl rfl (by omega) (by decide) dX9_reads_125 ?_
                        refine V_st (st2 := [.int (nI p), .int (nI (lwS s9)), .ref m9]) (by rw [show ((allF g n e p b) 0) = (p) from rfl]) ?_
                        refine V_callvV (As := [.int (nI (lwS s9)), .int (nI p)]) (rest := []) (wr := [(gv, .inl (cI, 1400, .inl (fun j => nI (fg j)))), (rd, .inl (cI, 40, .inl (fun j => nI ((va_up frd2 (qR s9).length (lwS s9)) j))))]) hC (c_X9_learns l D cI cQ m9 al hs hL ct ((((qT s9)))) ((((qH s9)))) (((lo2 - (wO lo2 hi2)) * 2)) (((hi2 - (wO lo2 hi2)) * 2 + 1)) wt bt bL cs gv gL (((tk2 + 1))) ((((v2 - (wO lo2 hi2)) * 2 + β tk2))) rd (((((qR s9).length + 1)))) tx tL pl n e p b (lwS s9) p g (qF s9) (hlw.1) (hR.1) (hp) (hb)) mok_X9_learns ml_X9_86 (q1 := 0) rfl cls_X9 rfl rfl rfl (by decide) (by decide) (by decide) (Nat.le_of_ble_eq_true rfl) [0, 1, 2] [3, 4] rfl (by decide) rfl (by decide) (by decide) dX9_reads_126 rfl (fun u9 h126 => ?_)
                        clear h126
                        refine V_perm (ws2 := [(m9, .inr (9, [.ref al, .ref hs, .int (nI hL), .ref ct, .int (nI (lrT p b (qF s9) ((((qT s9)))) (lwS s9))), .int (nI (lrH p b ((((qT s9)))) ((((qH s9)))))), .int (nI ((((lo2 - (wO lo2 hi2)) * 2)))), .int (nI ((((hi2 - (wO lo2 hi2)) * 2 + 1)))), .int (nI wt), .ref bt, .int (nI bL), .ref cs, .ref gv, .int (nI gL), .int (nI ((((tk2 + 1))))), .int (nI (((((v2 - (wO lo2 hi2)) * 2 + β tk2))))), .ref rd, .int (nI ((((((qR s9).length + 1)))))), .ref tx, .int (nI tL), .int (nI pl)])), (al, .inl (cI, 44, .inl (fun j => nI ((allF g n e p b) j)))), (ct, .inl (cI, 9, .inl (fun j => nI ((lrF p b (qF s9) ((((qT s9)))) (lwS s9)) j)))), (gv, .inl (cI, 1400, .inl (fun j => nI (fg j)))), (rd, .inl (cI, 40, .inl (fun j => nI ((va_up frd2 (qR s9).length (lwS s9)) j))))]) [2, 3, 4, 0, 1] rfl (by decide) ?_
                        refine V_ws (ws2 := [(m9, .inr (9, [.ref al, .ref hs, .int (nI hL), .ref ct, .int (nI (qT (rStep p b β s9))), .int (nI (qH (rStep p b β s9))), .int (nI (qL (rStep p b β s9))), .int (nI (qU (rStep p b β s9))), .int (nI wt), .ref bt, .int (nI bL), .ref cs, .ref gv, .int (nI gL), .int (nI (qK (rStep p b β s9))), .int (nI (qV (rStep p b β s9))), .ref rd, .int (nI ((qR (rStep p b β s9)).length)), .ref tx, .int (nI tL), .int (nI pl)])), (al, .inl (cI, 44, .inl (fun j => nI ((allF g n e p b) j)))), (ct, .inl (cI, 9, .inl (fun j => nI ((qF (rStep p b β s9)) j)))), (gv, .inl (cI, 1400, .inl (fun j => nI (fg j)))), (rd, .inl (cI, 40, .inl (fun j => nI ((va_up frd2 (qR s9).length (lwS s9)) j))))]) (by rw [hq1, hq2, hq3, hq4, hq5]; rfl) ?_
                        refine V_aload_n hC dX9_reads_129 rfl 0 rfl ?_
                        refine V_calliV (As := []) (rest := []) (wr := [(al, .inl (cI, 44, .inl (fun j => nI ((allF g n e p b) j)))), (gv, .inl (cI, 1400, .inl (fun j => nI (fg j)))), (rd, .inl (cI, 40, .inl (fun j => nI ((va_up frd2 (qR s9).length (lwS s9)) j))))]) hC (c_X9_letterAt l D cI cQ m9 al hs hL ct (qT (rStep p b β s9)) (qH (rStep p b β s9)) (qL (rStep p b β s9)) (qU (rStep p b β s9)) wt bt bL cs gv gL (qK (rStep p b β s9)) (qV (rStep p b β s9)) rd ((qR (rStep p b β s9)).length) tx tL pl (qF (rStep p b β s9)) (hRs.1) (⟨hRs.2.1, hRs.2.2.1, hRs.2.2.2.1⟩)) mok_X9_letterAt ml_X9_157 (q1 := 0) rfl cls_X9 rfl rfl rfl (by decide) (by decide) (by decide) (Nat.le_of_ble_eq_true rfl) [0, 2] [1, 3, 4] rfl (by decide) rfl (by decide) (by decide) dX9_reads_130 rfl (fun r9 u9 h130 => ?_)
                        obtain ⟨rfl, h130⟩ := h130
                        clear h130
                        refine V_perm (ws2 := [(m9, .inr (9, [.ref al, .ref hs, .int (nI hL), .ref ct, .int (nI ((qT (rStep p b β s9)))), .int (nI ((qH (rStep p b β s9)))), .int (nI ((qL (rStep p b β s9)))), .int (nI ((qU (rStep p b β s9)))), .int (nI wt), .ref bt, .int (nI bL), .ref cs, .ref gv, .int (nI gL), .int (nI ((qK (rStep p b β s9)))), .int (nI ((qV (rStep p b β s9)))), .ref rd, .int (nI (((qR (rStep p b β s9)).length))), .ref tx, .int (nI tL), .int (nI pl)])), (al, .inl (cI, 44, .inl (fun j => nI ((allF g n e p b) j)))), (ct, .inl (cI, 9, .inl (fun j => nI (((qF (rStep p b β s9))) j)))), (gv, .inl (cI, 1400, .inl (fun j => nI (fg j)))), (rd, .inl (cI, 40, .inl (fun j => nI ((va_up frd2 (qR s9).length (lwS s9)) j))))]) [3, 0, 4, 1, 2] rfl (by decide) ?_
                        refine V_st (st2 := [.int (nI (lwS (rStep p b β s9)))]) (by rw [show (lwX (qF (rStep p b β s9)) (qT (rStep p b β s9)) (qL (rStep p b β s9)) (qU (rStep p b β s9)) (qV (rStep p b β s9))) = (lwS (rStep p b β s9)) from rfl]) ?_
                        refine V_istore_n (lv2 := [(0, .ref m9), (1, .int (nI (lwS (rStep p b β s9)))), (2, .int (-1))]) hC dX9_reads_133 rfl (by decide) [1, 0, 2] rfl ?_
                        refine V_goto (tgt := 42) hC dX9_reads_134 (by decide) ?_
                        refine V_pick (lv2 := [(0, .ref m9), (1, .int (nI (lwS (rStep p b β s9))))]) [0, 1] rfl ?_
                        exact ih42 (rStep p b β s9) (va_up frd2 (qR s9).length (lwS s9)) (by rw [← h3, hq5, show 41 - (qR s9).length = (41 - ((qR s9).length + 1)) + 1 by omega, rdd_go c45 (by omega)]) (hRs) (rep_push h5 rfl) (by rw [hq5]; omega)
                      · refine V_calliV (As := []) (rest := []) (wr := [(al, .inl (cI, 44, .inl (fun j => nI ((allF g n e p b) j)))), (ct, .inl (cI, 9, .inl (fun j => nI ((qF s9) j)))), (gv, .inl (cI, 1400, .inl (fun j => nI (fg j)))), (rd, .inl (cI, 40, .inl (fun j => nI ((va_up frd2 (qR s9).length (lwS s9)) j))))]) hC (c_X9_takenOff_go l D cI cQ m9 al hs hL ct (((qT s9))) (((qH s9))) ((lo2 - (wO lo2 hi2)) * 2) ((hi2 - (wO lo2 hi2)) * 2 + 1) wt bt bL cs gv gL ((tk2 + 1)) (((v2 - (wO lo2 hi2)) * 2 + β tk2)) rd ((((qR s9).length + 1))) tx tL pl (by omega) (hw2)) mok_X9_takenOff ml_X9_66 (q1 := 0) rfl cls_X9 rfl rfl rfl (by decide) (by decide) (by decide) (Nat.le_of_ble_eq_true rfl) [0] [1, 2, 3, 4] rfl (by decide) rfl (by decide) (by decide) dX9_reads_111 rfl (fun r9 u9 h111 => ?_)
                        obtain ⟨rfl, h111⟩ := h111
                        clear h111
                        refine V_perm (ws2 := [(m9, .inr (9, [.ref al, .ref hs, .int (nI hL), .ref ct, .int (nI ((((qT s9))))), .int (nI ((((qH s9))))), .int (nI (((lo2 - (wO lo2 hi2)) * 2))), .int (nI (((hi2 - (wO lo2 hi2)) * 2 + 1))), .int (nI wt), .ref bt, .int (nI bL), .ref cs, .ref gv, .int (nI gL), .int (nI (((tk2 + 1)))), .int (nI ((((v2 - (wO lo2 hi2)) * 2 + β tk2)))), .ref rd, .int (nI (((((qR s9).length + 1))))), .ref tx, .int (nI tL), .int (nI pl)])), (al, .inl (cI, 44, .inl (fun j => nI ((allF g n e p b) j)))), (ct, .inl (cI, 9, .inl (fun j => nI ((qF s9) j)))), (gv, .inl (cI, 1400, .inl (fun j => nI (fg j)))), (rd, .inl (cI, 40, .inl (fun j => nI ((va_up frd2 (qR s9).length (lwS s9)) j))))]) [4, 0, 1, 2, 3] rfl (by decide) ?_
                        refine V_istore_n (lv2 := [(0, .ref m9), (1, .int (nI (lwS s9))), (2, .int (nI (wO ((lo2 - (wO lo2 hi2)) * 2) ((hi2 - (wO lo2 hi2)) * 2 + 1))))]) hC dX9_reads_114 rfl (by decide) [1, 2, 0] rfl ?_
                        refine V_goto (tgt := 87) hC dX9_reads_115 (by decide) ?_
                        exact ih87 (j + 1) (((lo2 - (wO lo2 hi2)) * 2)) (((hi2 - (wO lo2 hi2)) * 2 + 1)) ((((v2 - (wO lo2 hi2)) * 2 + β tk2))) (((tk2 + 1))) (by omega) (by rw [← h3i, show 16 - j = (16 - (j + 1)) + 1 by omega, nv_go hw1]) (by omega) (dbl2 (show lo2 ≤ hi2 by omega) (wO_le hw1) hRj) (hw2) (by omega)
                  exact L87 _ 0 ((shL (qF (s9)) (qT (s9)) (lwS s9) (qL (s9)) (qU (s9)))) ((shU (qF (s9)) (qT (s9)) (lwS s9) (qL (s9)) (qU (s9)))) (((qV (s9)))) (((qK (s9)))) (by omega) (rfl) (by omega) (Nat.le_add_left _ _) (hw1) (Nat.lt_succ_self _)
        exact L42 _ (rd0 β) frd (rfl) (okR_0 hβ2) (rep_nil _) (Nat.lt_succ_self _)
      · refine V_aload_n hC dX9_reads_27 rfl 0 rfl ?_
        refine V_callvV (As := []) (rest := []) (wr := [(al, .inl (cI, 44, .inl (fun j => nI ((allF g n e p b) j)))), (ct, .inl (cI, 9, .inl (fun j => nI (one j)))), (rd, .inl (cI, 40, .inl (fun j => nI (frd j))))]) hC (c_X9_takes l D cI cQ m9 al hs hL ct 9 0 0 65535 wt bt bL cs gv gL i (v16 β i) rd 0 tx tL pl fg β (by omega) (hβ) (by omega)) mok_X9_takes ml_X9_154 (q1 := 0) rfl cls_X9 rfl rfl rfl (by decide) (by decide) (by decide) (Nat.le_of_ble_eq_true rfl) [0, 3] [1, 2, 4] rfl (by decide) rfl (by decide) (by decide) dX9_reads_28 rfl (fun u9 h28 => ?_)
        clear h28
        refine V_perm (ws2 := [(m9, .inr (9, [.ref al, .ref hs, .int (nI hL), .ref ct, .int (nI 9), .int (nI 0), .int (nI 0), .int (nI 65535), .int (nI wt), .ref bt, .int (nI bL), .ref cs, .ref gv, .int (nI gL), .int (nI (i + 1)), .int (nI ((v16 β i) * 2 + β i)), .ref rd, .int (nI 0), .ref tx, .int (nI tL), .int (nI pl)])), (al, .inl (cI, 44, .inl (fun j => nI ((allF g n e p b) j)))), (ct, .inl (cI, 9, .inl (fun j => nI (one j)))), (gv, .inl (cI, 1400, .inl (fun j => nI (fg j)))), (rd, .inl (cI, 40, .inl (fun j => nI (frd j))))]) [3, 0, 1, 4, 2] rfl (by decide) ?_
        refine V_iinc (v := (nI (i + 1))) (lv2 := [(0, .ref m9), (1, .int (nI (i + 1)))]) (q := 1) hC dX9_reads_31 rfl (nI_add _ _) (by decide) [1, 0] rfl ?_
        refine V_goto (tgt := 21) hC dX9_reads_34 (by decide) ?_
        exact ih21 (i + 1) (by omega) (by omega)
  exact L21 _ 0 (by omega) (Nat.lt_succ_self _)
abbrev rm_X9_reason_1 : Room := { frames := 1, cells := 0, slots := 0, locals := 25 }
set_option maxHeartbeats 4000000 in
set_option maxRecDepth 100000 in
theorem c_X9_reason_1 (l : Launch) (D : va_G) (cI cQ : ClassId) (m9 al hs hL ct tt hv lo hi wt bt bL cs gv gL tk vv rd rM tx tL pl n e p b : Nat) (g f fg frd ft : Nat → Nat) (T : List Nat) (hT : rep ft T) (hT1 : T.length ≤ 120) (hT2 : ∀ j, j < T.length → T.getD j 0 < 1000) (hx : stT T < T.length) : MI l yX9_reason cX9_reason 1 (some .int) rm_X9_reason_1 D (TY cI cQ) [.ref m9] [(m9, .inr (9, [.ref al, .ref hs, .int (nI hL), .ref ct, .int (nI tt), .int (nI hv), .int (nI lo), .int (nI hi), .int (nI wt), .ref bt, .int (nI bL), .ref cs, .ref gv, .int (nI gL), .int (nI tk), .int (nI vv), .ref rd, .int (nI rM), .ref tx, .int (nI (T.length)), .int (nI pl)])), (al, .inl (cI, 44, .inl (fun j => nI ((allF g n e p b) j)))), (ct, .inl (cI, 9, .inl (fun j => nI (f j)))), (gv, .inl (cI, 1400, .inl (fun j => nI (fg j)))), (rd, .inl (cI, 40, .inl (fun j => nI (frd j)))), (tx, .inl (cI, 120, .inl (fun j => nI (ft j))))] (fun (r9 : Int32) (u : (Nat → Nat)) => r9 = (nI 1) ∧ (True)) (fun (u : (Nat → Nat)) => [(m9, .inr (9, [.ref al, .ref hs, .int (nI hL), .ref ct, .int (nI tt), .int (nI hv), .int (nI lo), .int (nI hi), .int (nI wt), .ref bt, .int (nI bL), .ref cs, .ref gv, .int (nI gL), .int (nI tk), .int (nI vv), .ref rd, .int (nI rM), .ref tx, .int (nI (T.length)), .int (nI (stT T))])), (al, .inl (cI, 44, .inl (fun j => nI ((allF g n e p b) j)))), (ct, .inl (cI, 9, .inl (fun j => nI (f j)))), (gv, .inl (cI, 1400, .inl (fun j => nI (u j)))), (rd, .inl (cI, 40, .inl (fun j => nI (frd j)))), (tx, .inl (cI, 120, .inl (fun j => nI (ft j))))]) 0 0 := by
  refine MI.start (by decide) (Nat.le_of_ble_eq_true rfl) (lv0 := [(0, .ref m9)]) rfl ?_
  intro pp9 ee9 ss9 mm9 args9 below9 meth9 co9 A9 Q9 hQ hC hr hlk hnm
  refine V_aload_n hC dX9_reason_0 rfl 0 rfl ?_
  refine V_iconst (v := nI 0) hC dX9_reason_1 (by decide) ?_
  refine V_put (ci := 9) (v := .int (nI 0)) hC tyX9 tyX9_ok nmX9 in_X9 0 rfl cls_X9 20 (by decide) fl_X9_168 rfl rfl rfl (Nat.le_of_ble_eq_true rfl) dX9_reason_2 (ws2 := [(m9, .inr (9, [.ref al, .ref hs, .int (nI hL), .ref ct, .int (nI tt), .int (nI hv), .int (nI lo), .int (nI hi), .int (nI wt), .ref bt, .int (nI bL), .ref cs, .ref gv, .int (nI gL), .int (nI tk), .int (nI vv), .ref rd, .int (nI rM), .ref tx, .int (nI (T.length)), .int (nI 0)])), (al, .inl (cI, 44, .inl (fun j => nI ((allF g n e p b) j)))), (ct, .inl (cI, 9, .inl (fun j => nI (f j)))), (gv, .inl (cI, 1400, .inl (fun j => nI (fg j)))), (rd, .inl (cI, 40, .inl (fun j => nI (frd j)))), (tx, .inl (cI, 120, .inl (fun j => nI (ft j))))]) rfl ?_
  have L5 : ∀ (n9 : Nat) (i : Nat) (fg2 : Nat → Nat), (i ≤ T.length) → (stA (βl T) (T.length - i) i = stT T) → T.length - i < n9 → V pp9 l ee9 rm_X9_reason_1 ss9 mm9 args9 below9 meth9 co9 D A9 ss9.heap 1 Q9 [(m9, .inr (9, [.ref al, .ref hs, .int (nI hL), .ref ct, .int (nI tt), .int (nI hv), .int (nI lo), .int (nI hi), .int (nI wt), .ref bt, .int (nI bL), .ref cs, .ref gv, .int (nI gL), .int (nI tk), .int (nI vv), .ref rd, .int (nI rM), .ref tx, .int (nI (T.length)), .int (nI i)])), (al, .inl (cI, 44, .inl (fun j => nI ((allF g n e p b) j)))), (ct, .inl (cI, 9, .inl (fun j => nI (f j)))), (gv, .inl (cI, 1400, .inl (fun j => nI (fg2 j)))), (rd, .inl (cI, 40, .inl (fun j => nI (frd j)))), (tx, .inl (cI, 120, .inl (fun j => nI (ft j))))] [(0, .ref m9)] 0 0 5 [] := by
    intro n9
    induction n9 with
    | zero => intro i fg2 h1 h2 h9; exact absurd h9 (Nat.not_lt_zero _)
    | succ n9 ih5 =>
      intro i fg2 h1 h2 h9
      refine V_aload_n hC dX9_reason_5 rfl 0 rfl ?_
      refine V_get (ci := 9) (v := .int (nI i)) hC in_X9 0 rfl cls_X9 20 (by decide) fl_X9_168 rfl dX9_reason_6 ?_
      refine V_aload_n hC dX9_reason_9 rfl 0 rfl ?_
      refine V_get (ci := 9) (v := .int (nI (T.length))) hC in_X9 0 rfl cls_X9 19 (by decide) fl_X9_133 rfl dX9_reason_10 ?_
      refine V_icmp_ge (tgt := 74) hC (by omega) (by omega) dX9_reason_13 (by decide) (fun c13 => ?_) (fun c13 => ?_)
      · rw [show i = T.length by omega, Nat.sub_self, stA] at h2
        exact False.elim (by omega)
      · refine V_aload_n hC dX9_reason_16 rfl 0 rfl ?_
        refine V_get (ci := 9) (v := .ref tx) hC in_X9 0 rfl cls_X9 18 (by decide) fl_X9_31 rfl dX9_reason_17 ?_
        refine V_aload_n hC dX9_reason_20 rfl 0 rfl ?_
        refine V_get (ci := 9) (v := .int (nI i)) hC in_X9 0 rfl cls_X9 20 (by decide) fl_X9_168 rfl dX9_reason_21 ?_
        refine V_iald hC 5 0 rfl rfl (by omega) (by decide) dX9_reason_24 ?_
        have hti : ft i = T.getD i 0 := hT i (by omega)
        have htb := hT2 i (by omega)
        refine V_i2l (v := lN (ft i)) hC dX9_reason_25 (nI_l (by omega)) ?_
        refine V_ldc2 (v2 := lN 48) hC dX9_reason_26 cstl_X9_171 rfl ?_
        refine V_ldc2 (v2 := lN 49) hC dX9_reason_29 cstl_X9_173 rfl ?_
        refine V_calliS (As := [.long (lN (ft i)), .long (lN 48), .long (lN 49)]) (rest := []) (wr := [(m9, .inr (9, [.ref al, .ref hs, .int (nI hL), .ref ct, .int (nI tt), .int (nI hv), .int (nI lo), .int (nI hi), .int (nI wt), .ref bt, .int (nI bL), .ref cs, .ref gv, .int (nI gL), .int (nI tk), .int (nI vv), .ref rd, .int (nI rM), .ref tx, .int (nI (T.length)), .int (nI i)])), (al, .inl (cI, 44, .inl (fun j => nI ((allF g n e p b) j)))), (ct, .inl (cI, 9, .inl (fun j => nI (f j)))), (gv, .inl (cI, 1400, .inl (fun j => nI (fg2 j)))), (rd, .inl (cI, 40, .inl (fun j => nI (frd j)))), (tx, .inl (cI, 120, .inl (fun j => nI (ft j))))]) hC (c_X9_in l D cI cQ (ft i) 48 49 (by omega) (by omega) (by omega)) mok_X9_in ml_X9_102 rfl rfl rfl (by decide) (by decide) (by decide) (Nat.le_of_ble_eq_true rfl) [] [0, 1, 2, 3, 4, 5] rfl (by decide) rfl (by decide) (by decide) dX9_reason_32 rfl (fun r9 u9 h32 => ?_)
        obtain ⟨u_1, rfl⟩ : ∃ z, z = u9 := ⟨_, rfl⟩
        obtain ⟨rfl, h32⟩ := h32
        have h32 : (u_1 = 1 ∧ 48 ≤ (ft i) ∧ (ft i) ≤ 49) ∨ (u_1 = 0 ∧ ((ft i) < 48 ∨ 49 < (ft i))) := h32
        refine V_perm (ws2 := [(m9, .inr (9, [.ref al, .ref hs, .int (nI hL), .ref ct, .int (nI tt), .int (nI hv), .int (nI lo), .int (nI hi), .int (nI wt), .ref bt, .int (nI bL), .ref cs, .ref gv, .int (nI gL), .int (nI tk), .int (nI vv), .ref rd, .int (nI rM), .ref tx, .int (nI (T.length)), .int (nI i)])), (al, .inl (cI, 44, .inl (fun j => nI ((allF g n e p b) j)))), (ct, .inl (cI, 9, .inl (fun j => nI (f j)))), (gv, .inl (cI, 1400, .inl (fun j => nI (fg2 j)))), (rd, .inl (cI, 40, .inl (fun j => nI (frd j)))), (tx, .inl (cI, 120, .inl (fun j => nI (ft j))))]) [0, 1, 2, 3, 4, 5] rfl (by decide) ?_
        refine V_if_ne (tgt := 40) hC (by omega) dX9_reason_35 (by decide) (fun c35 => ?_) (fun c35 => ?_)
        · refine V_aload_n hC dX9_reason_40 rfl 0 rfl ?_
          refine V_get (ci := 9) (v := .ref gv) hC in_X9 0 rfl cls_X9 12 (by decide) fl_X9_25 rfl dX9_reason_41 ?_
          refine V_aload_n hC dX9_reason_44 rfl 0 rfl ?_
          refine V_get (ci := 9) (v := .int (nI i)) hC in_X9 0 rfl cls_X9 20 (by decide) fl_X9_168 rfl dX9_reason_45 ?_
          refine V_aload_n hC dX9_reason_48 rfl 0 rfl ?_
          refine V_get (ci := 9) (v := .ref tx) hC in_X9 0 rfl cls_X9 18 (by decide) fl_X9_31 rfl dX9_reason_49 ?_
          refine V_aload_n hC dX9_reason_52 rfl 0 rfl ?_
          refine V_get (ci := 9) (v := .int (nI i)) hC in_X9 0 rfl cls_X9 20 (by decide) fl_X9_168 rfl dX9_reason_53 ?_
          refine V_iald hC 5 0 rfl rfl (by omega) (by decide) dX9_reason_56 ?_
          refine V_bipush (v := nI 48) hC dX9_reason_57 (by decide) ?_
          refine V_isub hC dX9_reason_59 (by omega) ?_
          refine V_iast hC 3 0 rfl rfl (by omega) (by decide) dX9_reason_60 (ws2 := [(m9, .inr (9, [.ref al, .ref hs, .int (nI hL), .ref ct, .int (nI tt), .int (nI hv), .int (nI lo), .int (nI hi), .int (nI wt), .ref bt, .int (nI bL), .ref cs, .ref gv, .int (nI gL), .int (nI tk), .int (nI vv), .ref rd, .int (nI rM), .ref tx, .int (nI (T.length)), .int (nI i)])), (al, .inl (cI, 44, .inl (fun j => nI ((allF g n e p b) j)))), (ct, .inl (cI, 9, .inl (fun j => nI (f j)))), (gv, .inl (cI, 1400, .inl (fun j => nI ((va_up fg2 i ((ft i) - 48)) j)))), (rd, .inl (cI, 40, .inl (fun j => nI (frd j)))), (tx, .inl (cI, 120, .inl (fun j => nI (ft j))))]) rfl ?_
          refine V_aload_n hC dX9_reason_61 rfl 0 rfl ?_
          refine V_dup hC dX9_reason_62 rfl ?_
          refine V_get (ci := 9) (v := .int (nI i)) hC in_X9 0 rfl cls_X9 20 (by decide) fl_X9_168 rfl dX9_reason_63 ?_
          refine V_iconst (v := nI 1) hC dX9_reason_66 (by decide) ?_
          refine V_iadd hC dX9_reason_67 ?_
          refine V_put (ci := 9) (v := .int (nI (i + 1))) hC tyX9 tyX9_ok nmX9 in_X9 0 rfl cls_X9 20 (by decide) fl_X9_168 rfl rfl rfl (Nat.le_of_ble_eq_true rfl) dX9_reason_68 (ws2 := [(m9, .inr (9, [.ref al, .ref hs, .int (nI hL), .ref ct, .int (nI tt), .int (nI hv), .int (nI lo), .int (nI hi), .int (nI wt), .ref bt, .int (nI bL), .ref cs, .ref gv, .int (nI gL), .int (nI tk), .int (nI vv), .ref rd, .int (nI rM), .ref tx, .int (nI (T.length)), .int (nI (i + 1))])), (al, .inl (cI, 44, .inl (fun j => nI ((allF g n e p b) j)))), (ct, .inl (cI, 9, .inl (fun j => nI (f j)))), (gv, .inl (cI, 1400, .inl (fun j => nI ((va_up fg2 i ((ft i) - 48)) j)))), (rd, .inl (cI, 40, .inl (fun j => nI (frd j)))), (tx, .inl (cI, 120, .inl (fun j => nI (ft j))))]) rfl ?_
          refine V_goto (tgt := 5) hC dX9_reason_71 (by decide) ?_
          exact ih5 (i + 1) (va_up fg2 i ((ft i) - 48)) (by omega) (by rw [← h2, show T.length - i = (T.length - (i + 1)) + 1 by omega, stA, if_pos (show βl T i = 48 ∨ βl T i = 49 from (show T.getD i 0 = 48 ∨ T.getD i 0 = 49 by omega))]) (by omega)
        · have hst : stT T = i := by rw [← h2, show T.length - i = (T.length - (i + 1)) + 1 by omega, stA, if_neg (show ¬ (βl T i = 48 ∨ βl T i = 49) from (show ¬ (T.getD i 0 = 48 ∨ T.getD i 0 = 49) by omega))]
          refine V_ws (ws2 := [(m9, .inr (9, [.ref al, .ref hs, .int (nI hL), .ref ct, .int (nI tt), .int (nI hv), .int (nI lo), .int (nI hi), .int (nI wt), .ref bt, .int (nI bL), .ref cs, .ref gv, .int (nI gL), .int (nI tk), .int (nI vv), .ref rd, .int (nI rM), .ref tx, .int (nI (T.length)), .int (nI (stT T))])), (al, .inl (cI, 44, .inl (fun j => nI ((allF g n e p b) j)))), (ct, .inl (cI, 9, .inl (fun j => nI (f j)))), (gv, .inl (cI, 1400, .inl (fun j => nI (fg2 j)))), (rd, .inl (cI, 40, .inl (fun j => nI (frd j)))), (tx, .inl (cI, 120, .inl (fun j => nI (ft j))))]) (by rw [hst]) ?_
          refine V_iconst (v := nI 1) hC dX9_reason_38 (by decide) ?_
          subst hQ
          exact V_iret hC hr hlk rfl (by decide) (by decide) dX9_reason_39 (fg2) [0, 1, 2, 3, 4, 5] rfl (by decide) (⟨rfl, trivial⟩)
  exact L5 _ 0 fg (by omega) (rfl) (Nat.lt_succ_self _)
abbrev rm_X9_reason_n : Room := { frames := 3, cells := 0, slots := 0, locals := 68 }
set_option maxHeartbeats 4000000 in
set_option maxRecDepth 100000 in
theorem c_X9_reason_n (l : Launch) (D : va_G) (cI cQ : ClassId) (m9 al hs hL ct tt hv lo hi wt bt bL cs gv gL tk vv rd rM tx tL pl n e p b : Nat) (g f fg frd ft : Nat → Nat) (T : List Nat) (hT : rep ft T) (hT1 : T.length ≤ 120) (hT2 : ∀ j, j < T.length → T.getD j 0 < 1000) (hx : T.length ≤ stT T) (hp : p ≤ 64) (hb : b ≤ 2000) : MI l yX9_reason cX9_reason 1 (some .int) rm_X9_reason_n D (TY cI cQ) [.ref m9] [(m9, .inr (9, [.ref al, .ref hs, .int (nI hL), .ref ct, .int (nI tt), .int (nI hv), .int (nI lo), .int (nI hi), .int (nI wt), .ref bt, .int (nI bL), .ref cs, .ref gv, .int (nI gL), .int (nI tk), .int (nI vv), .ref rd, .int (nI rM), .ref tx, .int (nI (T.length)), .int (nI pl)])), (al, .inl (cI, 44, .inl (fun j => nI ((allF g n e p b) j)))), (ct, .inl (cI, 9, .inl (fun j => nI (f j)))), (gv, .inl (cI, 1400, .inl (fun j => nI (fg j)))), (rd, .inl (cI, 40, .inl (fun j => nI (frd j)))), (tx, .inl (cI, 120, .inl (fun j => nI (ft j))))] (fun (r9 : Int32) (u : (Nat → Nat) × (Nat → Nat) × (Nat)) => r9 = (nI (frn p b T)) ∧ (rep u.2.1 (qR (rdF p b (bT T)).2) ∧ (frn p b T = 2 → u.2.2 = T.length) ∧ (frn p b T = 3 → u.2.2 = fO (bT T) T.length (qK (rdF p b (bT T)).2)))) (fun (u : (Nat → Nat) × (Nat → Nat) × (Nat)) => [(m9, .inr (9, [.ref al, .ref hs, .int (nI hL), .ref ct, .int (nI (qT ((rdF p b (bT T)).2))), .int (nI (qH ((rdF p b (bT T)).2))), .int (nI (qL ((rdF p b (bT T)).2))), .int (nI (qU ((rdF p b (bT T)).2))), .int (nI wt), .ref bt, .int (nI bL), .ref cs, .ref gv, .int (nI (T.length)), .int (nI (qK ((rdF p b (bT T)).2))), .int (nI (qV ((rdF p b (bT T)).2))), .ref rd, .int (nI ((qR ((rdF p b (bT T)).2)).length)), .ref tx, .int (nI (T.length)), .int (nI (u.2.2))])), (al, .inl (cI, 44, .inl (fun j => nI ((allF g n e p b) j)))), (ct, .inl (cI, 9, .inl (fun j => nI ((qF ((rdF p b (bT T)).2)) j)))), (gv, .inl (cI, 1400, .inl (fun j => nI (u.1 j)))), (rd, .inl (cI, 40, .inl (fun j => nI (u.2.1 j)))), (tx, .inl (cI, 120, .inl (fun j => nI (ft j))))]) 0 0 := by
  refine MI.start (by decide) (Nat.le_of_ble_eq_true rfl) (lv0 := [(0, .ref m9)]) rfl ?_
  intro pp9 ee9 ss9 mm9 args9 below9 meth9 co9 A9 Q9 hQ hC hr hlk hnm
  refine V_aload_n hC dX9_reason_0 rfl 0 rfl ?_
  refine V_iconst (v := nI 0) hC dX9_reason_1 (by decide) ?_
  refine V_put (ci := 9) (v := .int (nI 0)) hC tyX9 tyX9_ok nmX9 in_X9 0 rfl cls_X9 20 (by decide) fl_X9_168 rfl rfl rfl (Nat.le_of_ble_eq_true rfl) dX9_reason_2 (ws2 := [(m9, .inr (9, [.ref al, .ref hs, .int (nI hL), .ref ct, .int (nI tt), .int (nI hv), .int (nI lo), .int (nI hi), .int (nI wt), .ref bt, .int (nI bL), .ref cs, .ref gv, .int (nI gL), .int (nI tk), .int (nI vv), .ref rd, .int (nI rM), .ref tx, .int (nI (T.length)), .int (nI 0)])), (al, .inl (cI, 44, .inl (fun j => nI ((allF g n e p b) j)))), (ct, .inl (cI, 9, .inl (fun j => nI (f j)))), (gv, .inl (cI, 1400, .inl (fun j => nI (fg j)))), (rd, .inl (cI, 40, .inl (fun j => nI (frd j)))), (tx, .inl (cI, 120, .inl (fun j => nI (ft j))))]) rfl ?_
  have L5 : ∀ (n9 : Nat) (i : Nat) (fg2 : Nat → Nat), (i ≤ T.length) → (stA (βl T) (T.length - i) i = stT T) → (∀ j, j < i → fg2 j = bT T j) → T.length - i < n9 → V pp9 l ee9 rm_X9_reason_n ss9 mm9 args9 below9 meth9 co9 D A9 ss9.heap 1 Q9 [(m9, .inr (9, [.ref al, .ref hs, .int (nI hL), .ref ct, .int (nI tt), .int (nI hv), .int (nI lo), .int (nI hi), .int (nI wt), .ref bt, .int (nI bL), .ref cs, .ref gv, .int (nI gL), .int (nI tk), .int (nI vv), .ref rd, .int (nI rM), .ref tx, .int (nI (T.length)), .int (nI i)])), (al, .inl (cI, 44, .inl (fun j => nI ((allF g n e p b) j)))), (ct, .inl (cI, 9, .inl (fun j => nI (f j)))), (gv, .inl (cI, 1400, .inl (fun j => nI (fg2 j)))), (rd, .inl (cI, 40, .inl (fun j => nI (frd j)))), (tx, .inl (cI, 120, .inl (fun j => nI (ft j))))] [(0, .ref m9)] 0 0 5 [] := by
    intro n9
    induction n9 with
    | zero => intro i fg2 h1 h2 h3 h9; exact absurd h9 (Nat.not_lt_zero _)
    | succ n9 ih5 =>
      intro i fg2 h1 h2 h3 h9
      refine V_aload_n hC dX9_reason_5 rfl 0 rfl ?_
      refine V_get (ci := 9) (v := .int (nI i)) hC in_X9 0 rfl cls_X9 20 (by decide) fl_X9_168 rfl dX9_reason_6 ?_
      refine V_aload_n hC dX9_reason_9 rfl 0 rfl ?_
      refine V_get (ci := 9) (v := .int (nI (T.length))) hC in_X9 0 rfl cls_X9 19 (by decide) fl_X9_133 rfl dX9_reason_10 ?_
      refine V_icmp_ge (tgt := 74) hC (by omega) (by omega) dX9_reason_13 (by decide) (fun c13 => ?_) (fun c13 => ?_)
      · have ei9 : i = T.length := by omega
        subst ei9
        have hyβ : ∀ j, (if j < T.length then fg2 j else 0) = bT T j := fun j => by
          by_cases q : j < T.length
          · rw [if_pos q, h3 j q]
          · rw [if_neg q]; exact (if_neg q).symm
        refine V_aload_n hC dX9_reason_74 rfl 0 rfl ?_
        refine V_aload_n hC dX9_reason_75 rfl 0 rfl ?_
        refine V_get (ci := 9) (v := .int (nI (T.length))) hC in_X9 0 rfl cls_X9 19 (by decide) fl_X9_133 rfl dX9_reason_76 ?_
        refine V_put (ci := 9) (v := .int (nI (T.length))) hC tyX9 tyX9_ok nmX9 in_X9 0 rfl cls_X9 13 (by decide) fl_X9_148 rfl rfl rfl (Nat.le_of_ble_eq_true rfl) dX9_reason_79 (ws2 := [(m9, .inr (9, [.ref al, .ref hs, .int (nI hL), .ref ct, .int (nI tt), .int (nI hv), .int (nI lo), .int (nI hi), .int (nI wt), .ref bt, .int (nI bL), .ref cs, .ref gv, .int (nI (T.length)), .int (nI tk), .int (nI vv), .ref rd, .int (nI rM), .ref tx, .int (nI (T.length)), .int (nI (T.length))])), (al, .inl (cI, 44, .inl (fun j => nI ((allF g n e p b) j)))), (ct, .inl (cI, 9, .inl (fun j => nI (f j)))), (gv, .inl (cI, 1400, .inl (fun j => nI (fg2 j)))), (rd, .inl (cI, 40, .inl (fun j => nI (frd j)))), (tx, .inl (cI, 120, .inl (fun j => nI (ft j))))]) rfl ?_
        refine V_aload_n hC dX9_reason_82 rfl 0 rfl ?_
        refine V_calliV (As := []) (rest := []) (wr := [(tx, .inl (cI, 120, .inl (fun j => nI (ft j))))]) hC (c_X9_reads l D cI cQ m9 al hs hL ct tt hv lo hi wt bt bL cs gv T.length tk vv rd rM tx T.length T.length n e p b g f fg2 (bT T) frd (by omega) (hyβ) (bT2 T) (hp) (hb)) mok_X9_reads ml_X9_162 (q1 := 0) rfl cls_X9 rfl rfl rfl (by decide) (by decide) (by decide) (Nat.le_of_ble_eq_true rfl) [0, 1, 2, 3, 4] [5] rfl (by decide) rfl (by decide) (by decide) dX9_reason_83 rfl (fun r9 u9 h83 => ?_)
        obtain ⟨frd2_1, rfl⟩ : ∃ z, z = u9 := ⟨_, rfl⟩
        obtain ⟨rfl, h83⟩ := h83
        have h83 : rep frd2_1 (qR (rdF p b (bT T)).2) := h83
        refine V_perm (ws2 := [(m9, .inr (9, [.ref al, .ref hs, .int (nI hL), .ref ct, .int (nI (qT ((rdF p b (bT T)).2))), .int (nI (qH ((rdF p b (bT T)).2))), .int (nI (qL ((rdF p b (bT T)).2))), .int (nI (qU ((rdF p b (bT T)).2))), .int (nI wt), .ref bt, .int (nI bL), .ref cs, .ref gv, .int (nI (T.length)), .int (nI (qK ((rdF p b (bT T)).2))), .int (nI (qV ((rdF p b (bT T)).2))), .ref rd, .int (nI ((qR ((rdF p b (bT T)).2)).length)), .ref tx, .int (nI (T.length)), .int (nI (T.length))])), (al, .inl (cI, 44, .inl (fun j => nI ((allF g n e p b) j)))), (ct, .inl (cI, 9, .inl (fun j => nI ((qF ((rdF p b (bT T)).2)) j)))), (gv, .inl (cI, 1400, .inl (fun j => nI (fg2 j)))), (rd, .inl (cI, 40, .inl (fun j => nI (frd2_1 j)))), (tx, .inl (cI, 120, .inl (fun j => nI (ft j))))]) [1, 2, 3, 4, 5, 0] rfl (by decide) ?_
        have hok := rdd_ok (bT2 T) hp hb 41 (rd0 (bT T)) (okR_0 (bT2 T))
        have hov : (rdF p b (bT T)).1 < 2 := hok.2
        have hqk : qK (rdF p b (bT T)).2 ≤ 16 + 16 * (qR (rdF p b (bT T)).2).length := hok.1.2.2.2.2.2.1
        have hqr : (qR (rdF p b (bT T)).2).length ≤ 40 := hok.1.2.2.2.2.2.2
        refine V_if_ne (tgt := 91) hC (by omega) dX9_reason_86 (by decide) (fun c86 => ?_) (fun c86 => ?_)
        · have hr1 : (rdF p b (bT T)).1 = 1 := by omega
          refine V_aload_n hC dX9_reason_91 rfl 0 rfl ?_
          refine V_aload_n hC dX9_reason_92 rfl 0 rfl ?_
          refine V_get (ci := 9) (v := .int (nI (qK ((rdF p b (bT T)).2)))) hC in_X9 0 rfl cls_X9 14 (by decide) fl_X9_145 rfl dX9_reason_93 ?_
          refine V_put (ci := 9) (v := .int (nI (qK ((rdF p b (bT T)).2)))) hC tyX9 tyX9_ok nmX9 in_X9 0 rfl cls_X9 20 (by decide) fl_X9_168 rfl rfl rfl (Nat.le_of_ble_eq_true rfl) dX9_reason_96 (ws2 := [(m9, .inr (9, [.ref al, .ref hs, .int (nI hL), .ref ct, .int (nI (qT ((rdF p b (bT T)).2))), .int (nI (qH ((rdF p b (bT T)).2))), .int (nI (qL ((rdF p b (bT T)).2))), .int (nI (qU ((rdF p b (bT T)).2))), .int (nI wt), .ref bt, .int (nI bL), .ref cs, .ref gv, .int (nI (T.length)), .int (nI (qK ((rdF p b (bT T)).2))), .int (nI (qV ((rdF p b (bT T)).2))), .ref rd, .int (nI ((qR ((rdF p b (bT T)).2)).length)), .ref tx, .int (nI (T.length)), .int (nI (qK ((rdF p b (bT T)).2)))])), (al, .inl (cI, 44, .inl (fun j => nI ((allF g n e p b) j)))), (ct, .inl (cI, 9, .inl (fun j => nI ((qF ((rdF p b (bT T)).2)) j)))), (gv, .inl (cI, 1400, .inl (fun j => nI (fg2 j)))), (rd, .inl (cI, 40, .inl (fun j => nI (frd2_1 j)))), (tx, .inl (cI, 120, .inl (fun j => nI (ft j))))]) rfl ?_
          have L99 : ∀ (n9 : Nat) (i : Nat), (i < 2147483648) → (fO (bT T) T.length (qK (rdF p b (bT T)).2) = fO (bT T) T.length i) → T.length - i < n9 → V pp9 l ee9 rm_X9_reason_n ss9 mm9 args9 below9 meth9 co9 D A9 ss9.heap 1 Q9 [(m9, .inr (9, [.ref al, .ref hs, .int (nI hL), .ref ct, .int (nI (qT ((rdF p b (bT T)).2))), .int (nI (qH ((rdF p b (bT T)).2))), .int (nI (qL ((rdF p b (bT T)).2))), .int (nI (qU ((rdF p b (bT T)).2))), .int (nI wt), .ref bt, .int (nI bL), .ref cs, .ref gv, .int (nI (T.length)), .int (nI (qK ((rdF p b (bT T)).2))), .int (nI (qV ((rdF p b (bT T)).2))), .ref rd, .int (nI ((qR ((rdF p b (bT T)).2)).length)), .ref tx, .int (nI (T.length)), .int (nI i)])), (al, .inl (cI, 44, .inl (fun j => nI ((allF g n e p b) j)))), (ct, .inl (cI, 9, .inl (fun j => nI ((qF ((rdF p b (bT T)).2)) j)))), (gv, .inl (cI, 1400, .inl (fun j => nI (fg2 j)))), (rd, .inl (cI, 40, .inl (fun j => nI (frd2_1 j)))), (tx, .inl (cI, 120, .inl (fun j => nI (ft j))))] [(0, .ref m9)] 0 0 99 [] := by
            intro n9
            induction n9 with
            | zero => intro i h6 h7 h9; exact absurd h9 (Nat.not_lt_zero _)
            | succ n9 ih99 =>
              intro i h6 h7 h9
              refine V_aload_n hC dX9_reason_99 rfl 0 rfl ?_
              refine V_get (ci := 9) (v := .int (nI i)) hC in_X9 0 rfl cls_X9 20 (by decide) fl_X9_168 rfl dX9_reason_100 ?_
              refine V_aload_n hC dX9_reason_103 rfl 0 rfl ?_
              refine V_get (ci := 9) (v := .int (nI (T.length))) hC in_X9 0 rfl cls_X9 19 (by decide) fl_X9_133 rfl dX9_reason_104 ?_
              refine V_icmp_ge (tgt := 138) hC (by omega) (by omega) dX9_reason_107 (by decide) (fun c107 => ?_) (fun c107 => ?_)
              · refine V_iconst (v := nI 0) hC dX9_reason_138 (by decide) ?_
                subst hQ
                exact V_iret hC hr hlk rfl (by decide) (by decide) dX9_reason_139 ((fg2, frd2_1, i)) [0, 1, 2, 3, 4, 5] rfl (by decide) (⟨by rw [frn_0 hr1 (show ¬ fO (bT T) T.length (qK (rdF p b (bT T)).2) < T.length by rw [h7, fO_end c107]; exact Nat.lt_irrefl _)], h83, fun h => absurd h (by rw [frn_0 hr1 (show ¬ fO (bT T) T.length (qK (rdF p b (bT T)).2) < T.length by rw [h7, fO_end c107]; exact Nat.lt_irrefl _)]; decide), fun h => absurd h (by rw [frn_0 hr1 (show ¬ fO (bT T) T.length (qK (rdF p b (bT T)).2) < T.length by rw [h7, fO_end c107]; exact Nat.lt_irrefl _)]; decide)⟩)
              · refine V_aload_n hC dX9_reason_110 rfl 0 rfl ?_
                refine V_get (ci := 9) (v := .ref gv) hC in_X9 0 rfl cls_X9 12 (by decide) fl_X9_25 rfl dX9_reason_111 ?_
                refine V_aload_n hC dX9_reason_114 rfl 0 rfl ?_
                refine V_get (ci := 9) (v := .int (nI i)) hC in_X9 0 rfl cls_X9 20 (by decide) fl_X9_168 rfl dX9_reason_115 ?_
                refine V_iald hC 3 0 rfl rfl (by omega) (by decide) dX9_reason_118 ?_
                have hgi : fg2 i < 2 := by rw [h3 i (by omega)]; exact bT2 T i
                refine V_iconst (v := nI 1) hC dX9_reason_119 (by decide) ?_
                refine V_icmp_ne (tgt := 125) hC (by omega) (by omega) dX9_reason_120 (by decide) (fun c120 => ?_) (fun c120 => ?_)
                · refine V_aload_n hC dX9_reason_125 rfl 0 rfl ?_
                  refine V_dup hC dX9_reason_126 rfl ?_
                  refine V_get (ci := 9) (v := .int (nI i)) hC in_X9 0 rfl cls_X9 20 (by decide) fl_X9_168 rfl dX9_reason_127 ?_
                  refine V_iconst (v := nI 1) hC dX9_reason_130 (by decide) ?_
                  refine V_iadd hC dX9_reason_131 ?_
                  refine V_put (ci := 9) (v := .int (nI (i + 1))) hC tyX9 tyX9_ok nmX9 in_X9 0 rfl cls_X9 20 (by decide) fl_X9_168 rfl rfl rfl (Nat.le_of_ble_eq_true rfl) dX9_reason_132 (ws2 := [(m9, .inr (9, [.ref al, .ref hs, .int (nI hL), .ref ct, .int (nI (qT ((rdF p b (bT T)).2))), .int (nI (qH ((rdF p b (bT T)).2))), .int (nI (qL ((rdF p b (bT T)).2))), .int (nI (qU ((rdF p b (bT T)).2))), .int (nI wt), .ref bt, .int (nI bL), .ref cs, .ref gv, .int (nI (T.length)), .int (nI (qK ((rdF p b (bT T)).2))), .int (nI (qV ((rdF p b (bT T)).2))), .ref rd, .int (nI ((qR ((rdF p b (bT T)).2)).length)), .ref tx, .int (nI (T.length)), .int (nI (i + 1))])), (al, .inl (cI, 44, .inl (fun j => nI ((allF g n e p b) j)))), (ct, .inl (cI, 9, .inl (fun j => nI ((qF ((rdF p b (bT T)).2)) j)))), (gv, .inl (cI, 1400, .inl (fun j => nI (fg2 j)))), (rd, .inl (cI, 40, .inl (fun j => nI (frd2_1 j)))), (tx, .inl (cI, 120, .inl (fun j => nI (ft j))))]) rfl ?_
                  refine V_goto (tgt := 99) hC dX9_reason_135 (by decide) ?_
                  exact ih99 (i + 1) (by omega) (by rw [h7, fO_step (show i < T.length by omega) (by rw [← h3 i (by omega)]; exact c120)]) (by omega)
                · refine V_iconst (v := nI 3) hC dX9_reason_123 (by decide) ?_
                  subst hQ
                  exact V_iret hC hr hlk rfl (by decide) (by decide) dX9_reason_124 ((fg2, frd2_1, i)) [0, 1, 2, 3, 4, 5] rfl (by decide) (⟨by rw [frn_3 hr1 (show fO (bT T) T.length (qK (rdF p b (bT T)).2) < T.length by rw [h7, fO_hit c107 (by rw [← h3 i c107]; exact c120)]; exact c107)], h83, fun h => absurd h (by rw [frn_3 hr1 (show fO (bT T) T.length (qK (rdF p b (bT T)).2) < T.length by rw [h7, fO_hit c107 (by rw [← h3 i c107]; exact c120)]; exact c107)]; decide), fun _ => by show i = _; rw [h7, fO_hit c107 (by rw [← h3 i c107]; exact c120)]⟩)
          exact L99 _ (qK ((rdF p b (bT T)).2)) (by omega) (rfl) (Nat.lt_succ_self _)
        · refine V_iconst (v := nI 2) hC dX9_reason_89 (by decide) ?_
          subst hQ
          exact V_iret hC hr hlk rfl (by decide) (by decide) dX9_reason_90 ((fg2, frd2_1, T.length)) [0, 1, 2, 3, 4, 5] rfl (by decide) (⟨by unfold frn; rw [if_neg (show ¬ (rdF p b (bT T)).1 = 1 by omega)], h83, fun _ => rfl, fun h => absurd h (by unfold frn; rw [if_neg (show ¬ (rdF p b (bT T)).1 = 1 by omega)]; decide)⟩)
      · refine V_aload_n hC dX9_reason_16 rfl 0 rfl ?_
        refine V_get (ci := 9) (v := .ref tx) hC in_X9 0 rfl cls_X9 18 (by decide) fl_X9_31 rfl dX9_reason_17 ?_
        refine V_aload_n hC dX9_reason_20 rfl 0 rfl ?_
        refine V_get (ci := 9) (v := .int (nI i)) hC in_X9 0 rfl cls_X9 20 (by decide) fl_X9_168 rfl dX9_reason_21 ?_
        refine V_iald hC 5 0 rfl rfl (by omega) (by decide) dX9_reason_24 ?_
        have hti : ft i = T.getD i 0 := hT i (by omega)
        have htb := hT2 i (by omega)
        refine V_i2l (v := lN (ft i)) hC dX9_reason_25 (nI_l (by omega)) ?_
        refine V_ldc2 (v2 := lN 48) hC dX9_reason_26 cstl_X9_171 rfl ?_
        refine V_ldc2 (v2 := lN 49) hC dX9_reason_29 cstl_X9_173 rfl ?_
        refine V_calliS (As := [.long (lN (ft i)), .long (lN 48), .long (lN 49)]) (rest := []) (wr := [(m9, .inr (9, [.ref al, .ref hs, .int (nI hL), .ref ct, .int (nI tt), .int (nI hv), .int (nI lo), .int (nI hi), .int (nI wt), .ref bt, .int (nI bL), .ref cs, .ref gv, .int (nI gL), .int (nI tk), .int (nI vv), .ref rd, .int (nI rM), .ref tx, .int (nI (T.length)), .int (nI i)])), (al, .inl (cI, 44, .inl (fun j => nI ((allF g n e p b) j)))), (ct, .inl (cI, 9, .inl (fun j => nI (f j)))), (gv, .inl (cI, 1400, .inl (fun j => nI (fg2 j)))), (rd, .inl (cI, 40, .inl (fun j => nI (frd j)))), (tx, .inl (cI, 120, .inl (fun j => nI (ft j))))]) hC (c_X9_in l D cI cQ (ft i) 48 49 (by omega) (by omega) (by omega)) mok_X9_in ml_X9_102 rfl rfl rfl (by decide) (by decide) (by decide) (Nat.le_of_ble_eq_true rfl) [] [0, 1, 2, 3, 4, 5] rfl (by decide) rfl (by decide) (by decide) dX9_reason_32 rfl (fun r9 u9 h32 => ?_)
        obtain ⟨u_2, rfl⟩ : ∃ z, z = u9 := ⟨_, rfl⟩
        obtain ⟨rfl, h32⟩ := h32
        have h32 : (u_2 = 1 ∧ 48 ≤ (ft i) ∧ (ft i) ≤ 49) ∨ (u_2 = 0 ∧ ((ft i) < 48 ∨ 49 < (ft i))) := h32
        refine V_perm (ws2 := [(m9, .inr (9, [.ref al, .ref hs, .int (nI hL), .ref ct, .int (nI tt), .int (nI hv), .int (nI lo), .int (nI hi), .int (nI wt), .ref bt, .int (nI bL), .ref cs, .ref gv, .int (nI gL), .int (nI tk), .int (nI vv), .ref rd, .int (nI rM), .ref tx, .int (nI (T.length)), .int (nI i)])), (al, .inl (cI, 44, .inl (fun j => nI ((allF g n e p b) j)))), (ct, .inl (cI, 9, .inl (fun j => nI (f j)))), (gv, .inl (cI, 1400, .inl (fun j => nI (fg2 j)))), (rd, .inl (cI, 40, .inl (fun j => nI (frd j)))), (tx, .inl (cI, 120, .inl (fun j => nI (ft j))))]) [0, 1, 2, 3, 4, 5] rfl (by decide) ?_
        refine V_if_ne (tgt := 40) hC (by omega) dX9_reason_35 (by decide) (fun c35 => ?_) (fun c35 => ?_)
        · refine V_aload_n hC dX9_reason_40 rfl 0 rfl ?_
          refine V_get (ci := 9) (v := .ref gv) hC in_X9 0 rfl cls_X9 12 (by decide) fl_X9_25 rfl dX9_reason_41 ?_
          refine V_aload_n hC dX9_reason_44 rfl 0 rfl ?_
          refine V_get (ci := 9) (v := .int (nI i)) hC in_X9 0 rfl cls_X9 20 (by decide) fl_X9_168 rfl dX9_reason_45 ?_
          refine V_aload_n hC dX9_reason_48 rfl 0 rfl ?_
          refine V_get (ci := 9) (v := .ref tx) hC in_X9 0 rfl cls_X9 18 (by decide) fl_X9_31 rfl dX9_reason_49 ?_
          refine V_aload_n hC dX9_reason_52 rfl 0 rfl ?_
          refine V_get (ci := 9) (v := .int (nI i)) hC in_X9 0 rfl cls_X9 20 (by decide) fl_X9_168 rfl dX9_reason_53 ?_
          refine V_iald hC 5 0 rfl rfl (by omega) (by decide) dX9_reason_56 ?_
          refine V_bipush (v := nI 48) hC dX9_reason_57 (by decide) ?_
          refine V_isub hC dX9_reason_59 (by omega) ?_
          refine V_iast hC 3 0 rfl rfl (by omega) (by decide) dX9_reason_60 (ws2 := [(m9, .inr (9, [.ref al, .ref hs, .int (nI hL), .ref ct, .int (nI tt), .int (nI hv), .int (nI lo), .int (nI hi), .int (nI wt), .ref bt, .int (nI bL), .ref cs, .ref gv, .int (nI gL), .int (nI tk), .int (nI vv), .ref rd, .int (nI rM), .ref tx, .int (nI (T.length)), .int (nI i)])), (al, .inl (cI, 44, .inl (fun j => nI ((allF g n e p b) j)))), (ct, .inl (cI, 9, .inl (fun j => nI (f j)))), (gv, .inl (cI, 1400, .inl (fun j => nI ((va_up fg2 i ((ft i) - 48)) j)))), (rd, .inl (cI, 40, .inl (fun j => nI (frd j)))), (tx, .inl (cI, 120, .inl (fun j => nI (ft j))))]) rfl ?_
          refine V_aload_n hC dX9_reason_61 rfl 0 rfl ?_
          refine V_dup hC dX9_reason_62 rfl ?_
          refine V_get (ci := 9) (v := .int (nI i)) hC in_X9 0 rfl cls_X9 20 (by decide) fl_X9_168 rfl dX9_reason_63 ?_
          refine V_iconst (v := nI 1) hC dX9_reason_66 (by decide) ?_
          refine V_iadd hC dX9_reason_67 ?_
          refine V_put (ci := 9) (v := .int (nI (i + 1))) hC tyX9 tyX9_ok nmX9 in_X9 0 rfl cls_X9 20 (by decide) fl_X9_168 rfl rfl rfl (Nat.le_of_ble_eq_true rfl) dX9_reason_68 (ws2 := [(m9, .inr (9, [.ref al, .ref hs, .int (nI hL), .ref ct, .int (nI tt), .int (nI hv), .int (nI lo), .int (nI hi), .int (nI wt), .ref bt, .int (nI bL), .ref cs, .ref gv, .int (nI gL), .int (nI tk), .int (nI vv), .ref rd, .int (nI rM), .ref tx, .int (nI (T.length)), .int (nI (i + 1))])), (al, .inl (cI, 44, .inl (fun j => nI ((allF g n e p b) j)))), (ct, .inl (cI, 9, .inl (fun j => nI (f j)))), (gv, .inl (cI, 1400, .inl (fun j => nI ((va_up fg2 i ((ft i) - 48)) j)))), (rd, .inl (cI, 40, .inl (fun j => nI (frd j)))), (tx, .inl (cI, 120, .inl (fun j => nI (ft j))))]) rfl ?_
          refine V_goto (tgt := 5) hC dX9_reason_71 (by decide) ?_
          exact ih5 (i + 1) (va_up fg2 i ((ft i) - 48)) (by omega) (by rw [← h2, show T.length - i = (T.length - (i + 1)) + 1 by omega, stA, if_pos (show βl T i = 48 ∨ βl T i = 49 from (show T.getD i 0 = 48 ∨ T.getD i 0 = 49 by omega))]) (lt_s (fun j hj => by rw [va_up_ne fg2 _ (show j ≠ i by omega)]; exact h3 j hj) (by rw [va_up_self, hti]; exact bT_at (show i < T.length by omega) (show T.getD i 0 = 48 ∨ T.getD i 0 = 49 by omega))) (by omega)
        · have hst : stT T = i := by rw [← h2, show T.length - i = (T.length - (i + 1)) + 1 by omega, stA, if_neg (show ¬ (βl T i = 48 ∨ βl T i = 49) from (show ¬ (T.getD i 0 = 48 ∨ T.getD i 0 = 49) by omega))]
          exact False.elim (by omega)
  exact L5 _ 0 fg (by omega) (rfl) (fun j hj => absurd hj (Nat.not_lt_zero j)) (Nat.lt_succ_self _)
