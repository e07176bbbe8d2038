abbrev rm_X8_isLetter : Room := { frames := 0, cells := 0, slots := 0, locals := 0 }
set_option maxHeartbeats 4000000 in
set_option maxRecDepth 100000 in
theorem c_X8_isLetter (l : Launch) (D : va_G) (cI cQ : ClassId) (x : Nat) (hx : x < 2147483648) : MI l yX8_isLetter cX8_isLetter 1 (some .boolean) rm_X8_isLetter D (TY cI cQ) [.int (nI x)] [] (fun (r9 : Int32) (u : (Nat)) => r9 = (nI u) ∧ ((u = 1 ∧ x < 8) ∨ (u = 0 ∧ 8 ≤ x))) (fun (u : (Nat)) => []) 0 0 := by
  refine MI.start (by decide) (Nat.le_of_ble_eq_true rfl) (lv0 := [(0, .int (nI x))]) rfl ?_
  intro pp9 ee9 ss9 mm9 args9 below9 meth9 co9 A9 Q9 hQ hC hr hlk hnm
  refine V_iload_n hC dX8_isLetter_0 rfl 0 rfl ?_
  refine V_if_lt_F (tgt := 14) hC dX8_isLetter_1 (by decide) (nI_pos (by omega)) ?_
  refine V_iload_n hC dX8_isLetter_4 rfl 0 rfl ?_
  refine V_bipush (v := nI 8) hC dX8_isLetter_5 (by decide) ?_
  refine V_icmp_ge (tgt := 14) hC (by omega) (by omega) dX8_isLetter_7 (by decide) (fun c7 => ?_) (fun c7 => ?_)
  · refine V_iconst (v := nI 0) hC dX8_isLetter_14 (by decide) ?_
    subst hQ
    exact V_iret hC hr hlk rfl (by decide) (by decide) dX8_isLetter_15 (0) [] rfl (by decide) (⟨rfl, by omega⟩)
  · refine V_iconst (v := nI 1) hC dX8_isLetter_10 (by decide) ?_
    refine V_goto (tgt := 15) hC dX8_isLetter_11 (by decide) ?_
    subst hQ
    exact V_iret hC hr hlk rfl (by decide) (by decide) dX8_isLetter_15 (1) [] rfl (by decide) (⟨rfl, by omega⟩)
abbrev rm_X8_isPace : Room := { frames := 0, cells := 0, slots := 0, locals := 0 }
set_option maxHeartbeats 4000000 in
set_option maxRecDepth 100000 in
theorem c_X8_isPace (l : Launch) (D : va_G) (cI cQ : ClassId) (x : Nat) (hx : x < 2147483648) : MI l yX8_isPace cX8_isPace 1 (some .boolean) rm_X8_isPace D (TY cI cQ) [.int (nI x)] [] (fun (r9 : Int32) (u : (Nat)) => r9 = (nI u) ∧ ((u = 1 ∧ 1 ≤ x ∧ x ≤ 64) ∨ (u = 0 ∧ (x < 1 ∨ 64 < x)))) (fun (u : (Nat)) => []) 0 0 := by
  refine MI.start (by decide) (Nat.le_of_ble_eq_true rfl) (lv0 := [(0, .int (nI x))]) rfl ?_
  intro pp9 ee9 ss9 mm9 args9 below9 meth9 co9 A9 Q9 hQ hC hr hlk hnm
  refine V_iload_n hC dX8_isPace_0 rfl 0 rfl ?_
  refine V_iconst (v := nI 1) hC dX8_isPace_1 (by decide) ?_
  refine V_icmp_lt (tgt := 15) hC (by omega) (by omega) dX8_isPace_2 (by decide) (fun c2 => ?_) (fun c2 => ?_)
  · refine V_iconst (v := nI 0) hC dX8_isPace_15 (by decide) ?_
    subst hQ
    exact V_iret hC hr hlk rfl (by decide) (by decide) dX8_isPace_16 (0) [] rfl (by decide) (⟨rfl, by omega⟩)
  · refine V_iload_n hC dX8_isPace_5 rfl 0 rfl ?_
    refine V_bipush (v := nI 64) hC dX8_isPace_6 (by decide) ?_
    refine V_icmp_gt (tgt := 15) hC (by omega) (by omega) dX8_isPace_8 (by decide) (fun c8 => ?_) (fun c8 => ?_)
    · refine V_iconst (v := nI 0) hC dX8_isPace_15 (by decide) ?_
      subst hQ
      exact V_iret hC hr hlk rfl (by decide) (by decide) dX8_isPace_16 (0) [] rfl (by decide) (⟨rfl, by omega⟩)
    · refine V_iconst (v := nI 1) hC dX8_isPace_11 (by decide) ?_
      refine V_goto (tgt := 16) hC dX8_isPace_12 (by decide) ?_
      subst hQ
      exact V_iret hC hr hlk rfl (by decide) (by decide) dX8_isPace_16 (1) [] rfl (by decide) (⟨rfl, by omega⟩)
abbrev rm_X8_isLetter_neg : Room := { frames := 0, cells := 0, slots := 0, locals := 0 }
set_option maxHeartbeats 4000000 in
set_option maxRecDepth 100000 in
theorem c_X8_isLetter_neg (l : Launch) (D : va_G) (cI cQ : ClassId) (x : Int32) (hx : x.toInt < 0) : MI l yX8_isLetter cX8_isLetter 1 (some .boolean) rm_X8_isLetter_neg D (TY cI cQ) [.int (x)] [] (fun (r9 : Int32) (u : Unit) => r9 = (nI 0) ∧ (True)) (fun (u : Unit) => []) 0 0 := by
  refine MI.start (by decide) (Nat.le_of_ble_eq_true rfl) (lv0 := [(0, .int (x))]) rfl ?_
  intro pp9 ee9 ss9 mm9 args9 below9 meth9 co9 A9 Q9 hQ hC hr hlk hnm
  refine V_iload_n hC dX8_isLetter_0 rfl 0 rfl ?_
  refine V_if_lt_T (tgt := 14) hC dX8_isLetter_1 (by decide) (Int32.lt_iff_toInt_lt.mpr hx) ?_
  refine V_iconst (v := nI 0) hC dX8_isLetter_14 (by decide) ?_
  subst hQ
  exact V_iret hC hr hlk rfl (by decide) (by decide) dX8_isLetter_15 (()) [] rfl (by decide) (⟨rfl, trivial⟩)
abbrev rm_X8_isPace_neg : Room := { frames := 0, cells := 0, slots := 0, locals := 0 }
set_option maxHeartbeats 4000000 in
set_option maxRecDepth 100000 in
theorem c_X8_isPace_neg (l : Launch) (D : va_G) (cI cQ : ClassId) (x : Int32) (hx : x.toInt < 0) : MI l yX8_isPace cX8_isPace 1 (some .boolean) rm_X8_isPace_neg D (TY cI cQ) [.int (x)] [] (fun (r9 : Int32) (u : Unit) => r9 = (nI 0) ∧ (True)) (fun (u : Unit) => []) 0 0 := by
  refine MI.start (by decide) (Nat.le_of_ble_eq_true rfl) (lv0 := [(0, .int (x))]) rfl ?_
  intro pp9 ee9 ss9 mm9 args9 below9 meth9 co9 A9 Q9 hQ hC hr hlk hnm
  refine V_iload_n hC dX8_isPace_0 rfl 0 rfl ?_
  refine V_iconst (v := nI 1) hC dX8_isPace_1 (by decide) ?_
  refine V_icmp_lt_T (tgt := 15) hC dX8_isPace_2 (by decide) (neg_lt hx (by omega)) ?_
  refine V_iconst (v := nI 0) hC dX8_isPace_15 (by decide) ?_
  subst hQ
  exact V_iret hC hr hlk rfl (by decide) (by decide) dX8_isPace_16 (()) [] rfl (by decide) (⟨rfl, trivial⟩)
abbrev rm_X8_isSetting : Room := { frames := 1, cells := 0, slots := 0, locals := 20 }
set_option maxHeartbeats 4000000 in
set_option maxRecDepth 100000 in
theorem c_X8_isSetting (l : Launch) (D : va_G) (cI cQ : ClassId) (w x : Nat) (hw : w < 2147483648) (hx : x < 2147483648) : MI l yX8_isSetting cX8_isSetting 2 (some .boolean) rm_X8_isSetting D (TY cI cQ) [.int (nI w), .int (nI x)] [] (fun (r9 : Int32) (u : (Nat)) => r9 = (nI u) ∧ ((u = 1 ∧ ((w = 0 ∧ 1 ≤ x ∧ x ≤ 64) ∨ (w = 1 ∧ 32 ≤ x ∧ x ≤ 2000))) ∨ (u = 0 ∧ ¬ ((w = 0 ∧ 1 ≤ x ∧ x ≤ 64) ∨ (w = 1 ∧ 32 ≤ x ∧ x ≤ 2000))))) (fun (u : (Nat)) => []) 0 0 := by
  refine MI.start (by decide) (Nat.le_of_ble_eq_true rfl) (lv0 := [(0, .int (nI w)), (1, .int (nI x))]) rfl ?_
  intro pp9 ee9 ss9 mm9 args9 below9 meth9 co9 A9 Q9 hQ hC hr hlk hnm
  refine V_iload_n hC dX8_isSetting_0 rfl 0 rfl ?_
  refine V_if_ne (tgt := 9) hC (by omega) dX8_isSetting_1 (by decide) (fun c1 => ?_) (fun c1 => ?_)
  · refine V_iload_n hC dX8_isSetting_9 rfl 0 rfl ?_
    refine V_iconst (v := nI 1) hC dX8_isSetting_10 (by decide) ?_
    refine V_icmp_ne (tgt := 31) hC (by omega) (by omega) dX8_isSetting_11 (by decide) (fun c11 => ?_) (fun c11 => ?_)
    · refine V_iconst (v := nI 0) hC dX8_isSetting_31 (by decide) ?_
      subst hQ
      exact V_iret hC hr hlk rfl (by decide) (by decide) dX8_isSetting_32 (0) [] rfl (by decide) (⟨rfl, by omega⟩)
    · refine V_iload_n hC dX8_isSetting_14 rfl 1 rfl ?_
      refine V_bipush (v := nI 32) hC dX8_isSetting_15 (by decide) ?_
      refine V_icmp_lt (tgt := 31) hC (by omega) (by omega) dX8_isSetting_17 (by decide) (fun c17 => ?_) (fun c17 => ?_)
      · refine V_iconst (v := nI 0) hC dX8_isSetting_31 (by decide) ?_
        subst hQ
        exact V_iret hC hr hlk rfl (by decide) (by decide) dX8_isSetting_32 (0) [] rfl (by decide) (⟨rfl, by omega⟩)
      · refine V_iload_n hC dX8_isSetting_20 rfl 1 rfl ?_
        refine V_sipush (v := nI 2000) hC dX8_isSetting_21 (by decide) ?_
        refine V_icmp_gt (tgt := 31) hC (by omega) (by omega) dX8_isSetting_24 (by decide) (fun c24 => ?_) (fun c24 => ?_)
        · refine V_iconst (v := nI 0) hC dX8_isSetting_31 (by decide) ?_
          subst hQ
          exact V_iret hC hr hlk rfl (by decide) (by decide) dX8_isSetting_32 (0) [] rfl (by decide) (⟨rfl, by omega⟩)
        · refine V_iconst (v := nI 1) hC dX8_isSetting_27 (by decide) ?_
          refine V_goto (tgt := 32) hC dX8_isSetting_28 (by decide) ?_
          subst hQ
          exact V_iret hC hr hlk rfl (by decide) (by decide) dX8_isSetting_32 (1) [] rfl (by decide) (⟨rfl, by omega⟩)
  · refine V_iload_n hC dX8_isSetting_4 rfl 1 rfl ?_
    refine V_calliS (As := [.int (nI x)]) (rest := []) (wr := []) hC (c_X8_isPace l D cI cQ x (by omega)) mok_X8_isPace ml_X8_162 rfl rfl rfl (by decide) (by decide) (by decide) (Nat.le_of_ble_eq_true rfl) [] [] rfl (by decide) rfl (by decide) (by decide) dX8_isSetting_5 rfl (fun r9 u9 h5 => ?_)
    obtain ⟨u_1, rfl⟩ : ∃ z, z = u9 := ⟨_, rfl⟩
    obtain ⟨rfl, h5⟩ := h5
    have h5 : (u_1 = 1 ∧ 1 ≤ x ∧ x ≤ 64) ∨ (u_1 = 0 ∧ (x < 1 ∨ 64 < x)) := h5
    refine V_perm (ws2 := []) [] rfl (by decide) ?_
    subst hQ
    exact V_iret hC hr hlk (nar_bool (by omega)) (by decide) (by decide) dX8_isSetting_8 (u_1) [] rfl (by decide) (⟨rfl, by omega⟩)
abbrev rm_X8_isSetting_w : Room := { frames := 0, cells := 0, slots := 0, locals := 0 }
set_option maxHeartbeats 4000000 in
set_option maxRecDepth 100000 in
theorem c_X8_isSetting_w (l : Launch) (D : va_G) (cI cQ : ClassId) (w x : Int32) (hw : w.toInt < 0) : MI l yX8_isSetting cX8_isSetting 2 (some .boolean) rm_X8_isSetting_w D (TY cI cQ) [.int (w), .int (x)] [] (fun (r9 : Int32) (u : Unit) => r9 = (nI 0) ∧ (True)) (fun (u : Unit) => []) 0 0 := by
  refine MI.start (by decide) (Nat.le_of_ble_eq_true rfl) (lv0 := [(0, .int (w)), (1, .int (x))]) rfl ?_
  intro pp9 ee9 ss9 mm9 args9 below9 meth9 co9 A9 Q9 hQ hC hr hlk hnm
  refine V_iload_n hC dX8_isSetting_0 rfl 0 rfl ?_
  refine V_if_ne_T (tgt := 9) hC dX8_isSetting_1 (by decide) (neg_ne0 hw) ?_
  refine V_iload_n hC dX8_isSetting_9 rfl 0 rfl ?_
  refine V_iconst (v := nI 1) hC dX8_isSetting_10 (by decide) ?_
  refine V_icmp_ne_T (tgt := 31) hC dX8_isSetting_11 (by decide) (neg_ne hw (by omega)) ?_
  refine V_iconst (v := nI 0) hC dX8_isSetting_31 (by decide) ?_
  subst hQ
  exact V_iret hC hr hlk rfl (by decide) (by decide) dX8_isSetting_32 (()) [] rfl (by decide) (⟨rfl, trivial⟩)
abbrev rm_X8_isSetting_x : Room := { frames := 1, cells := 0, slots := 0, locals := 20 }
set_option maxHeartbeats 4000000 in
set_option maxRecDepth 100000 in
theorem c_X8_isSetting_x (l : Launch) (D : va_G) (cI cQ : ClassId) (w : Nat) (x : Int32) (hw : w < 2147483648) (hx : x.toInt < 0) : MI l yX8_isSetting cX8_isSetting 2 (some .boolean) rm_X8_isSetting_x D (TY cI cQ) [.int (nI w), .int (x)] [] (fun (r9 : Int32) (u : Unit) => r9 = (nI 0) ∧ (True)) (fun (u : Unit) => []) 0 0 := by
  refine MI.start (by decide) (Nat.le_of_ble_eq_true rfl) (lv0 := [(0, .int (nI w)), (1, .int (x))]) rfl ?_
  intro pp9 ee9 ss9 mm9 args9 below9 meth9 co9 A9 Q9 hQ hC hr hlk hnm
  refine V_iload_n hC dX8_isSetting_0 rfl 0 rfl ?_
  refine V_if_ne (tgt := 9) hC (by omega) dX8_isSetting_1 (by decide) (fun c1 => ?_) (fun c1 => ?_)
  · refine V_iload_n hC dX8_isSetting_9 rfl 0 rfl ?_
    refine V_iconst (v := nI 1) hC dX8_isSetting_10 (by decide) ?_
    refine V_icmp_ne (tgt := 31) hC (by omega) (by omega) dX8_isSetting_11 (by decide) (fun c11 => ?_) (fun c11 => ?_)
    · refine V_iconst (v := nI 0) hC dX8_isSetting_31 (by decide) ?_
      subst hQ
      exact V_iret hC hr hlk rfl (by decide) (by decide) dX8_isSetting_32 (()) [] rfl (by decide) (⟨rfl, trivial⟩)
    · refine V_iload_n hC dX8_isSetting_14 rfl 1 rfl ?_
      refine V_bipush (v := nI 32) hC dX8_isSetting_15 (by decide) ?_
      refine V_icmp_lt_T (tgt := 31) hC dX8_isSetting_17 (by decide) (neg_lt hx (by omega)) ?_
      refine V_iconst (v := nI 0) hC dX8_isSetting_31 (by decide) ?_
      subst hQ
      exact V_iret hC hr hlk rfl (by decide) (by decide) dX8_isSetting_32 (()) [] rfl (by decide) (⟨rfl, trivial⟩)
  · refine V_iload_n hC dX8_isSetting_4 rfl 1 rfl ?_
    refine V_calliS (As := [.int (x)]) (rest := []) (wr := []) hC (c_X8_isPace_neg l D cI cQ x (hx)) mok_X8_isPace ml_X8_162 rfl rfl rfl (by decide) (by decide) (by decide) (Nat.le_of_ble_eq_true rfl) [] [] rfl (by decide) rfl (by decide) (by decide) dX8_isSetting_5 rfl (fun r9 u9 h5 => ?_)
    obtain ⟨rfl, h5⟩ := h5
    clear h5
    refine V_perm (ws2 := []) [] rfl (by decide) ?_
    subst hQ
    exact V_iret hC hr hlk rfl (by decide) (by decide) dX8_isSetting_8 (()) [] rfl (by decide) (⟨rfl, trivial⟩)
abbrev rm_X8_writeAnew : Room := { frames := 5, cells := 0, slots := 0, locals := 117 }
set_option maxHeartbeats 4000000 in
set_option maxRecDepth 100000 in
theorem c_X8_writeAnew (l : Launch) (D : va_G) (cI cQ : ClassId) (o me kc tc rd tx tb hi ml kco kcr ksp kbi kbr kcs kz kw kT kH kp kb kl ku kn n e p b : Nat) (g kF kg kcf : Nat → Nat) (hn : n ≤ 40) (hg : ∀ j, j < n → g j < 8) (he : e < 2) (hp : p ≤ 64) (hb : b ≤ 2000) : MV l yX8_writeAnew cX8_writeAnew 1 none rm_X8_writeAnew D (TY cI cQ) [.ref o] [(o, .inr (8, [.ref me, .ref kc, .ref tc, .ref rd, .ref tx, .ref tb, .ref hi])), (me, .inr (4, [.ref ml, .int (nI n), .int (nI e), .int (nI p), .int (nI b)])), (ml, .inl (cI, 40, .inl (fun j => nI (g j)))), (kc, .inr (1, [.ref kco, .ref ksp, .ref kbi, .ref kcs, .int (nI kz), .int (nI kw)])), (kco, .inr (2, [.ref kcr, .int (nI kT), .int (nI kH), .int (nI kp), .int (nI kb)])), (kcr, .inl (cI, 9, .inl (fun j => nI (kF j)))), (ksp, .inr (6, [.int (nI kl), .int (nI ku)])), (kbi, .inr (0, [.ref kbr, .int (nI kn)])), (kbr, .inl (cI, 658, .inl (fun j => nI (kg j)))), (kcs, .inl (cI, 40, .inl (fun j => nI (kcf j))))] (fun (u : (Nat → Nat) × (Nat → Nat)) => rep u.1 (sB (cM p b g n e)) ∧ ∀ j, j < n → u.2 j = cost p b g j) (fun (u : (Nat → Nat) × (Nat → Nat)) => [(o, .inr (8, [.ref me, .ref kc, .ref tc, .ref rd, .ref tx, .ref tb, .ref hi])), (me, .inr (4, [.ref ml, .int (nI n), .int (nI e), .int (nI p), .int (nI b)])), (ml, .inl (cI, 40, .inl (fun j => nI (g j)))), (kc, .inr (1, [.ref kco, .ref ksp, .ref kbi, .ref kcs, .int (nI n), .int (nI (sW (cM p b g n e)))])), (kco, .inr (2, [.ref kcr, .int (nI (sT (cM p b g n e))), .int (nI (sH (cM p b g n e))), .int (nI p), .int (nI b)])), (kcr, .inl (cI, 9, .inl (fun j => nI ((sF (cM p b g n e)) j)))), (ksp, .inr (6, [.int (nI (sL (cM p b g n e))), .int (nI (sU (cM p b g n e)))])), (kbi, .inr (0, [.ref kbr, .int (nI ((sB (cM p b g n e)).length))])), (kbr, .inl (cI, 658, .inl (fun j => nI (u.1 j)))), (kcs, .inl (cI, 40, .inl (fun j => nI (u.2 j))))]) 0 0 := by
  refine MV.start (by decide) (Nat.le_of_ble_eq_true rfl) (lv0 := [(0, .ref o)]) rfl ?_
  intro pp9 ee9 ss9 mm9 args9 below9 meth9 co9 A9 Q9 hQ hC hr hlk hnm
  refine V_aload_n hC dX8_writeAnew_0 rfl 0 rfl ?_
  refine V_get (ci := 8) (v := .ref kc) hC in_X8 0 rfl cls_X8 1 (by decide) fl_X8_19 rfl dX8_writeAnew_1 ?_
  refine V_aload_n hC dX8_writeAnew_4 rfl 0 rfl ?_
  refine V_get (ci := 8) (v := .ref me) hC in_X8 0 rfl cls_X8 0 (by decide) fl_X8_12 rfl dX8_writeAnew_5 ?_
  refine V_getN (ci := 4) (v := .int (nI p)) hC in_X4 1 rfl cls_X4 3 (by decide) fn_X8_102 rfl dX8_writeAnew_8 ?_
  refine V_aload_n hC dX8_writeAnew_11 rfl 0 rfl ?_
  refine V_get (ci := 8) (v := .ref me) hC in_X8 0 rfl cls_X8 0 (by decide) fl_X8_12 rfl dX8_writeAnew_12 ?_
  refine V_getN (ci := 4) (v := .int (nI b)) hC in_X4 1 rfl cls_X4 4 (by decide) fn_X8_105 rfl dX8_writeAnew_15 ?_
  refine V_callvV (As := [.int (nI p), .int (nI b)]) (rest := []) (wr := [(o, .inr (8, [.ref me, .ref kc, .ref tc, .ref rd, .ref tx, .ref tb, .ref hi])), (me, .inr (4, [.ref ml, .int (nI n), .int (nI e), .int (nI p), .int (nI b)])), (ml, .inl (cI, 40, .inl (fun j => nI (g j)))), (kbr, .inl (cI, 658, .inl (fun j => nI (kg j)))), (kcs, .inl (cI, 40, .inl (fun j => nI (kcf j))))]) hC (c_X1_start l D cI cQ kc kco ksp kbi kcs kz kw kcr kT kH kp kb kl ku kbr kn p b kF ) mok_X1_start ml_X8_195 (q1 := 0) rfl cls_X1 rfl rfl rfl (by decide) (by decide) (by decide) (Nat.le_of_ble_eq_true rfl) [3, 4, 5, 6, 7] [0, 1, 2, 8, 9] rfl (by decide) rfl (by decide) (by decide) dX8_writeAnew_18 rfl (fun u9 h18 => ?_)
  clear h18
  refine V_perm (ws2 := [(o, .inr (8, [.ref me, .ref kc, .ref tc, .ref rd, .ref tx, .ref tb, .ref hi])), (me, .inr (4, [.ref ml, .int (nI n), .int (nI e), .int (nI p), .int (nI b)])), (ml, .inl (cI, 40, .inl (fun j => nI (g j)))), (kc, .inr (1, [.ref kco, .ref ksp, .ref kbi, .ref kcs, .int (nI 0), .int (nI 0)])), (kco, .inr (2, [.ref kcr, .int (nI 9), .int (nI 0), .int (nI p), .int (nI b)])), (kcr, .inl (cI, 9, .inl (fun j => nI (one j)))), (ksp, .inr (6, [.int (nI 0), .int (nI 65535)])), (kbi, .inr (0, [.ref kbr, .int (nI 0)])), (kbr, .inl (cI, 658, .inl (fun j => nI (kg j)))), (kcs, .inl (cI, 40, .inl (fun j => nI (kcf j))))]) [0, 1, 2, 5, 6, 7, 8, 9, 3, 4] rfl (by decide) ?_
  refine V_aload_n hC dX8_writeAnew_21 rfl 0 rfl ?_
  refine V_get (ci := 8) (v := .ref kc) hC in_X8 0 rfl cls_X8 1 (by decide) fl_X8_19 rfl dX8_writeAnew_22 ?_
  refine V_aload_n hC dX8_writeAnew_25 rfl 0 rfl ?_
  refine V_get (ci := 8) (v := .ref me) hC in_X8 0 rfl cls_X8 0 (by decide) fl_X8_12 rfl dX8_writeAnew_26 ?_
  refine V_callvV (As := [.ref me]) (rest := []) (wr := [(o, .inr (8, [.ref me, .ref kc, .ref tc, .ref rd, .ref tx, .ref tb, .ref hi]))]) hC (c_X1_addAll l D cI cQ kc kco ksp kbi kcs kcr kbr p b me ml n e p b kg kcf g (hn) (hg) (hp) (hb)) mok_X1_addAll ml_X8_198 (q1 := 0) rfl cls_X1 rfl rfl rfl (by decide) (by decide) (by decide) (Nat.le_of_ble_eq_true rfl) [3, 4, 5, 6, 7, 8, 9, 1, 2] [0] rfl (by decide) rfl (by decide) (by decide) dX8_writeAnew_29 rfl (fun u9 h29 => ?_)
  obtain ⟨g2_1, cf2_2⟩ := u9
  have h29 : rep g2_1 (sB (cR p b g n)) ∧ ∀ j, j < n → cf2_2 j = cost p b g j := h29
  refine V_perm (ws2 := [(o, .inr (8, [.ref me, .ref kc, .ref tc, .ref rd, .ref tx, .ref tb, .ref hi])), (me, .inr (4, [.ref ml, .int (nI n), .int (nI e), .int (nI p), .int (nI b)])), (ml, .inl (cI, 40, .inl (fun j => nI (g j)))), (kc, .inr (1, [.ref kco, .ref ksp, .ref kbi, .ref kcs, .int (nI n), .int (nI (sW (cR p b g n)))])), (kco, .inr (2, [.ref kcr, .int (nI (sT (cR p b g n))), .int (nI (sH (cR p b g n))), .int (nI p), .int (nI b)])), (kcr, .inl (cI, 9, .inl (fun j => nI ((sF (cR p b g n)) j)))), (ksp, .inr (6, [.int (nI (sL (cR p b g n))), .int (nI (sU (cR p b g n)))])), (kbi, .inr (0, [.ref kbr, .int (nI ((sB (cR p b g n)).length))])), (kbr, .inl (cI, 658, .inl (fun j => nI (g2_1 j)))), (kcs, .inl (cI, 40, .inl (fun j => nI (cf2_2 j))))]) [0, 8, 9, 1, 2, 3, 4, 5, 6, 7] rfl (by decide) ?_
  refine V_aload_n hC dX8_writeAnew_32 rfl 0 rfl ?_
  refine V_get (ci := 8) (v := .ref me) hC in_X8 0 rfl cls_X8 0 (by decide) fl_X8_12 rfl dX8_writeAnew_33 ?_
  refine V_getN (ci := 4) (v := .int (nI e)) hC in_X4 1 rfl cls_X4 2 (by decide) fn_X8_58 rfl dX8_writeAnew_36 ?_
  refine V_if_eq (tgt := 49) hC (by omega) dX8_writeAnew_39 (by decide) (fun c39 => ?_) (fun c39 => ?_)
  · refine V_ws (ws2 := [(o, .inr (8, [.ref me, .ref kc, .ref tc, .ref rd, .ref tx, .ref tb, .ref hi])), (me, .inr (4, [.ref ml, .int (nI n), .int (nI e), .int (nI p), .int (nI b)])), (ml, .inl (cI, 40, .inl (fun j => nI (g j)))), (kc, .inr (1, [.ref kco, .ref ksp, .ref kbi, .ref kcs, .int (nI n), .int (nI (sW (cM p b g n e)))])), (kco, .inr (2, [.ref kcr, .int (nI (sT (cM p b g n e))), .int (nI (sH (cM p b g n e))), .int (nI p), .int (nI b)])), (kcr, .inl (cI, 9, .inl (fun j => nI ((sF (cM p b g n e)) j)))), (ksp, .inr (6, [.int (nI (sL (cM p b g n e))), .int (nI (sU (cM p b g n e)))])), (kbi, .inr (0, [.ref kbr, .int (nI ((sB (cM p b g n e)).length))])), (kbr, .inl (cI, 658, .inl (fun j => nI (g2_1 j)))), (kcs, .inl (cI, 40, .inl (fun j => nI (cf2_2 j))))]) (by rw [show cM p b g n e = cR p b g n from if_neg (by omega)]) ?_
    subst hQ
    exact V_vret hC hr hlk (by decide) (by decide) dX8_writeAnew_49 ((g2_1, cf2_2)) [0, 1, 2, 3, 4, 5, 6, 7, 8, 9] rfl (by decide) (⟨by rw [show cM p b g n e = cR p b g n from if_neg (by omega)]; exact h29.1, h29.2⟩)
  · refine V_aload_n hC dX8_writeAnew_42 rfl 0 rfl ?_
    refine V_get (ci := 8) (v := .ref kc) hC in_X8 0 rfl cls_X8 1 (by decide) fl_X8_19 rfl dX8_writeAnew_43 ?_
    refine V_callvV (As := []) (rest := []) (wr := [(o, .inr (8, [.ref me, .ref kc, .ref tc, .ref rd, .ref tx, .ref tb, .ref hi])), (me, .inr (4, [.ref ml, .int (nI n), .int (nI e), .int (nI p), .int (nI b)])), (ml, .inl (cI, 40, .inl (fun j => nI (g j)))), (kcs, .inl (cI, 40, .inl (fun j => nI (cf2_2 j))))]) hC (c_X1_close l D cI cQ kc kco ksp kbi kcs n kcr kbr p b (cR p b g n) g2_1 (cR_ok hp hb hg) (h29.1) (by have := cR_len p b g n; omega)) mok_X1_close ml_X8_78 (q1 := 0) rfl cls_X1 rfl rfl rfl (by decide) (by decide) (by decide) (Nat.le_of_ble_eq_true rfl) [3, 4, 5, 6, 7, 8] [0, 1, 2, 9] rfl (by decide) rfl (by decide) (by decide) dX8_writeAnew_46 rfl (fun u9 h46 => ?_)
    obtain ⟨g2_3, rfl⟩ : ∃ z, z = u9 := ⟨_, rfl⟩
    have h46 : rep g2_3 (sB (cEnd (cR p b g n))) := h46
    refine V_perm (ws2 := [(o, .inr (8, [.ref me, .ref kc, .ref tc, .ref rd, .ref tx, .ref tb, .ref hi])), (me, .inr (4, [.ref ml, .int (nI n), .int (nI e), .int (nI p), .int (nI b)])), (ml, .inl (cI, 40, .inl (fun j => nI (g j)))), (kc, .inr (1, [.ref kco, .ref ksp, .ref kbi, .ref kcs, .int (nI n), .int (nI (sW (cEnd (cR p b g n))))])), (kco, .inr (2, [.ref kcr, .int (nI (sT (cEnd (cR p b g n)))), .int (nI (sH (cEnd (cR p b g n)))), .int (nI p), .int (nI b)])), (kcr, .inl (cI, 9, .inl (fun j => nI ((sF (cEnd (cR p b g n))) j)))), (ksp, .inr (6, [.int (nI (sL (cEnd (cR p b g n)))), .int (nI (sU (cEnd (cR p b g n))))])), (kbi, .inr (0, [.ref kbr, .int (nI ((sB (cEnd (cR p b g n))).length))])), (kbr, .inl (cI, 658, .inl (fun j => nI (g2_3 j)))), (kcs, .inl (cI, 40, .inl (fun j => nI (cf2_2 j))))]) [0, 1, 2, 4, 5, 6, 7, 8, 9, 3] rfl (by decide) ?_
    refine V_ws (ws2 := [(o, .inr (8, [.ref me, .ref kc, .ref tc, .ref rd, .ref tx, .ref tb, .ref hi])), (me, .inr (4, [.ref ml, .int (nI n), .int (nI e), .int (nI p), .int (nI b)])), (ml, .inl (cI, 40, .inl (fun j => nI (g j)))), (kc, .inr (1, [.ref kco, .ref ksp, .ref kbi, .ref kcs, .int (nI n), .int (nI (sW (cM p b g n e)))])), (kco, .inr (2, [.ref kcr, .int (nI (sT (cM p b g n e))), .int (nI (sH (cM p b g n e))), .int (nI p), .int (nI b)])), (kcr, .inl (cI, 9, .inl (fun j => nI ((sF (cM p b g n e)) j)))), (ksp, .inr (6, [.int (nI (sL (cM p b g n e))), .int (nI (sU (cM p b g n e)))])), (kbi, .inr (0, [.ref kbr, .int (nI ((sB (cM p b g n e)).length))])), (kbr, .inl (cI, 658, .inl (fun j => nI (g2_3 j)))), (kcs, .inl (cI, 40, .inl (fun j => nI (cf2_2 j))))]) (by rw [show cM p b g n e = cEnd (cR p b g n) from if_pos (by omega)]) ?_
    subst hQ
    exact V_vret hC hr hlk (by decide) (by decide) dX8_writeAnew_49 ((g2_3, cf2_2)) [0, 1, 2, 3, 4, 5, 6, 7, 8, 9] rfl (by decide) (⟨by rw [show cM p b g n e = cEnd (cR p b g n) from if_pos (by omega)]; exact h46, h29.2⟩)
abbrev rm_X8_bitsEnded : Room := { frames := 5, cells := 0, slots := 0, locals := 117 }
set_option maxHeartbeats 4000000 in
set_option maxRecDepth 100000 in
theorem c_X8_bitsEnded (l : Launch) (D : va_G) (cI cQ : ClassId) (o me kc tc rd tx tb hi ml tco tcr tsp tbi tbr tcs tz tw tT tH tp tb2 tl tu tn n e p b q : Nat) (g tF tg tcf : Nat → Nat) (hn : n ≤ 40) (hg : ∀ j, j < n → g j < 8) (hq9 : q ≤ 64) (hb : b ≤ 2000) : MI l yX8_bitsEnded cX8_bitsEnded 2 (some .int) rm_X8_bitsEnded D (TY cI cQ) [.ref o, .int (nI q)] [(o, .inr (8, [.ref me, .ref kc, .ref tc, .ref rd, .ref tx, .ref tb, .ref hi])), (me, .inr (4, [.ref ml, .int (nI n), .int (nI e), .int (nI p), .int (nI b)])), (ml, .inl (cI, 40, .inl (fun j => nI (g j)))), (tc, .inr (1, [.ref tco, .ref tsp, .ref tbi, .ref tcs, .int (nI tz), .int (nI tw)])), (tco, .inr (2, [.ref tcr, .int (nI tT), .int (nI tH), .int (nI tp), .int (nI tb2)])), (tcr, .inl (cI, 9, .inl (fun j => nI (tF j)))), (tsp, .inr (6, [.int (nI tl), .int (nI tu)])), (tbi, .inr (0, [.ref tbr, .int (nI tn)])), (tbr, .inl (cI, 658, .inl (fun j => nI (tg j)))), (tcs, .inl (cI, 40, .inl (fun j => nI (tcf j))))] (fun (r9 : Int32) (u : (Nat → Nat) × (Nat → Nat)) => r9 = (nI (bE q b g n)) ∧ (True)) (fun (u : (Nat → Nat) × (Nat → Nat)) => [(o, .inr (8, [.ref me, .ref kc, .ref tc, .ref rd, .ref tx, .ref tb, .ref hi])), (me, .inr (4, [.ref ml, .int (nI n), .int (nI e), .int (nI p), .int (nI b)])), (ml, .inl (cI, 40, .inl (fun j => nI (g j)))), (tc, .inr (1, [.ref tco, .ref tsp, .ref tbi, .ref tcs, .int (nI n), .int (nI (sW (cEnd (cR q b g n))))])), (tco, .inr (2, [.ref tcr, .int (nI (sT (cEnd (cR q b g n)))), .int (nI (sH (cEnd (cR q b g n)))), .int (nI q), .int (nI b)])), (tcr, .inl (cI, 9, .inl (fun j => nI ((sF (cEnd (cR q b g n))) j)))), (tsp, .inr (6, [.int (nI (sL (cEnd (cR q b g n)))), .int (nI (sU (cEnd (cR q b g n))))])), (tbi, .inr (0, [.ref tbr, .int (nI ((sB (cEnd (cR q b g n))).length))])), (tbr, .inl (cI, 658, .inl (fun j => nI (u.1 j)))), (tcs, .inl (cI, 40, .inl (fun j => nI (u.2 j))))]) 0 0 := by
  refine MI.start (by decide) (Nat.le_of_ble_eq_true rfl) (lv0 := [(0, .ref o), (1, .int (nI q))]) rfl ?_
  intro pp9 ee9 ss9 mm9 args9 below9 meth9 co9 A9 Q9 hQ hC hr hlk hnm
  refine V_aload_n hC dX8_bitsEnded_0 rfl 0 rfl ?_
  refine V_get (ci := 8) (v := .ref tc) hC in_X8 0 rfl cls_X8 2 (by decide) fl_X8_23 rfl dX8_bitsEnded_1 ?_
  refine V_iload_n hC dX8_bitsEnded_4 rfl 1 rfl ?_
  refine V_aload_n hC dX8_bitsEnded_5 rfl 0 rfl ?_
  refine V_get (ci := 8) (v := .ref me) hC in_X8 0 rfl cls_X8 0 (by decide) fl_X8_12 rfl dX8_bitsEnded_6 ?_
  refine V_getN (ci := 4) (v := .int (nI b)) hC in_X4 1 rfl cls_X4 4 (by decide) fn_X8_105 rfl dX8_bitsEnded_9 ?_
  refine V_callvV (As := [.int (nI q), .int (nI b)]) (rest := []) (wr := [(o, .inr (8, [.ref me, .ref kc, .ref tc, .ref rd, .ref tx, .ref tb, .ref hi])), (me, .inr (4, [.ref ml, .int (nI n), .int (nI e), .int (nI p), .int (nI b)])), (ml, .inl (cI, 40, .inl (fun j => nI (g j)))), (tbr, .inl (cI, 658, .inl (fun j => nI (tg j)))), (tcs, .inl (cI, 40, .inl (fun j => nI (tcf j))))]) hC (c_X1_start l D cI cQ tc tco tsp tbi tcs tz tw tcr tT tH tp tb2 tl tu tbr tn q b tF ) mok_X1_start ml_X8_195 (q1 := 0) rfl cls_X1 rfl rfl rfl (by decide) (by decide) (by decide) (Nat.le_of_ble_eq_true rfl) [3, 4, 5, 6, 7] [0, 1, 2, 8, 9] rfl (by decide) rfl (by decide) (by decide) dX8_bitsEnded_12 rfl (fun u9 h12 => ?_)
  clear h12
  refine V_perm (ws2 := [(o, .inr (8, [.ref me, .ref kc, .ref tc, .ref rd, .ref tx, .ref tb, .ref hi])), (me, .inr (4, [.ref ml, .int (nI n), .int (nI e), .int (nI p), .int (nI b)])), (ml, .inl (cI, 40, .inl (fun j => nI (g j)))), (tc, .inr (1, [.ref tco, .ref tsp, .ref tbi, .ref tcs, .int (nI 0), .int (nI 0)])), (tco, .inr (2, [.ref tcr, .int (nI 9), .int (nI 0), .int (nI q), .int (nI b)])), (tcr, .inl (cI, 9, .inl (fun j => nI (one j)))), (tsp, .inr (6, [.int (nI 0), .int (nI 65535)])), (tbi, .inr (0, [.ref tbr, .int (nI 0)])), (tbr, .inl (cI, 658, .inl (fun j => nI (tg j)))), (tcs, .inl (cI, 40, .inl (fun j => nI (tcf j))))]) [0, 1, 2, 5, 6, 7, 8, 9, 3, 4] rfl (by decide) ?_
  refine V_aload_n hC dX8_bitsEnded_15 rfl 0 rfl ?_
  refine V_get (ci := 8) (v := .ref tc) hC in_X8 0 rfl cls_X8 2 (by decide) fl_X8_23 rfl dX8_bitsEnded_16 ?_
  refine V_aload_n hC dX8_bitsEnded_19 rfl 0 rfl ?_
  refine V_get (ci := 8) (v := .ref me) hC in_X8 0 rfl cls_X8 0 (by decide) fl_X8_12 rfl dX8_bitsEnded_20 ?_
  refine V_callvV (As := [.ref me]) (rest := []) (wr := [(o, .inr (8, [.ref me, .ref kc, .ref tc, .ref rd, .ref tx, .ref tb, .ref hi]))]) hC (c_X1_addAll l D cI cQ tc tco tsp tbi tcs tcr tbr q b me ml n e p b tg tcf g (hn) (hg) (hq9) (hb)) mok_X1_addAll ml_X8_198 (q1 := 0) rfl cls_X1 rfl rfl rfl (by decide) (by decide) (by decide) (Nat.le_of_ble_eq_true rfl) [3, 4, 5, 6, 7, 8, 9, 1, 2] [0] rfl (by decide) rfl (by decide) (by decide) dX8_bitsEnded_23 rfl (fun u9 h23 => ?_)
  obtain ⟨g2_1, cf2_2⟩ := u9
  have h23 : rep g2_1 (sB (cR q b g n)) ∧ ∀ j, j < n → cf2_2 j = cost q b g j := h23
  refine V_perm (ws2 := [(o, .inr (8, [.ref me, .ref kc, .ref tc, .ref rd, .ref tx, .ref tb, .ref hi])), (me, .inr (4, [.ref ml, .int (nI n), .int (nI e), .int (nI p), .int (nI b)])), (ml, .inl (cI, 40, .inl (fun j => nI (g j)))), (tc, .inr (1, [.ref tco, .ref tsp, .ref tbi, .ref tcs, .int (nI n), .int (nI (sW (cR q b g n)))])), (tco, .inr (2, [.ref tcr, .int (nI (sT (cR q b g n))), .int (nI (sH (cR q b g n))), .int (nI q), .int (nI b)])), (tcr, .inl (cI, 9, .inl (fun j => nI ((sF (cR q b g n)) j)))), (tsp, .inr (6, [.int (nI (sL (cR q b g n))), .int (nI (sU (cR q b g n)))])), (tbi, .inr (0, [.ref tbr, .int (nI ((sB (cR q b g n)).length))])), (tbr, .inl (cI, 658, .inl (fun j => nI (g2_1 j)))), (tcs, .inl (cI, 40, .inl (fun j => nI (cf2_2 j))))]) [0, 8, 9, 1, 2, 3, 4, 5, 6, 7] rfl (by decide) ?_
  refine V_aload_n hC dX8_bitsEnded_26 rfl 0 rfl ?_
  refine V_get (ci := 8) (v := .ref tc) hC in_X8 0 rfl cls_X8 2 (by decide) fl_X8_23 rfl dX8_bitsEnded_27 ?_
  refine V_callvV (As := []) (rest := []) (wr := [(o, .inr (8, [.ref me, .ref kc, .ref tc, .ref rd, .ref tx, .ref tb, .ref hi])), (me, .inr (4, [.ref ml, .int (nI n), .int (nI e), .int (nI p), .int (nI b)])), (ml, .inl (cI, 40, .inl (fun j => nI (g j)))), (tcs, .inl (cI, 40, .inl (fun j => nI (cf2_2 j))))]) hC (c_X1_close l D cI cQ tc tco tsp tbi tcs n tcr tbr q b (cR q b g n) g2_1 (cR_ok hq9 hb hg) (h23.1) (by have := cR_len q b g n; omega)) mok_X1_close ml_X8_78 (q1 := 0) rfl cls_X1 rfl rfl rfl (by decide) (by decide) (by decide) (Nat.le_of_ble_eq_true rfl) [3, 4, 5, 6, 7, 8] [0, 1, 2, 9] rfl (by decide) rfl (by decide) (by decide) dX8_bitsEnded_30 rfl (fun u9 h30 => ?_)
  obtain ⟨g2_3, rfl⟩ : ∃ z, z = u9 := ⟨_, rfl⟩
  have h30 : rep g2_3 (sB (cEnd (cR q b g n))) := h30
  refine V_perm (ws2 := [(o, .inr (8, [.ref me, .ref kc, .ref tc, .ref rd, .ref tx, .ref tb, .ref hi])), (me, .inr (4, [.ref ml, .int (nI n), .int (nI e), .int (nI p), .int (nI b)])), (ml, .inl (cI, 40, .inl (fun j => nI (g j)))), (tc, .inr (1, [.ref tco, .ref tsp, .ref tbi, .ref tcs, .int (nI n), .int (nI (sW (cEnd (cR q b g n))))])), (tco, .inr (2, [.ref tcr, .int (nI (sT (cEnd (cR q b g n)))), .int (nI (sH (cEnd (cR q b g n)))), .int (nI q), .int (nI b)])), (tcr, .inl (cI, 9, .inl (fun j => nI ((sF (cEnd (cR q b g n))) j)))), (tsp, .inr (6, [.int (nI (sL (cEnd (cR q b g n)))), .int (nI (sU (cEnd (cR q b g n))))])), (tbi, .inr (0, [.ref tbr, .int (nI ((sB (cEnd (cR q b g n))).length))])), (tbr, .inl (cI, 658, .inl (fun j => nI (g2_3 j)))), (tcs, .inl (cI, 40, .inl (fun j => nI (cf2_2 j))))]) [0, 1, 2, 4, 5, 6, 7, 8, 9, 3] rfl (by decide) ?_
  refine V_aload_n hC dX8_bitsEnded_33 rfl 0 rfl ?_
  refine V_get (ci := 8) (v := .ref tc) hC in_X8 0 rfl cls_X8 2 (by decide) fl_X8_23 rfl dX8_bitsEnded_34 ?_
  refine V_getN (ci := 1) (v := .ref tbi) hC in_X1 3 rfl cls_X1 2 (by decide) fn_X8_81 rfl dX8_bitsEnded_37 ?_
  refine V_getN (ci := 0) (v := .int (nI ((sB (cEnd (cR q b g n))).length))) hC in_X0 7 rfl cls_X0 1 (by decide) fn_X8_84 rfl dX8_bitsEnded_40 ?_
  subst hQ
  exact V_iret hC hr hlk rfl (by decide) (by decide) dX8_bitsEnded_43 ((g2_3, cf2_2)) [0, 1, 2, 3, 4, 5, 6, 7, 8, 9] rfl (by decide) (⟨rfl, trivial⟩)
abbrev rm_X8_bitsMoreWith_end : Room := { frames := 5, cells := 0, slots := 0, locals := 117 }
set_option maxHeartbeats 4000000 in
set_option maxRecDepth 100000 in
theorem c_X8_bitsMoreWith_end (l : Launch) (D : va_G) (cI cQ : ClassId) (o me kc tc rd tx tb hi ml tco tcr tsp tbi tbr tcs tz tw tT tH tp tb2 tl tu tn n e p b : Nat) (g tF tg tcf : Nat → Nat) (hn : n ≤ 40) (hg : ∀ j, j < n → g j < 8) (hp : p ≤ 64) (hb : b ≤ 2000) : MI l yX8_bitsMoreWith cX8_bitsMoreWith 3 (some .int) rm_X8_bitsMoreWith_end D (TY cI cQ) [.ref o, .int (nI 8)] [(o, .inr (8, [.ref me, .ref kc, .ref tc, .ref rd, .ref tx, .ref tb, .ref hi])), (me, .inr (4, [.ref ml, .int (nI n), .int (nI e), .int (nI p), .int (nI b)])), (ml, .inl (cI, 40, .inl (fun j => nI (g j)))), (tc, .inr (1, [.ref tco, .ref tsp, .ref tbi, .ref tcs, .int (nI tz), .int (nI tw)])), (tco, .inr (2, [.ref tcr, .int (nI tT), .int (nI tH), .int (nI tp), .int (nI tb2)])), (tcr, .inl (cI, 9, .inl (fun j => nI (tF j)))), (tsp, .inr (6, [.int (nI tl), .int (nI tu)])), (tbi, .inr (0, [.ref tbr, .int (nI tn)])), (tbr, .inl (cI, 658, .inl (fun j => nI (tg j)))), (tcs, .inl (cI, 40, .inl (fun j => nI (tcf j))))] (fun (r9 : Int32) (u : (Nat → Nat) × (Nat → Nat)) => r9 = (nI ((sB (cEnd (cR p b g n))).length - (sB (cR p b g n)).length)) ∧ (True)) (fun (u : (Nat → Nat) × (Nat → Nat)) => [(o, .inr (8, [.ref me, .ref kc, .ref tc, .ref rd, .ref tx, .ref tb, .ref hi])), (me, .inr (4, [.ref ml, .int (nI n), .int (nI e), .int (nI p), .int (nI b)])), (ml, .inl (cI, 40, .inl (fun j => nI (g j)))), (tc, .inr (1, [.ref tco, .ref tsp, .ref tbi, .ref tcs, .int (nI n), .int (nI (sW (cEnd (cR p b g n))))])), (tco, .inr (2, [.ref tcr, .int (nI (sT (cEnd (cR p b g n)))), .int (nI (sH (cEnd (cR p b g n)))), .int (nI p), .int (nI b)])), (tcr, .inl (cI, 9, .inl (fun j => nI ((sF (cEnd (cR p b g n))) j)))), (tsp, .inr (6, [.int (nI (sL (cEnd (cR p b g n)))), .int (nI (sU (cEnd (cR p b g n))))])), (tbi, .inr (0, [.ref tbr, .int (nI ((sB (cEnd (cR p b g n))).length))])), (tbr, .inl (cI, 658, .inl (fun j => nI (u.1 j)))), (tcs, .inl (cI, 40, .inl (fun j => nI (u.2 j))))]) 0 0 := by
  refine MI.start (by decide) (Nat.le_of_ble_eq_true rfl) (lv0 := [(0, .ref o), (1, .int (nI 8))]) rfl ?_
  intro pp9 ee9 ss9 mm9 args9 below9 meth9 co9 A9 Q9 hQ hC hr hlk hnm
  have hlen := cR_len p b g n
  have hle := cEnd_len (cR p b g n)
  refine V_aload_n hC dX8_bitsMoreWith_0 rfl 0 rfl ?_
  refine V_get (ci := 8) (v := .ref tc) hC in_X8 0 rfl cls_X8 2 (by decide) fl_X8_23 rfl dX8_bitsMoreWith_1 ?_
  refine V_aload_n hC dX8_bitsMoreWith_4 rfl 0 rfl ?_
  refine V_get (ci := 8) (v := .ref me) hC in_X8 0 rfl cls_X8 0 (by decide) fl_X8_12 rfl dX8_bitsMoreWith_5 ?_
  refine V_getN (ci := 4) (v := .int (nI p)) hC in_X4 1 rfl cls_X4 3 (by decide) fn_X8_102 rfl dX8_bitsMoreWith_8 ?_
  refine V_aload_n hC dX8_bitsMoreWith_11 rfl 0 rfl ?_
  refine V_get (ci := 8) (v := .ref me) hC in_X8 0 rfl cls_X8 0 (by decide) fl_X8_12 rfl dX8_bitsMoreWith_12 ?_
  refine V_getN (ci := 4) (v := .int (nI b)) hC in_X4 1 rfl cls_X4 4 (by decide) fn_X8_105 rfl dX8_bitsMoreWith_15 ?_
  refine V_callvV (As := [.int (nI p), .int (nI b)]) (rest := []) (wr := [(o, .inr (8, [.ref me, .ref kc, .ref tc, .ref rd, .ref tx, .ref tb, .ref hi])), (me, .inr (4, [.ref ml, .int (nI n), .int (nI e), .int (nI p), .int (nI b)])), (ml, .inl (cI, 40, .inl (fun j => nI (g j)))), (tbr, .inl (cI, 658, .inl (fun j => nI (tg j)))), (tcs, .inl (cI, 40, .inl (fun j => nI (tcf j))))]) hC (c_X1_start l D cI cQ tc tco tsp tbi tcs tz tw tcr tT tH tp tb2 tl tu tbr tn p b tF ) mok_X1_start ml_X8_195 (q1 := 0) rfl cls_X1 rfl rfl rfl (by decide) (by decide) (by decide) (Nat.le_of_ble_eq_true rfl) [3, 4, 5, 6, 7] [0, 1, 2, 8, 9] rfl (by decide) rfl (by decide) (by decide) dX8_bitsMoreWith_18 rfl (fun u9 h18 => ?_)
  clear h18
  refine V_perm (ws2 := [(o, .inr (8, [.ref me, .ref kc, .ref tc, .ref rd, .ref tx, .ref tb, .ref hi])), (me, .inr (4, [.ref ml, .int (nI n), .int (nI e), .int (nI p), .int (nI b)])), (ml, .inl (cI, 40, .inl (fun j => nI (g j)))), (tc, .inr (1, [.ref tco, .ref tsp, .ref tbi, .ref tcs, .int (nI 0), .int (nI 0)])), (tco, .inr (2, [.ref tcr, .int (nI 9), .int (nI 0), .int (nI p), .int (nI b)])), (tcr, .inl (cI, 9, .inl (fun j => nI (one j)))), (tsp, .inr (6, [.int (nI 0), .int (nI 65535)])), (tbi, .inr (0, [.ref tbr, .int (nI 0)])), (tbr, .inl (cI, 658, .inl (fun j => nI (tg j)))), (tcs, .inl (cI, 40, .inl (fun j => nI (tcf j))))]) [0, 1, 2, 5, 6, 7, 8, 9, 3, 4] rfl (by decide) ?_
  refine V_aload_n hC dX8_bitsMoreWith_21 rfl 0 rfl ?_
  refine V_get (ci := 8) (v := .ref tc) hC in_X8 0 rfl cls_X8 2 (by decide) fl_X8_23 rfl dX8_bitsMoreWith_22 ?_
  refine V_aload_n hC dX8_bitsMoreWith_25 rfl 0 rfl ?_
  refine V_get (ci := 8) (v := .ref me) hC in_X8 0 rfl cls_X8 0 (by decide) fl_X8_12 rfl dX8_bitsMoreWith_26 ?_
  refine V_callvV (As := [.ref me]) (rest := []) (wr := [(o, .inr (8, [.ref me, .ref kc, .ref tc, .ref rd, .ref tx, .ref tb, .ref hi]))]) hC (c_X1_addAll l D cI cQ tc tco tsp tbi tcs tcr tbr p b me ml n e p b tg tcf g (hn) (hg) (hp) (hb)) mok_X1_addAll ml_X8_198 (q1 := 0) rfl cls_X1 rfl rfl rfl (by decide) (by decide) (by decide) (Nat.le_of_ble_eq_true rfl) [3, 4, 5, 6, 7, 8, 9, 1, 2] [0] rfl (by decide) rfl (by decide) (by decide) dX8_bitsMoreWith_29 rfl (fun u9 h29 => ?_)
  obtain ⟨g2_1, cf2_2⟩ := u9
  have h29 : rep g2_1 (sB (cR p b g n)) ∧ ∀ j, j < n → cf2_2 j = cost p b g j := h29
  refine V_perm (ws2 := [(o, .inr (8, [.ref me, .ref kc, .ref tc, .ref rd, .ref tx, .ref tb, .ref hi])), (me, .inr (4, [.ref ml, .int (nI n), .int (nI e), .int (nI p), .int (nI b)])), (ml, .inl (cI, 40, .inl (fun j => nI (g j)))), (tc, .inr (1, [.ref tco, .ref tsp, .ref tbi, .ref tcs, .int (nI n), .int (nI (sW (cR p b g n)))])), (tco, .inr (2, [.ref tcr, .int (nI (sT (cR p b g n))), .int (nI (sH (cR p b g n))), .int (nI p), .int (nI b)])), (tcr, .inl (cI, 9, .inl (fun j => nI ((sF (cR p b g n)) j)))), (tsp, .inr (6, [.int (nI (sL (cR p b g n))), .int (nI (sU (cR p b g n)))])), (tbi, .inr (0, [.ref tbr, .int (nI ((sB (cR p b g n)).length))])), (tbr, .inl (cI, 658, .inl (fun j => nI (g2_1 j)))), (tcs, .inl (cI, 40, .inl (fun j => nI (cf2_2 j))))]) [0, 8, 9, 1, 2, 3, 4, 5, 6, 7] rfl (by decide) ?_
  refine V_iload_n hC dX8_bitsMoreWith_32 rfl 1 rfl ?_
  refine V_bipush (v := nI 8) hC dX8_bitsMoreWith_33 (by decide) ?_
  refine V_icmp_eq_T (tgt := 47) hC dX8_bitsMoreWith_35 (by decide) (congrArg nI (show 8 = 8 by omega)) ?_
  refine V_aload_n hC dX8_bitsMoreWith_47 rfl 0 rfl ?_
  refine V_get (ci := 8) (v := .ref tc) hC in_X8 0 rfl cls_X8 2 (by decide) fl_X8_23 rfl dX8_bitsMoreWith_48 ?_
  refine V_getN (ci := 1) (v := .ref tbi) hC in_X1 3 rfl cls_X1 2 (by decide) fn_X8_81 rfl dX8_bitsMoreWith_51 ?_
  refine V_getN (ci := 0) (v := .int (nI ((sB (cR p b g n)).length))) hC in_X0 7 rfl cls_X0 1 (by decide) fn_X8_84 rfl dX8_bitsMoreWith_54 ?_
  refine V_istore_n (lv2 := [(0, .ref o), (1, .int (nI 8)), (2, .int (nI ((sB (cR p b g n)).length)))]) hC dX8_bitsMoreWith_57 rfl (by decide) [1, 2, 0] rfl ?_
  refine V_aload_n hC dX8_bitsMoreWith_58 rfl 0 rfl ?_
  refine V_get (ci := 8) (v := .ref tc) hC in_X8 0 rfl cls_X8 2 (by decide) fl_X8_23 rfl dX8_bitsMoreWith_59 ?_
  refine V_callvV (As := []) (rest := []) (wr := [(o, .inr (8, [.ref me, .ref kc, .ref tc, .ref rd, .ref tx, .ref tb, .ref hi])), (me, .inr (4, [.ref ml, .int (nI n), .int (nI e), .int (nI p), .int (nI b)])), (ml, .inl (cI, 40, .inl (fun j => nI (g j)))), (tcs, .inl (cI, 40, .inl (fun j => nI (cf2_2 j))))]) hC (c_X1_close l D cI cQ tc tco tsp tbi tcs n tcr tbr p b (cR p b g n) g2_1 (cR_ok hp hb hg) (h29.1) (by omega)) mok_X1_close ml_X8_78 (q1 := 0) rfl cls_X1 rfl rfl rfl (by decide) (by decide) (by decide) (Nat.le_of_ble_eq_true rfl) [3, 4, 5, 6, 7, 8] [0, 1, 2, 9] rfl (by decide) rfl (by decide) (by decide) dX8_bitsMoreWith_62 rfl (fun u9 h62 => ?_)
  obtain ⟨g2_3, rfl⟩ : ∃ z, z = u9 := ⟨_, rfl⟩
  have h62 : rep g2_3 (sB (cEnd (cR p b g n))) := h62
  refine V_perm (ws2 := [(o, .inr (8, [.ref me, .ref kc, .ref tc, .ref rd, .ref tx, .ref tb, .ref hi])), (me, .inr (4, [.ref ml, .int (nI n), .int (nI e), .int (nI p), .int (nI b)])), (ml, .inl (cI, 40, .inl (fun j => nI (g j)))), (tc, .inr (1, [.ref tco, .ref tsp, .ref tbi, .ref tcs, .int (nI n), .int (nI (sW (cEnd (cR p b g n))))])), (tco, .inr (2, [.ref tcr, .int (nI (sT (cEnd (cR p b g n)))), .int (nI (sH (cEnd (cR p b g n)))), .int (nI p), .int (nI b)])), (tcr, .inl (cI, 9, .inl (fun j => nI ((sF (cEnd (cR p b g n))) j)))), (tsp, .inr (6, [.int (nI (sL (cEnd (cR p b g n)))), .int (nI (sU (cEnd (cR p b g n))))])), (tbi, .inr (0, [.ref tbr, .int (nI ((sB (cEnd (cR p b g n))).length))])), (tbr, .inl (cI, 658, .inl (fun j => nI (g2_3 j)))), (tcs, .inl (cI, 40, .inl (fun j => nI (cf2_2 j))))]) [0, 1, 2, 4, 5, 6, 7, 8, 9, 3] rfl (by decide) ?_
  refine V_aload_n hC dX8_bitsMoreWith_65 rfl 0 rfl ?_
  refine V_get (ci := 8) (v := .ref tc) hC in_X8 0 rfl cls_X8 2 (by decide) fl_X8_23 rfl dX8_bitsMoreWith_66 ?_
  refine V_getN (ci := 1) (v := .ref tbi) hC in_X1 3 rfl cls_X1 2 (by decide) fn_X8_81 rfl dX8_bitsMoreWith_69 ?_
  refine V_getN (ci := 0) (v := .int (nI ((sB (cEnd (cR p b g n))).length))) hC in_X0 7 rfl cls_X0 1 (by decide) fn_X8_84 rfl dX8_bitsMoreWith_72 ?_
  refine V_iload_n hC dX8_bitsMoreWith_75 rfl 2 rfl ?_
  refine V_isub hC dX8_bitsMoreWith_76 (by omega) ?_
  subst hQ
  exact V_iret hC hr hlk rfl (by decide) (by decide) dX8_bitsMoreWith_77 ((g2_3, cf2_2)) [0, 1, 2, 3, 4, 5, 6, 7, 8, 9] rfl (by decide) (⟨rfl, trivial⟩)
abbrev rm_X8_bitsMoreWith_add : Room := { frames := 5, cells := 0, slots := 0, locals := 117 }
set_option maxHeartbeats 4000000 in
set_option maxRecDepth 100000 in
theorem c_X8_bitsMoreWith_add (l : Launch) (D : va_G) (cI cQ : ClassId) (o me kc tc rd tx tb hi ml tco tcr tsp tbi tbr tcs tz tw tT tH tp tb2 tl tu tn n e p b k : Nat) (g tF tg tcf : Nat → Nat) (hn : n ≤ 40) (hg : ∀ j, j < n → g j < 8) (hp : p ≤ 64) (hb : b ≤ 2000) (hk : k < 8) (hz : n < 40) : MI l yX8_bitsMoreWith cX8_bitsMoreWith 3 (some .int) rm_X8_bitsMoreWith_add D (TY cI cQ) [.ref o, .int (nI k)] [(o, .inr (8, [.ref me, .ref kc, .ref tc, .ref rd, .ref tx, .ref tb, .ref hi])), (me, .inr (4, [.ref ml, .int (nI n), .int (nI e), .int (nI p), .int (nI b)])), (ml, .inl (cI, 40, .inl (fun j => nI (g j)))), (tc, .inr (1, [.ref tco, .ref tsp, .ref tbi, .ref tcs, .int (nI tz), .int (nI tw)])), (tco, .inr (2, [.ref tcr, .int (nI tT), .int (nI tH), .int (nI tp), .int (nI tb2)])), (tcr, .inl (cI, 9, .inl (fun j => nI (tF j)))), (tsp, .inr (6, [.int (nI tl), .int (nI tu)])), (tbi, .inr (0, [.ref tbr, .int (nI tn)])), (tbr, .inl (cI, 658, .inl (fun j => nI (tg j)))), (tcs, .inl (cI, 40, .inl (fun j => nI (tcf j))))] (fun (r9 : Int32) (u : (Nat → Nat) × (Nat → Nat)) => r9 = (nI ((sB (cAdd p b (cR p b g n) k)).length - (sB (cR p b g n)).length)) ∧ (True)) (fun (u : (Nat → Nat) × (Nat → Nat)) => [(o, .inr (8, [.ref me, .ref kc, .ref tc, .ref rd, .ref tx, .ref tb, .ref hi])), (me, .inr (4, [.ref ml, .int (nI n), .int (nI e), .int (nI p), .int (nI b)])), (ml, .inl (cI, 40, .inl (fun j => nI (g j)))), (tc, .inr (1, [.ref tco, .ref tsp, .ref tbi, .ref tcs, .int (nI (n + 1)), .int (nI (sW (cAdd p b (cR p b g n) k)))])), (tco, .inr (2, [.ref tcr, .int (nI (sT (cAdd p b (cR p b g n) k))), .int (nI (sH (cAdd p b (cR p b g n) k))), .int (nI p), .int (nI b)])), (tcr, .inl (cI, 9, .inl (fun j => nI ((sF (cAdd p b (cR p b g n) k)) j)))), (tsp, .inr (6, [.int (nI (sL (cAdd p b (cR p b g n) k))), .int (nI (sU (cAdd p b (cR p b g n) k)))])), (tbi, .inr (0, [.ref tbr, .int (nI ((sB (cAdd p b (cR p b g n) k)).length))])), (tbr, .inl (cI, 658, .inl (fun j => nI (u.1 j)))), (tcs, .inl (cI, 40, .inl (fun j => nI (u.2 j))))]) 0 0 := by
  refine MI.start (by decide) (Nat.le_of_ble_eq_true rfl) (lv0 := [(0, .ref o), (1, .int (nI k))]) rfl ?_
  intro pp9 ee9 ss9 mm9 args9 below9 meth9 co9 A9 Q9 hQ hC hr hlk hnm
  have hlen := cR_len p b g n
  have hle := cEnd_len (cR p b g n)
  refine V_aload_n hC dX8_bitsMoreWith_0 rfl 0 rfl ?_
  refine V_get (ci := 8) (v := .ref tc) hC in_X8 0 rfl cls_X8 2 (by decide) fl_X8_23 rfl dX8_bitsMoreWith_1 ?_
  refine V_aload_n hC dX8_bitsMoreWith_4 rfl 0 rfl ?_
  refine V_get (ci := 8) (v := .ref me) hC in_X8 0 rfl cls_X8 0 (by decide) fl_X8_12 rfl dX8_bitsMoreWith_5 ?_
  refine V_getN (ci := 4) (v := .int (nI p)) hC in_X4 1 rfl cls_X4 3 (by decide) fn_X8_102 rfl dX8_bitsMoreWith_8 ?_
  refine V_aload_n hC dX8_bitsMoreWith_11 rfl 0 rfl ?_
  refine V_get (ci := 8) (v := .ref me) hC in_X8 0 rfl cls_X8 0 (by decide) fl_X8_12 rfl dX8_bitsMoreWith_12 ?_
  refine V_getN (ci := 4) (v := .int (nI b)) hC in_X4 1 rfl cls_X4 4 (by decide) fn_X8_105 rfl dX8_bitsMoreWith_15 ?_
  refine V_callvV (As := [.int (nI p), .int (nI b)]) (rest := []) (wr := [(o, .inr (8, [.ref me, .ref kc, .ref tc, .ref rd, .ref tx, .ref tb, .ref hi])), (me, .inr (4, [.ref ml, .int (nI n), .int (nI e), .int (nI p), .int (nI b)])), (ml, .inl (cI, 40, .inl (fun j => nI (g j)))), (tbr, .inl (cI, 658, .inl (fun j => nI (tg j)))), (tcs, .inl (cI, 40, .inl (fun j => nI (tcf j))))]) hC (c_X1_start l D cI cQ tc tco tsp tbi tcs tz tw tcr tT tH tp tb2 tl tu tbr tn p b tF ) mok_X1_start ml_X8_195 (q1 := 0) rfl cls_X1 rfl rfl rfl (by decide) (by decide) (by decide) (Nat.le_of_ble_eq_true rfl) [3, 4, 5, 6, 7] [0, 1, 2, 8, 9] rfl (by decide) rfl (by decide) (by decide) dX8_bitsMoreWith_18 rfl (fun u9 h18 => ?_)
  clear h18
  refine V_perm (ws2 := [(o, .inr (8, [.ref me, .ref kc, .ref tc, .ref rd, .ref tx, .ref tb, .ref hi])), (me, .inr (4, [.ref ml, .int (nI n), .int (nI e), .int (nI p), .int (nI b)])), (ml, .inl (cI, 40, .inl (fun j => nI (g j)))), (tc, .inr (1, [.ref tco, .ref tsp, .ref tbi, .ref tcs, .int (nI 0), .int (nI 0)])), (tco, .inr (2, [.ref tcr, .int (nI 9), .int (nI 0), .int (nI p), .int (nI b)])), (tcr, .inl (cI, 9, .inl (fun j => nI (one j)))), (tsp, .inr (6, [.int (nI 0), .int (nI 65535)])), (tbi, .inr (0, [.ref tbr, .int (nI 0)])), (tbr, .inl (cI, 658, .inl (fun j => nI (tg j)))), (tcs, .inl (cI, 40, .inl (fun j => nI (tcf j))))]) [0, 1, 2, 5, 6, 7, 8, 9, 3, 4] rfl (by decide) ?_
  refine V_aload_n hC dX8_bitsMoreWith_21 rfl 0 rfl ?_
  refine V_get (ci := 8) (v := .ref tc) hC in_X8 0 rfl cls_X8 2 (by decide) fl_X8_23 rfl dX8_bitsMoreWith_22 ?_
  refine V_aload_n hC dX8_bitsMoreWith_25 rfl 0 rfl ?_
  refine V_get (ci := 8) (v := .ref me) hC in_X8 0 rfl cls_X8 0 (by decide) fl_X8_12 rfl dX8_bitsMoreWith_26 ?_
  refine V_callvV (As := [.ref me]) (rest := []) (wr := [(o, .inr (8, [.ref me, .ref kc, .ref tc, .ref rd, .ref tx, .ref tb, .ref hi]))]) hC (c_X1_addAll l D cI cQ tc tco tsp tbi tcs tcr tbr p b me ml n e p b tg tcf g (hn) (hg) (hp) (hb)) mok_X1_addAll ml_X8_198 (q1 := 0) rfl cls_X1 rfl rfl rfl (by decide) (by decide) (by decide) (Nat.le_of_ble_eq_true rfl) [3, 4, 5, 6, 7, 8, 9, 1, 2] [0] rfl (by decide) rfl (by decide) (by decide) dX8_bitsMoreWith_29 rfl (fun u9 h29 => ?_)
  obtain ⟨g2_1, cf2_2⟩ := u9
  have h29 : rep g2_1 (sB (cR p b g n)) ∧ ∀ j, j < n → cf2_2 j = cost p b g j := h29
  refine V_perm (ws2 := [(o, .inr (8, [.ref me, .ref kc, .ref tc, .ref rd, .ref tx, .ref tb, .ref hi])), (me, .inr (4, [.ref ml, .int (nI n), .int (nI e), .int (nI p), .int (nI b)])), (ml, .inl (cI, 40, .inl (fun j => nI (g j)))), (tc, .inr (1, [.ref tco, .ref tsp, .ref tbi, .ref tcs, .int (nI n), .int (nI (sW (cR p b g n)))])), (tco, .inr (2, [.ref tcr, .int (nI (sT (cR p b g n))), .int (nI (sH (cR p b g n))), .int (nI p), .int (nI b)])), (tcr, .inl (cI, 9, .inl (fun j => nI ((sF (cR p b g n)) j)))), (tsp, .inr (6, [.int (nI (sL (cR p b g n))), .int (nI (sU (cR p b g n)))])), (tbi, .inr (0, [.ref tbr, .int (nI ((sB (cR p b g n)).length))])), (tbr, .inl (cI, 658, .inl (fun j => nI (g2_1 j)))), (tcs, .inl (cI, 40, .inl (fun j => nI (cf2_2 j))))]) [0, 8, 9, 1, 2, 3, 4, 5, 6, 7] rfl (by decide) ?_
  refine V_iload_n hC dX8_bitsMoreWith_32 rfl 1 rfl ?_
  refine V_bipush (v := nI 8) hC dX8_bitsMoreWith_33 (by decide) ?_
  refine V_icmp_eq_F (tgt := 47) hC dX8_bitsMoreWith_35 (by decide) (fun z => absurd ((nI_eq (by omega) (by omega)).mp z) (show ¬ k = 8 by omega)) ?_
  refine V_aload_n hC dX8_bitsMoreWith_38 rfl 0 rfl ?_
  refine V_get (ci := 8) (v := .ref tc) hC in_X8 0 rfl cls_X8 2 (by decide) fl_X8_23 rfl dX8_bitsMoreWith_39 ?_
  refine V_iload_n hC dX8_bitsMoreWith_42 rfl 1 rfl ?_
  refine V_calliV (As := [.int (nI k)]) (rest := []) (wr := [(o, .inr (8, [.ref me, .ref kc, .ref tc, .ref rd, .ref tx, .ref tb, .ref hi])), (me, .inr (4, [.ref ml, .int (nI n), .int (nI e), .int (nI p), .int (nI b)])), (ml, .inl (cI, 40, .inl (fun j => nI (g j))))]) hC (c_X1_add l D cI cQ tc tco tsp tbi tcs n tcr tbr p b k (cR p b g n) g2_1 cf2_2 (by omega) (cR_ok hp hb hg) (hp) (hb) (h29.1) (by omega) (by omega)) mok_X1_add ml_X8_74 (q1 := 0) rfl cls_X1 rfl rfl rfl (by decide) (by decide) (by decide) (Nat.le_of_ble_eq_true rfl) [3, 4, 5, 6, 7, 8, 9] [0, 1, 2] rfl (by decide) rfl (by decide) (by decide) dX8_bitsMoreWith_43 rfl (fun r9 u9 h43 => ?_)
  obtain ⟨g2_3, rfl⟩ : ∃ z, z = u9 := ⟨_, rfl⟩
  obtain ⟨rfl, h43⟩ := h43
  have h43 : rep g2_3 (sB (cAdd p b (cR p b g n) k)) := h43
  refine V_perm (ws2 := [(o, .inr (8, [.ref me, .ref kc, .ref tc, .ref rd, .ref tx, .ref tb, .ref hi])), (me, .inr (4, [.ref ml, .int (nI n), .int (nI e), .int (nI p), .int (nI b)])), (ml, .inl (cI, 40, .inl (fun j => nI (g j)))), (tc, .inr (1, [.ref tco, .ref tsp, .ref tbi, .ref tcs, .int (nI (n + 1)), .int (nI (sW (cAdd p b (cR p b g n) k)))])), (tco, .inr (2, [.ref tcr, .int (nI (sT (cAdd p b (cR p b g n) k))), .int (nI (sH (cAdd p b (cR p b g n) k))), .int (nI p), .int (nI b)])), (tcr, .inl (cI, 9, .inl (fun j => nI ((sF (cAdd p b (cR p b g n) k)) j)))), (tsp, .inr (6, [.int (nI (sL (cAdd p b (cR p b g n) k))), .int (nI (sU (cAdd p b (cR p b g n) k)))])), (tbi, .inr (0, [.ref tbr, .int (nI ((sB (cAdd p b (cR p b g n) k)).length))])), (tbr, .inl (cI, 658, .inl (fun j => nI (g2_3 j)))), (tcs, .inl (cI, 40, .inl (fun j => nI ((va_up cf2_2 n ((sB (cAdd p b (cR p b g n) k)).length - (sB (cR p b g n)).length)) j))))]) [0, 1, 2, 3, 4, 5, 6, 7, 8, 9] rfl (by decide) ?_
  subst hQ
  exact V_iret hC hr hlk rfl (by decide) (by decide) dX8_bitsMoreWith_46 ((g2_3, va_up cf2_2 n ((sB (cAdd p b (cR p b g n) k)).length - (sB (cR p b g n)).length))) [0, 1, 2, 3, 4, 5, 6, 7, 8, 9] rfl (by decide) (⟨rfl, trivial⟩)
abbrev rm_X8_bitsMoreWith_full : Room := { frames := 5, cells := 0, slots := 0, locals := 117 }
set_option maxHeartbeats 4000000 in
set_option maxRecDepth 100000 in
theorem c_X8_bitsMoreWith_full (l : Launch) (D : va_G) (cI cQ : ClassId) (o me kc tc rd tx tb hi ml tco tcr tsp tbi tbr tcs tz tw tT tH tp tb2 tl tu tn n e p b k : Nat) (g tF tg tcf : Nat → Nat) (hn : n ≤ 40) (hg : ∀ j, j < n → g j < 8) (hp : p ≤ 64) (hb : b ≤ 2000) (hk : k < 8) (hz : 40 ≤ n) : MI l yX8_bitsMoreWith cX8_bitsMoreWith 3 (some .int) rm_X8_bitsMoreWith_full D (TY cI cQ) [.ref o, .int (nI k)] [(o, .inr (8, [.ref me, .ref kc, .ref tc, .ref rd, .ref tx, .ref tb, .ref hi])), (me, .inr (4, [.ref ml, .int (nI n), .int (nI e), .int (nI p), .int (nI b)])), (ml, .inl (cI, 40, .inl (fun j => nI (g j)))), (tc, .inr (1, [.ref tco, .ref tsp, .ref tbi, .ref tcs, .int (nI tz), .int (nI tw)])), (tco, .inr (2, [.ref tcr, .int (nI tT), .int (nI tH), .int (nI tp), .int (nI tb2)])), (tcr, .inl (cI, 9, .inl (fun j => nI (tF j)))), (tsp, .inr (6, [.int (nI tl), .int (nI tu)])), (tbi, .inr (0, [.ref tbr, .int (nI tn)])), (tbr, .inl (cI, 658, .inl (fun j => nI (tg j)))), (tcs, .inl (cI, 40, .inl (fun j => nI (tcf j))))] (fun (r9 : Int32) (u : (Nat → Nat) × (Nat → Nat)) => r9 = (nI ((sB (cAdd p b (cR p b g n) k)).length - (sB (cR p b g n)).length)) ∧ (True)) (fun (u : (Nat → Nat) × (Nat → Nat)) => [(o, .inr (8, [.ref me, .ref kc, .ref tc, .ref rd, .ref tx, .ref tb, .ref hi])), (me, .inr (4, [.ref ml, .int (nI n), .int (nI e), .int (nI p), .int (nI b)])), (ml, .inl (cI, 40, .inl (fun j => nI (g j)))), (tc, .inr (1, [.ref tco, .ref tsp, .ref tbi, .ref tcs, .int (nI n), .int (nI (sW (cAdd p b (cR p b g n) k)))])), (tco, .inr (2, [.ref tcr, .int (nI (sT (cAdd p b (cR p b g n) k))), .int (nI (sH (cAdd p b (cR p b g n) k))), .int (nI p), .int (nI b)])), (tcr, .inl (cI, 9, .inl (fun j => nI ((sF (cAdd p b (cR p b g n) k)) j)))), (tsp, .inr (6, [.int (nI (sL (cAdd p b (cR p b g n) k))), .int (nI (sU (cAdd p b (cR p b g n) k)))])), (tbi, .inr (0, [.ref tbr, .int (nI ((sB (cAdd p b (cR p b g n) k)).length))])), (tbr, .inl (cI, 658, .inl (fun j => nI (u.1 j)))), (tcs, .inl (cI, 40, .inl (fun j => nI (u.2 j))))]) 0 0 := by
  refine MI.start (by decide) (Nat.le_of_ble_eq_true rfl) (lv0 := [(0, .ref o), (1, .int (nI k))]) rfl ?_
  intro pp9 ee9 ss9 mm9 args9 below9 meth9 co9 A9 Q9 hQ hC hr hlk hnm
  have hlen := cR_len p b g n
  have hle := cEnd_len (cR p b g n)
  refine V_aload_n hC dX8_bitsMoreWith_0 rfl 0 rfl ?_
  refine V_get (ci := 8) (v := .ref tc) hC in_X8 0 rfl cls_X8 2 (by decide) fl_X8_23 rfl dX8_bitsMoreWith_1 ?_
  refine V_aload_n hC dX8_bitsMoreWith_4 rfl 0 rfl ?_
  refine V_get (ci := 8) (v := .ref me) hC in_X8 0 rfl cls_X8 0 (by decide) fl_X8_12 rfl dX8_bitsMoreWith_5 ?_
  refine V_getN (ci := 4) (v := .int (nI p)) hC in_X4 1 rfl cls_X4 3 (by decide) fn_X8_102 rfl dX8_bitsMoreWith_8 ?_
  refine V_aload_n hC dX8_bitsMoreWith_11 rfl 0 rfl ?_
  refine V_get (ci := 8) (v := .ref me) hC in_X8 0 rfl cls_X8 0 (by decide) fl_X8_12 rfl dX8_bitsMoreWith_12 ?_
  refine V_getN (ci := 4) (v := .int (nI b)) hC in_X4 1 rfl cls_X4 4 (by decide) fn_X8_105 rfl dX8_bitsMoreWith_15 ?_
  refine V_callvV (As := [.int (nI p), .int (nI b)]) (rest := []) (wr := [(o, .inr (8, [.ref me, .ref kc, .ref tc, .ref rd, .ref tx, .ref tb, .ref hi])), (me, .inr (4, [.ref ml, .int (nI n), .int (nI e), .int (nI p), .int (nI b)])), (ml, .inl (cI, 40, .inl (fun j => nI (g j)))), (tbr, .inl (cI, 658, .inl (fun j => nI (tg j)))), (tcs, .inl (cI, 40, .inl (fun j => nI (tcf j))))]) hC (c_X1_start l D cI cQ tc tco tsp tbi tcs tz tw tcr tT tH tp tb2 tl tu tbr tn p b tF ) mok_X1_start ml_X8_195 (q1 := 0) rfl cls_X1 rfl rfl rfl (by decide) (by decide) (by decide) (Nat.le_of_ble_eq_true rfl) [3, 4, 5, 6, 7] [0, 1, 2, 8, 9] rfl (by decide) rfl (by decide) (by decide) dX8_bitsMoreWith_18 rfl (fun u9 h18 => ?_)
  clear h18
  refine V_perm (ws2 := [(o, .inr (8, [.ref me, .ref kc, .ref tc, .ref rd, .ref tx, .ref tb, .ref hi])), (me, .inr (4, [.ref ml, .int (nI n), .int (nI e), .int (nI p), .int (nI b)])), (ml, .inl (cI, 40, .inl (fun j => nI (g j)))), (tc, .inr (1, [.ref tco, .ref tsp, .ref tbi, .ref tcs, .int (nI 0), .int (nI 0)])), (tco, .inr (2, [.ref tcr, .int (nI 9), .int (nI 0), .int (nI p), .int (nI b)])), (tcr, .inl (cI, 9, .inl (fun j => nI (one j)))), (tsp, .inr (6, [.int (nI 0), .int (nI 65535)])), (tbi, .inr (0, [.ref tbr, .int (nI 0)])), (tbr, .inl (cI, 658, .inl (fun j => nI (tg j)))), (tcs, .inl (cI, 40, .inl (fun j => nI (tcf j))))]) [0, 1, 2, 5, 6, 7, 8, 9, 3, 4] rfl (by decide) ?_
  refine V_aload_n hC dX8_bitsMoreWith_21 rfl 0 rfl ?_
  refine V_get (ci := 8) (v := .ref tc) hC in_X8 0 rfl cls_X8 2 (by decide) fl_X8_23 rfl dX8_bitsMoreWith_22 ?_
  refine V_aload_n hC dX8_bitsMoreWith_25 rfl 0 rfl ?_
  refine V_get (ci := 8) (v := .ref me) hC in_X8 0 rfl cls_X8 0 (by decide) fl_X8_12 rfl dX8_bitsMoreWith_26 ?_
  refine V_callvV (As := [.ref me]) (rest := []) (wr := [(o, .inr (8, [.ref me, .ref kc, .ref tc, .ref rd, .ref tx, .ref tb, .ref hi]))]) hC (c_X1_addAll l D cI cQ tc tco tsp tbi tcs tcr tbr p b me ml n e p b tg tcf g (hn) (hg) (hp) (hb)) mok_X1_addAll ml_X8_198 (q1 := 0) rfl cls_X1 rfl rfl rfl (by decide) (by decide) (by decide) (Nat.le_of_ble_eq_true rfl) [3, 4, 5, 6, 7, 8, 9, 1, 2] [0] rfl (by decide) rfl (by decide) (by decide) dX8_bitsMoreWith_29 rfl (fun u9 h29 => ?_)
  obtain ⟨g2_1, cf2_2⟩ := u9
  have h29 : rep g2_1 (sB (cR p b g n)) ∧ ∀ j, j < n → cf2_2 j = cost p b g j := h29
  refine V_perm (ws2 := [(o, .inr (8, [.ref me, .ref kc, .ref tc, .ref rd, .ref tx, .ref tb, .ref hi])), (me, .inr (4, [.ref ml, .int (nI n), .int (nI e), .int (nI p), .int (nI b)])), (ml, .inl (cI, 40, .inl (fun j => nI (g j)))), (tc, .inr (1, [.ref tco, .ref tsp, .ref tbi, .ref tcs, .int (nI n), .int (nI (sW (cR p b g n)))])), (tco, .inr (2, [.ref tcr, .int (nI (sT (cR p b g n))), .int (nI (sH (cR p b g n))), .int (nI p), .int (nI b)])), (tcr, .inl (cI, 9, .inl (fun j => nI ((sF (cR p b g n)) j)))), (tsp, .inr (6, [.int (nI (sL (cR p b g n))), .int (nI (sU (cR p b g n)))])), (tbi, .inr (0, [.ref tbr, .int (nI ((sB (cR p b g n)).length))])), (tbr, .inl (cI, 658, .inl (fun j => nI (g2_1 j)))), (tcs, .inl (cI, 40, .inl (fun j => nI (cf2_2 j))))]) [0, 8, 9, 1, 2, 3, 4, 5, 6, 7] rfl (by decide) ?_
  refine V_iload_n hC dX8_bitsMoreWith_32 rfl 1 rfl ?_
  refine V_bipush (v := nI 8) hC dX8_bitsMoreWith_33 (by decide) ?_
  refine V_icmp_eq_F (tgt := 47) hC dX8_bitsMoreWith_35 (by decide) (fun z => absurd ((nI_eq (by omega) (by omega)).mp z) (show ¬ k = 8 by omega)) ?_
  refine V_aload_n hC dX8_bitsMoreWith_38 rfl 0 rfl ?_
  refine V_get (ci := 8) (v := .ref tc) hC in_X8 0 rfl cls_X8 2 (by decide) fl_X8_23 rfl dX8_bitsMoreWith_39 ?_
  refine V_iload_n hC dX8_bitsMoreWith_42 rfl 1 rfl ?_
  refine V_calliV (As := [.int (nI k)]) (rest := []) (wr := [(o, .inr (8, [.ref me, .ref kc, .ref tc, .ref rd, .ref tx, .ref tb, .ref hi])), (me, .inr (4, [.ref ml, .int (nI n), .int (nI e), .int (nI p), .int (nI b)])), (ml, .inl (cI, 40, .inl (fun j => nI (g j))))]) hC (c_X1_add_full l D cI cQ tc tco tsp tbi tcs n tcr tbr p b k (cR p b g n) g2_1 cf2_2 (by omega) (cR_ok hp hb hg) (hp) (hb) (h29.1) (by omega) (by omega)) mok_X1_add ml_X8_74 (q1 := 0) rfl cls_X1 rfl rfl rfl (by decide) (by decide) (by decide) (Nat.le_of_ble_eq_true rfl) [3, 4, 5, 6, 7, 8, 9] [0, 1, 2] rfl (by decide) rfl (by decide) (by decide) dX8_bitsMoreWith_43 rfl (fun r9 u9 h43 => ?_)
  obtain ⟨g2_3, rfl⟩ : ∃ z, z = u9 := ⟨_, rfl⟩
  obtain ⟨rfl, h43⟩ := h43
  have h43 : rep g2_3 (sB (cAdd p b (cR p b g n) k)) := h43
  refine V_perm (ws2 := [(o, .inr (8, [.ref me, .ref kc, .ref tc, .ref rd, .ref tx, .ref tb, .ref hi])), (me, .inr (4, [.ref ml, .int (nI n), .int (nI e), .int (nI p), .int (nI b)])), (ml, .inl (cI, 40, .inl (fun j => nI (g j)))), (tc, .inr (1, [.ref tco, .ref tsp, .ref tbi, .ref tcs, .int (nI n), .int (nI (sW (cAdd p b (cR p b g n) k)))])), (tco, .inr (2, [.ref tcr, .int (nI (sT (cAdd p b (cR p b g n) k))), .int (nI (sH (cAdd p b (cR p b g n) k))), .int (nI p), .int (nI b)])), (tcr, .inl (cI, 9, .inl (fun j => nI ((sF (cAdd p b (cR p b g n) k)) j)))), (tsp, .inr (6, [.int (nI (sL (cAdd p b (cR p b g n) k))), .int (nI (sU (cAdd p b (cR p b g n) k)))])), (tbi, .inr (0, [.ref tbr, .int (nI ((sB (cAdd p b (cR p b g n) k)).length))])), (tbr, .inl (cI, 658, .inl (fun j => nI (g2_3 j)))), (tcs, .inl (cI, 40, .inl (fun j => nI (cf2_2 j))))]) [0, 1, 2, 3, 4, 5, 6, 7, 8, 9] rfl (by decide) ?_
  subst hQ
  exact V_iret hC hr hlk rfl (by decide) (by decide) dX8_bitsMoreWith_46 ((g2_3, cf2_2)) [0, 1, 2, 3, 4, 5, 6, 7, 8, 9] rfl (by decide) (⟨rfl, trivial⟩)
abbrev rm_X8_alikeFromFirst : Room := { frames := 1, cells := 0, slots := 0, locals := 21 }
set_option maxHeartbeats 4000000 in
set_option maxRecDepth 100000 in
theorem c_X8_alikeFromFirst (l : Launch) (D : va_G) (cI cQ : ClassId) (o me kc tc rd tx tb hi ml rco rsp rle rz rv rk ro n e p b : Nat) (g rlf : Nat → Nat) (hn : n ≤ 40) (hz : rz ≤ 40) (hg : ∀ j, j < n → g j < 100) (hr9 : ∀ j, j < rz → rlf j < 100) : MI l yX8_alikeFromFirst cX8_alikeFromFirst 3 (some .int) rm_X8_alikeFromFirst D (TY cI cQ) [.ref o] [(o, .inr (8, [.ref me, .ref kc, .ref tc, .ref rd, .ref tx, .ref tb, .ref hi])), (me, .inr (4, [.ref ml, .int (nI n), .int (nI e), .int (nI p), .int (nI b)])), (ml, .inl (cI, 40, .inl (fun j => nI (g j)))), (rd, .inr (5, [.ref rco, .ref rsp, .ref rle, .int (nI rz), .int (nI rv), .int (nI rk), .int (nI ro)])), (rle, .inl (cI, 40, .inl (fun j => nI (rlf j))))] (fun (r9 : Int32) (u : Unit) => r9 = (nI (alk rlf g (min rz n))) ∧ (True)) (fun (u : Unit) => [(o, .inr (8, [.ref me, .ref kc, .ref tc, .ref rd, .ref tx, .ref tb, .ref hi])), (me, .inr (4, [.ref ml, .int (nI n), .int (nI e), .int (nI p), .int (nI b)])), (ml, .inl (cI, 40, .inl (fun j => nI (g j)))), (rd, .inr (5, [.ref rco, .ref rsp, .ref rle, .int (nI rz), .int (nI rv), .int (nI rk), .int (nI ro)])), (rle, .inl (cI, 40, .inl (fun j => nI (rlf j))))]) 0 0 := by
  refine MI.start (by decide) (Nat.le_of_ble_eq_true rfl) (lv0 := [(0, .ref o)]) rfl ?_
  intro pp9 ee9 ss9 mm9 args9 below9 meth9 co9 A9 Q9 hQ hC hr hlk hnm
  refine V_aload_n hC dX8_alikeFromFirst_0 rfl 0 rfl ?_
  refine V_get (ci := 8) (v := .ref rd) hC in_X8 0 rfl cls_X8 3 (by decide) fl_X8_29 rfl dX8_alikeFromFirst_1 ?_
  refine V_getN (ci := 5) (v := .int (nI rz)) hC in_X5 3 rfl cls_X5 3 (by decide) fn_X8_172 rfl dX8_alikeFromFirst_4 ?_
  refine V_aload_n hC dX8_alikeFromFirst_7 rfl 0 rfl ?_
  refine V_get (ci := 8) (v := .ref me) hC in_X8 0 rfl cls_X8 0 (by decide) fl_X8_12 rfl dX8_alikeFromFirst_8 ?_
  refine V_getN (ci := 4) (v := .int (nI n)) hC in_X4 1 rfl cls_X4 1 (by decide) fn_X8_62 rfl dX8_alikeFromFirst_11 ?_
  refine V_mmin hC ml_X8_201 stt_min ini_Math cd_min (by omega) (by omega) (by decide) (Nat.le_of_ble_eq_true rfl) (by decide) (by decide) dX8_alikeFromFirst_14 ?_
  refine V_istore_n (lv2 := [(0, .ref o), (1, .int (nI (min rz n)))]) hC dX8_alikeFromFirst_17 rfl (by decide) [1, 0] rfl ?_
  refine V_iconst (v := nI 0) hC dX8_alikeFromFirst_18 (by decide) ?_
  refine V_istore_n (lv2 := [(0, .ref o), (1, .int (nI (min rz n))), (2, .int (nI 0))]) hC dX8_alikeFromFirst_19 rfl (by decide) [1, 2, 0] rfl ?_
  have L20 : ∀ (n9 : Nat) (i : Nat), (i ≤ min rz n) → (alA rlf g (min rz n - i) i = alk rlf g (min rz n)) → min rz n - i < n9 → V pp9 l ee9 rm_X8_alikeFromFirst ss9 mm9 args9 below9 meth9 co9 D A9 ss9.heap 3 Q9 [(o, .inr (8, [.ref me, .ref kc, .ref tc, .ref rd, .ref tx, .ref tb, .ref hi])), (me, .inr (4, [.ref ml, .int (nI n), .int (nI e), .int (nI p), .int (nI b)])), (ml, .inl (cI, 40, .inl (fun j => nI (g j)))), (rd, .inr (5, [.ref rco, .ref rsp, .ref rle, .int (nI rz), .int (nI rv), .int (nI rk), .int (nI ro)])), (rle, .inl (cI, 40, .inl (fun j => nI (rlf j))))] [(0, .ref o), (1, .int (nI (min rz n))), (2, .int (nI i))] 0 0 20 [] := by
    intro n9
    induction n9 with
    | zero => intro i h1 h2 h9; exact absurd h9 (Nat.not_lt_zero _)
    | succ n9 ih20 =>
      intro i h1 h2 h9
      refine V_iload_n hC dX8_alikeFromFirst_20 rfl 2 rfl ?_
      refine V_iload_n hC dX8_alikeFromFirst_21 rfl 1 rfl ?_
      refine V_icmp_ge (tgt := 52) hC (by omega) (by omega) dX8_alikeFromFirst_22 (by decide) (fun c22 => ?_) (fun c22 => ?_)
      · refine V_iload_n hC dX8_alikeFromFirst_52 rfl 1 rfl ?_
        subst hQ
        exact V_iret hC hr hlk rfl (by decide) (by decide) dX8_alikeFromFirst_53 (()) [0, 1, 2, 3, 4] rfl (by decide) (⟨by rw [← h2, show i = min rz n by omega, Nat.sub_self, alA], trivial⟩)
      · refine V_aload_n hC dX8_alikeFromFirst_25 rfl 0 rfl ?_
        refine V_get (ci := 8) (v := .ref rd) hC in_X8 0 rfl cls_X8 3 (by decide) fl_X8_29 rfl dX8_alikeFromFirst_26 ?_
        refine V_iload_n hC dX8_alikeFromFirst_29 rfl 2 rfl ?_
        refine V_calliV (As := [.int (nI i)]) (rest := []) (wr := [(o, .inr (8, [.ref me, .ref kc, .ref tc, .ref rd, .ref tx, .ref tb, .ref hi])), (me, .inr (4, [.ref ml, .int (nI n), .int (nI e), .int (nI p), .int (nI b)])), (ml, .inl (cI, 40, .inl (fun j => nI (g j))))]) hC (c_X5_letterAt l D cI cQ rd rco rsp rle rz rv rk ro i rlf (by omega)) mok_X5_letterAt ml_X8_194 (q1 := 0) rfl cls_X5 rfl rfl rfl (by decide) (by decide) (by decide) (Nat.le_of_ble_eq_true rfl) [3, 4] [0, 1, 2] rfl (by decide) rfl (by decide) (by decide) dX8_alikeFromFirst_30 rfl (fun r9 u9 h30 => ?_)
        obtain ⟨rfl, h30⟩ := h30
        clear h30
        refine V_perm (ws2 := [(o, .inr (8, [.ref me, .ref kc, .ref tc, .ref rd, .ref tx, .ref tb, .ref hi])), (me, .inr (4, [.ref ml, .int (nI n), .int (nI e), .int (nI p), .int (nI b)])), (ml, .inl (cI, 40, .inl (fun j => nI (g j)))), (rd, .inr (5, [.ref rco, .ref rsp, .ref rle, .int (nI rz), .int (nI rv), .int (nI rk), .int (nI ro)])), (rle, .inl (cI, 40, .inl (fun j => nI (rlf j))))]) [0, 1, 2, 3, 4] rfl (by decide) ?_
        refine V_aload_n hC dX8_alikeFromFirst_33 rfl 0 rfl ?_
        refine V_get (ci := 8) (v := .ref me) hC in_X8 0 rfl cls_X8 0 (by decide) fl_X8_12 rfl dX8_alikeFromFirst_34 ?_
        refine V_iload_n hC dX8_alikeFromFirst_37 rfl 2 rfl ?_
        refine V_calliV (As := [.int (nI i)]) (rest := [.int (nI (rlf i))]) (wr := [(o, .inr (8, [.ref me, .ref kc, .ref tc, .ref rd, .ref tx, .ref tb, .ref hi])), (rd, .inr (5, [.ref rco, .ref rsp, .ref rle, .int (nI rz), .int (nI rv), .int (nI rk), .int (nI ro)])), (rle, .inl (cI, 40, .inl (fun j => nI (rlf j))))]) hC (c_X4_letterAt l D cI cQ me ml n e p b i g (by omega)) mok_X4_letterAt ml_X8_108 (q1 := 0) rfl cls_X4 rfl rfl rfl (by decide) (by decide) (by decide) (Nat.le_of_ble_eq_true rfl) [1, 2] [0, 3, 4] rfl (by decide) rfl (by decide) (by decide) dX8_alikeFromFirst_38 rfl (fun r9 u9 h38 => ?_)
        obtain ⟨rfl, h38⟩ := h38
        clear h38
        refine V_perm (ws2 := [(o, .inr (8, [.ref me, .ref kc, .ref tc, .ref rd, .ref tx, .ref tb, .ref hi])), (me, .inr (4, [.ref ml, .int (nI n), .int (nI e), .int (nI p), .int (nI b)])), (ml, .inl (cI, 40, .inl (fun j => nI (g j)))), (rd, .inr (5, [.ref rco, .ref rsp, .ref rle, .int (nI rz), .int (nI rv), .int (nI rk), .int (nI ro)])), (rle, .inl (cI, 40, .inl (fun j => nI (rlf j))))]) [0, 3, 4, 1, 2] rfl (by decide) ?_
        have hg1 := hg i (by omega)
        have hr1 := hr9 i (by omega)
        refine V_icmp_eq (tgt := 46) hC (by omega) (by omega) dX8_alikeFromFirst_41 (by decide) (fun c41 => ?_) (fun c41 => ?_)
        · refine V_iinc (v := (nI (i + 1))) (lv2 := [(0, .ref o), (1, .int (nI (min rz n))), (2, .int (nI (i + 1)))]) (q := 2) hC dX8_alikeFromFirst_46 rfl (nI_add _ _) (by decide) [1, 2, 0] rfl ?_
          refine V_goto (tgt := 20) hC dX8_alikeFromFirst_49 (by decide) ?_
          exact ih20 (i + 1) (by omega) (by rw [← h2, show min rz n - i = (min rz n - (i + 1)) + 1 by omega, alA, if_pos c41]) (by omega)
        · refine V_iload_n hC dX8_alikeFromFirst_44 rfl 2 rfl ?_
          subst hQ
          exact V_iret hC hr hlk rfl (by decide) (by decide) dX8_alikeFromFirst_45 (()) [0, 1, 2, 3, 4] rfl (by decide) (⟨by rw [← h2, show min rz n - i = (min rz n - (i + 1)) + 1 by omega, alA, if_neg c41], trivial⟩)
  exact L20 _ 0 (by omega) (rfl) (Nat.lt_succ_self _)
abbrev rm_X8_faultReason_1 : Room := { frames := 1, cells := 0, slots := 0, locals := 21 }
set_option maxHeartbeats 4000000 in
set_option maxRecDepth 100000 in
theorem c_X8_faultReason_1 (l : Launch) (D : va_G) (cI cQ : ClassId) (o me kc tc rd tx tb hi ml rco rcr rsp rle txr tbw rz rv rk ro rT rH rp rb rl ru yn n e p b : Nat) (g rF rlf xf yg : Nat → Nat) (T : List Nat) (hT : rep xf T) (hT1 : T.length ≤ 120) (hT2 : ∀ j, j < T.length → T.getD j 0 < 1000) (hx : stT T < T.length) : MI l yX8_faultReason cX8_faultReason 1 (some .int) rm_X8_faultReason_1 D (TY cI cQ) [.ref o] [(o, .inr (8, [.ref me, .ref kc, .ref tc, .ref rd, .ref tx, .ref tb, .ref hi])), (me, .inr (4, [.ref ml, .int (nI n), .int (nI e), .int (nI p), .int (nI b)])), (ml, .inl (cI, 40, .inl (fun j => nI (g j)))), (rd, .inr (5, [.ref rco, .ref rsp, .ref rle, .int (nI rz), .int (nI rv), .int (nI rk), .int (nI ro)])), (rco, .inr (2, [.ref rcr, .int (nI rT), .int (nI rH), .int (nI rp), .int (nI rb)])), (rcr, .inl (cI, 9, .inl (fun j => nI (rF j)))), (rsp, .inr (6, [.int (nI rl), .int (nI ru)])), (rle, .inl (cI, 40, .inl (fun j => nI (rlf j)))), (tx, .inr (7, [.ref txr, .int (nI (T.length))])), (txr, .inl (cI, 120, .inl (fun j => nI (xf j)))), (tb, .inr (0, [.ref tbw, .int (nI yn)])), (tbw, .inl (cI, 658, .inl (fun j => nI (yg j))))] (fun (r9 : Int32) (u : Unit) => r9 = (nI 1) ∧ (True)) (fun (u : Unit) => [(o, .inr (8, [.ref me, .ref kc, .ref tc, .ref rd, .ref tx, .ref tb, .ref hi])), (me, .inr (4, [.ref ml, .int (nI n), .int (nI e), .int (nI p), .int (nI b)])), (ml, .inl (cI, 40, .inl (fun j => nI (g j)))), (rd, .inr (5, [.ref rco, .ref rsp, .ref rle, .int (nI rz), .int (nI rv), .int (nI rk), .int (nI ro)])), (rco, .inr (2, [.ref rcr, .int (nI rT), .int (nI rH), .int (nI rp), .int (nI rb)])), (rcr, .inl (cI, 9, .inl (fun j => nI (rF j)))), (rsp, .inr (6, [.int (nI rl), .int (nI ru)])), (rle, .inl (cI, 40, .inl (fun j => nI (rlf j)))), (tx, .inr (7, [.ref txr, .int (nI (T.length))])), (txr, .inl (cI, 120, .inl (fun j => nI (xf j)))), (tb, .inr (0, [.ref tbw, .int (nI yn)])), (tbw, .inl (cI, 658, .inl (fun j => nI (yg j))))]) 0 0 := by
  refine MI.start (by decide) (Nat.le_of_ble_eq_true rfl) (lv0 := [(0, .ref o)]) rfl ?_
  intro pp9 ee9 ss9 mm9 args9 below9 meth9 co9 A9 Q9 hQ hC hr hlk hnm
  have hstl : stT T ≤ T.length := st_le _ _
  have hxf : ∀ j, j < T.length → xf j < 1000 := fun j hj => by rw [hT j hj]; exact hT2 j hj
  have hst : st xf T.length = stT T := st_cong hT
  refine V_aload_n hC dX8_faultReason_0 rfl 0 rfl ?_
  refine V_get (ci := 8) (v := .ref tx) hC in_X8 0 rfl cls_X8 4 (by decide) fl_X8_36 rfl dX8_faultReason_1 ?_
  refine V_calliV (As := []) (rest := []) (wr := [(o, .inr (8, [.ref me, .ref kc, .ref tc, .ref rd, .ref tx, .ref tb, .ref hi])), (me, .inr (4, [.ref ml, .int (nI n), .int (nI e), .int (nI p), .int (nI b)])), (ml, .inl (cI, 40, .inl (fun j => nI (g j)))), (rd, .inr (5, [.ref rco, .ref rsp, .ref rle, .int (nI rz), .int (nI rv), .int (nI rk), .int (nI ro)])), (rco, .inr (2, [.ref rcr, .int (nI rT), .int (nI rH), .int (nI rp), .int (nI rb)])), (rcr, .inl (cI, 9, .inl (fun j => nI (rF j)))), (rsp, .inr (6, [.int (nI rl), .int (nI ru)])), (rle, .inl (cI, 40, .inl (fun j => nI (rlf j)))), (tb, .inr (0, [.ref tbw, .int (nI yn)])), (tbw, .inl (cI, 658, .inl (fun j => nI (yg j))))]) hC (c_X7_firstStrange l D cI cQ tx txr T.length xf (hT1) (hxf)) mok_X7_firstStrange ml_X8_207 (q1 := 0) rfl cls_X7 rfl rfl rfl (by decide) (by decide) (by decide) (Nat.le_of_ble_eq_true rfl) [8, 9] [0, 1, 2, 3, 4, 5, 6, 7, 10, 11] rfl (by decide) rfl (by decide) (by decide) dX8_faultReason_4 rfl (fun r9 u9 h4 => ?_)
  obtain ⟨rfl, h4⟩ := h4
  clear h4
  refine V_perm (ws2 := [(o, .inr (8, [.ref me, .ref kc, .ref tc, .ref rd, .ref tx, .ref tb, .ref hi])), (me, .inr (4, [.ref ml, .int (nI n), .int (nI e), .int (nI p), .int (nI b)])), (ml, .inl (cI, 40, .inl (fun j => nI (g j)))), (rd, .inr (5, [.ref rco, .ref rsp, .ref rle, .int (nI rz), .int (nI rv), .int (nI rk), .int (nI ro)])), (rco, .inr (2, [.ref rcr, .int (nI rT), .int (nI rH), .int (nI rp), .int (nI rb)])), (rcr, .inl (cI, 9, .inl (fun j => nI (rF j)))), (rsp, .inr (6, [.int (nI rl), .int (nI ru)])), (rle, .inl (cI, 40, .inl (fun j => nI (rlf j)))), (tx, .inr (7, [.ref txr, .int (nI (T.length))])), (txr, .inl (cI, 120, .inl (fun j => nI (xf j)))), (tb, .inr (0, [.ref tbw, .int (nI yn)])), (tbw, .inl (cI, 658, .inl (fun j => nI (yg j))))]) [0, 1, 2, 3, 4, 5, 6, 7, 10, 11, 8, 9] rfl (by decide) ?_
  refine V_st (st2 := [.int (nI (stT T))]) (by rw [show (st xf T.length) = (stT T) from hst]) ?_
  refine V_aload_n hC dX8_faultReason_7 rfl 0 rfl ?_
  refine V_get (ci := 8) (v := .ref tx) hC in_X8 0 rfl cls_X8 4 (by decide) fl_X8_36 rfl dX8_faultReason_8 ?_
  refine V_getN (ci := 7) (v := .int (nI (T.length))) hC in_X7 8 rfl cls_X7 1 (by decide) fn_X8_154 rfl dX8_faultReason_11 ?_
  refine V_icmp_ge_F (tgt := 19) hC dX8_faultReason_14 (by decide) (nI_ge (by omega) (by omega)) ?_
  refine V_iconst (v := nI 1) hC dX8_faultReason_17 (by decide) ?_
  subst hQ
  exact V_iret hC hr hlk rfl (by decide) (by decide) dX8_faultReason_18 (()) [0, 1, 2, 3, 4, 5, 6, 7, 8, 9, 10, 11] rfl (by decide) (⟨rfl, trivial⟩)
abbrev rm_X8_faultReason_n : Room := { frames := 5, cells := 0, slots := 0, locals := 119 }
set_option maxHeartbeats 4000000 in
set_option maxRecDepth 100000 in
theorem c_X8_faultReason_n (l : Launch) (D : va_G) (cI cQ : ClassId) (o me kc tc rd tx tb hi ml rco rcr rsp rle txr tbw rz rv rk ro rT rH rp rb rl ru yn n e p b : Nat) (g rF rlf xf yg : Nat → Nat) (T : List Nat) (hT : rep xf T) (hT1 : T.length ≤ 120) (hT2 : ∀ j, j < T.length → T.getD j 0 < 1000) (hx : T.length ≤ stT T) (hp : p ≤ 64) (hb : b ≤ 2000) : MI l yX8_faultReason cX8_faultReason 1 (some .int) rm_X8_faultReason_n D (TY cI cQ) [.ref o] [(o, .inr (8, [.ref me, .ref kc, .ref tc, .ref rd, .ref tx, .ref tb, .ref hi])), (me, .inr (4, [.ref ml, .int (nI n), .int (nI e), .int (nI p), .int (nI b)])), (ml, .inl (cI, 40, .inl (fun j => nI (g j)))), (rd, .inr (5, [.ref rco, .ref rsp, .ref rle, .int (nI rz), .int (nI rv), .int (nI rk), .int (nI ro)])), (rco, .inr (2, [.ref rcr, .int (nI rT), .int (nI rH), .int (nI rp), .int (nI rb)])), (rcr, .inl (cI, 9, .inl (fun j => nI (rF j)))), (rsp, .inr (6, [.int (nI rl), .int (nI ru)])), (rle, .inl (cI, 40, .inl (fun j => nI (rlf j)))), (tx, .inr (7, [.ref txr, .int (nI (T.length))])), (txr, .inl (cI, 120, .inl (fun j => nI (xf j)))), (tb, .inr (0, [.ref tbw, .int (nI yn)])), (tbw, .inl (cI, 658, .inl (fun j => nI (yg j))))] (fun (r9 : Int32) (u : (Nat → Nat) × (Nat → Nat)) => r9 = (nI (frn p b T)) ∧ (rep u.1 (qR (rdF p b (bT T)).2) ∧ ∀ j, j < T.length → u.2 j = bT T j)) (fun (u : (Nat → Nat) × (Nat → Nat)) => [(o, .inr (8, [.ref me, .ref kc, .ref tc, .ref rd, .ref tx, .ref tb, .ref hi])), (me, .inr (4, [.ref ml, .int (nI n), .int (nI e), .int (nI p), .int (nI b)])), (ml, .inl (cI, 40, .inl (fun j => nI (g j)))), (rd, .inr (5, [.ref rco, .ref rsp, .ref rle, .int (nI ((qR ((rdF p b (bT T)).2)).length)), .int (nI (qV ((rdF p b (bT T)).2))), .int (nI (qK ((rdF p b (bT T)).2))), .int (nI ((rdF p b (bT T)).1))])), (rco, .inr (2, [.ref rcr, .int (nI (qT ((rdF p b (bT T)).2))), .int (nI (qH ((rdF p b (bT T)).2))), .int (nI p), .int (nI b)])), (rcr, .inl (cI, 9, .inl (fun j => nI ((qF ((rdF p b (bT T)).2)) j)))), (rsp, .inr (6, [.int (nI (qL ((rdF p b (bT T)).2))), .int (nI (qU ((rdF p b (bT T)).2)))])), (rle, .inl (cI, 40, .inl (fun j => nI (u.1 j)))), (tx, .inr (7, [.ref txr, .int (nI (T.length))])), (txr, .inl (cI, 120, .inl (fun j => nI (xf j)))), (tb, .inr (0, [.ref tbw, .int (nI (T.length))])), (tbw, .inl (cI, 658, .inl (fun j => nI (u.2 j))))]) 0 0 := by
  refine MI.start (by decide) (Nat.le_of_ble_eq_true rfl) (lv0 := [(0, .ref o)]) rfl ?_
  intro pp9 ee9 ss9 mm9 args9 below9 meth9 co9 A9 Q9 hQ hC hr hlk hnm
  have hstl : stT T ≤ T.length := st_le _ _
  have hxf : ∀ j, j < T.length → xf j < 1000 := fun j hj => by rw [hT j hj]; exact hT2 j hj
  have hst : st xf T.length = stT T := st_cong hT
  refine V_aload_n hC dX8_faultReason_0 rfl 0 rfl ?_
  refine V_get (ci := 8) (v := .ref tx) hC in_X8 0 rfl cls_X8 4 (by decide) fl_X8_36 rfl dX8_faultReason_1 ?_
  refine V_calliV (As := []) (rest := []) (wr := [(o, .inr (8, [.ref me, .ref kc, .ref tc, .ref rd, .ref tx, .ref tb, .ref hi])), (me, .inr (4, [.ref ml, .int (nI n), .int (nI e), .int (nI p), .int (nI b)])), (ml, .inl (cI, 40, .inl (fun j => nI (g j)))), (rd, .inr (5, [.ref rco, .ref rsp, .ref rle, .int (nI rz), .int (nI rv), .int (nI rk), .int (nI ro)])), (rco, .inr (2, [.ref rcr, .int (nI rT), .int (nI rH), .int (nI rp), .int (nI rb)])), (rcr, .inl (cI, 9, .inl (fun j => nI (rF j)))), (rsp, .inr (6, [.int (nI rl), .int (nI ru)])), (rle, .inl (cI, 40, .inl (fun j => nI (rlf j)))), (tb, .inr (0, [.ref tbw, .int (nI yn)])), (tbw, .inl (cI, 658, .inl (fun j => nI (yg j))))]) hC (c_X7_firstStrange l D cI cQ tx txr T.length xf (hT1) (hxf)) mok_X7_firstStrange ml_X8_207 (q1 := 0) rfl cls_X7 rfl rfl rfl (by decide) (by decide) (by decide) (Nat.le_of_ble_eq_true rfl) [8, 9] [0, 1, 2, 3, 4, 5, 6, 7, 10, 11] rfl (by decide) rfl (by decide) (by decide) dX8_faultReason_4 rfl (fun r9 u9 h4 => ?_)
  obtain ⟨rfl, h4⟩ := h4
  clear h4
  refine V_perm (ws2 := [(o, .inr (8, [.ref me, .ref kc, .ref tc, .ref rd, .ref tx, .ref tb, .ref hi])), (me, .inr (4, [.ref ml, .int (nI n), .int (nI e), .int (nI p), .int (nI b)])), (ml, .inl (cI, 40, .inl (fun j => nI (g j)))), (rd, .inr (5, [.ref rco, .ref rsp, .ref rle, .int (nI rz), .int (nI rv), .int (nI rk), .int (nI ro)])), (rco, .inr (2, [.ref rcr, .int (nI rT), .int (nI rH), .int (nI rp), .int (nI rb)])), (rcr, .inl (cI, 9, .inl (fun j => nI (rF j)))), (rsp, .inr (6, [.int (nI rl), .int (nI ru)])), (rle, .inl (cI, 40, .inl (fun j => nI (rlf j)))), (tx, .inr (7, [.ref txr, .int (nI (T.length))])), (txr, .inl (cI, 120, .inl (fun j => nI (xf j)))), (tb, .inr (0, [.ref tbw, .int (nI yn)])), (tbw, .inl (cI, 658, .inl (fun j => nI (yg j))))]) [0, 1, 2, 3, 4, 5, 6, 7, 10, 11, 8, 9] rfl (by decide) ?_
  refine V_st (st2 := [.int (nI (stT T))]) (by rw [show (st xf T.length) = (stT T) from hst]) ?_
  refine V_aload_n hC dX8_faultReason_7 rfl 0 rfl ?_
  refine V_get (ci := 8) (v := .ref tx) hC in_X8 0 rfl cls_X8 4 (by decide) fl_X8_36 rfl dX8_faultReason_8 ?_
  refine V_getN (ci := 7) (v := .int (nI (T.length))) hC in_X7 8 rfl cls_X7 1 (by decide) fn_X8_154 rfl dX8_faultReason_11 ?_
  refine V_icmp_ge_T (tgt := 19) hC dX8_faultReason_14 (by decide) (nI_le (by omega) (by omega)) ?_
  refine V_aload_n hC dX8_faultReason_19 rfl 0 rfl ?_
  refine V_get (ci := 8) (v := .ref tx) hC in_X8 0 rfl cls_X8 4 (by decide) fl_X8_36 rfl dX8_faultReason_20 ?_
  refine V_aload_n hC dX8_faultReason_23 rfl 0 rfl ?_
  refine V_get (ci := 8) (v := .ref tb) hC in_X8 0 rfl cls_X8 5 (by decide) fl_X8_43 rfl dX8_faultReason_24 ?_
  refine V_callvV (As := [.ref tb]) (rest := []) (wr := [(o, .inr (8, [.ref me, .ref kc, .ref tc, .ref rd, .ref tx, .ref tb, .ref hi])), (me, .inr (4, [.ref ml, .int (nI n), .int (nI e), .int (nI p), .int (nI b)])), (ml, .inl (cI, 40, .inl (fun j => nI (g j)))), (rd, .inr (5, [.ref rco, .ref rsp, .ref rle, .int (nI rz), .int (nI rv), .int (nI rk), .int (nI ro)])), (rco, .inr (2, [.ref rcr, .int (nI rT), .int (nI rH), .int (nI rp), .int (nI rb)])), (rcr, .inl (cI, 9, .inl (fun j => nI (rF j)))), (rsp, .inr (6, [.int (nI rl), .int (nI ru)])), (rle, .inl (cI, 40, .inl (fun j => nI (rlf j))))]) hC (c_X7_copyTo l D cI cQ tx txr T.length tb tbw yn xf yg (hT1) (hxf)) mok_X7_copyTo ml_X8_210 (q1 := 0) rfl cls_X7 rfl rfl rfl (by decide) (by decide) (by decide) (Nat.le_of_ble_eq_true rfl) [8, 9, 10, 11] [0, 1, 2, 3, 4, 5, 6, 7] rfl (by decide) rfl (by decide) (by decide) dX8_faultReason_27 rfl (fun u9 h27 => ?_)
  obtain ⟨g2_1, rfl⟩ : ∃ z, z = u9 := ⟨_, rfl⟩
  have h27 : ∀ j, j < T.length → g2_1 j = if xf j = 49 then 1 else 0 := h27
  refine V_perm (ws2 := [(o, .inr (8, [.ref me, .ref kc, .ref tc, .ref rd, .ref tx, .ref tb, .ref hi])), (me, .inr (4, [.ref ml, .int (nI n), .int (nI e), .int (nI p), .int (nI b)])), (ml, .inl (cI, 40, .inl (fun j => nI (g j)))), (rd, .inr (5, [.ref rco, .ref rsp, .ref rle, .int (nI rz), .int (nI rv), .int (nI rk), .int (nI ro)])), (rco, .inr (2, [.ref rcr, .int (nI rT), .int (nI rH), .int (nI rp), .int (nI rb)])), (rcr, .inl (cI, 9, .inl (fun j => nI (rF j)))), (rsp, .inr (6, [.int (nI rl), .int (nI ru)])), (rle, .inl (cI, 40, .inl (fun j => nI (rlf j)))), (tx, .inr (7, [.ref txr, .int (nI (T.length))])), (txr, .inl (cI, 120, .inl (fun j => nI (xf j)))), (tb, .inr (0, [.ref tbw, .int (nI (T.length))])), (tbw, .inl (cI, 658, .inl (fun j => nI (g2_1 j))))]) [0, 1, 2, 3, 4, 5, 6, 7, 8, 9, 10, 11] rfl (by decide) ?_
  have hyb : ∀ j, j < T.length → g2_1 j = bT T j := fun j hj => by
    rw [h27 j hj, hT j hj]; exact (if_pos hj).symm
  have hyβ : ∀ j, (if j < T.length then g2_1 j else 0) = bT T j := fun j => by
    by_cases q : j < T.length
    · rw [if_pos q, hyb j q]
    · rw [if_neg q]; exact (if_neg q).symm
  refine V_aload_n hC dX8_faultReason_30 rfl 0 rfl ?_
  refine V_get (ci := 8) (v := .ref rd) hC in_X8 0 rfl cls_X8 3 (by decide) fl_X8_29 rfl dX8_faultReason_31 ?_
  refine V_aload_n hC dX8_faultReason_34 rfl 0 rfl ?_
  refine V_get (ci := 8) (v := .ref tb) hC in_X8 0 rfl cls_X8 5 (by decide) fl_X8_43 rfl dX8_faultReason_35 ?_
  refine V_aload_n hC dX8_faultReason_38 rfl 0 rfl ?_
  refine V_get (ci := 8) (v := .ref me) hC in_X8 0 rfl cls_X8 0 (by decide) fl_X8_12 rfl dX8_faultReason_39 ?_
  refine V_getN (ci := 4) (v := .int (nI p)) hC in_X4 1 rfl cls_X4 3 (by decide) fn_X8_102 rfl dX8_faultReason_42 ?_
  refine V_aload_n hC dX8_faultReason_45 rfl 0 rfl ?_
  refine V_get (ci := 8) (v := .ref me) hC in_X8 0 rfl cls_X8 0 (by decide) fl_X8_12 rfl dX8_faultReason_46 ?_
  refine V_getN (ci := 4) (v := .int (nI b)) hC in_X4 1 rfl cls_X4 4 (by decide) fn_X8_105 rfl dX8_faultReason_49 ?_
  refine V_callvV (As := [.ref tb, .int (nI p), .int (nI b)]) (rest := []) (wr := [(o, .inr (8, [.ref me, .ref kc, .ref tc, .ref rd, .ref tx, .ref tb, .ref hi])), (me, .inr (4, [.ref ml, .int (nI n), .int (nI e), .int (nI p), .int (nI b)])), (ml, .inl (cI, 40, .inl (fun j => nI (g j)))), (tx, .inr (7, [.ref txr, .int (nI (T.length))])), (txr, .inl (cI, 120, .inl (fun j => nI (xf j))))]) hC (c_X5_read l D cI cQ rd rco rsp rle rz rv rk ro rcr rT rH rp rb rl ru tb tbw T.length p b rF rlf g2_1 (bT T) (by omega) (hyβ) (bT2 T) (hp) (hb)) mok_X5_read ml_X8_168 (q1 := 0) rfl cls_X5 rfl rfl rfl (by decide) (by decide) (by decide) (Nat.le_of_ble_eq_true rfl) [3, 4, 5, 6, 7, 10, 11] [0, 1, 2, 8, 9] rfl (by decide) rfl (by decide) (by decide) dX8_faultReason_52 rfl (fun u9 h52 => ?_)
  obtain ⟨lf2_2, rfl⟩ : ∃ z, z = u9 := ⟨_, rfl⟩
  have h52 : rep lf2_2 (qR (rdF p b (bT T)).2) := h52
  refine V_perm (ws2 := [(o, .inr (8, [.ref me, .ref kc, .ref tc, .ref rd, .ref tx, .ref tb, .ref hi])), (me, .inr (4, [.ref ml, .int (nI n), .int (nI e), .int (nI p), .int (nI b)])), (ml, .inl (cI, 40, .inl (fun j => nI (g j)))), (rd, .inr (5, [.ref rco, .ref rsp, .ref rle, .int (nI ((qR ((rdF p b (bT T)).2)).length)), .int (nI (qV ((rdF p b (bT T)).2))), .int (nI (qK ((rdF p b (bT T)).2))), .int (nI ((rdF p b (bT T)).1))])), (rco, .inr (2, [.ref rcr, .int (nI (qT ((rdF p b (bT T)).2))), .int (nI (qH ((rdF p b (bT T)).2))), .int (nI p), .int (nI b)])), (rcr, .inl (cI, 9, .inl (fun j => nI ((qF ((rdF p b (bT T)).2)) j)))), (rsp, .inr (6, [.int (nI (qL ((rdF p b (bT T)).2))), .int (nI (qU ((rdF p b (bT T)).2)))])), (rle, .inl (cI, 40, .inl (fun j => nI (lf2_2 j)))), (tx, .inr (7, [.ref txr, .int (nI (T.length))])), (txr, .inl (cI, 120, .inl (fun j => nI (xf j)))), (tb, .inr (0, [.ref tbw, .int (nI (T.length))])), (tbw, .inl (cI, 658, .inl (fun j => nI (g2_1 j))))]) [0, 1, 2, 5, 6, 7, 8, 9, 3, 4, 10, 11] rfl (by decide) ?_
  have hok := rdd_ok (bT2 T) hp hb 41 (rd0 (bT T)) (okR_0 (bT2 T))
  have hov : (rdF p b (bT T)).1 < 2 := hok.2
  have hqk : qK (rdF p b (bT T)).2 ≤ 16 + 16 * (qR (rdF p b (bT T)).2).length := hok.1.2.2.2.2.2.1
  have hqr : (qR (rdF p b (bT T)).2).length ≤ 40 := hok.1.2.2.2.2.2.2
  refine V_aload_n hC dX8_faultReason_55 rfl 0 rfl ?_
  refine V_get (ci := 8) (v := .ref rd) hC in_X8 0 rfl cls_X8 3 (by decide) fl_X8_29 rfl dX8_faultReason_56 ?_
  refine V_getN (ci := 5) (v := .int (nI ((rdF p b (bT T)).1))) hC in_X5 3 rfl cls_X5 6 (by decide) fn_X8_173 rfl dX8_faultReason_59 ?_
  refine V_if_ne (tgt := 67) hC (by omega) dX8_faultReason_62 (by decide) (fun c62 => ?_) (fun c62 => ?_)
  · refine V_aload_n hC dX8_faultReason_67 rfl 0 rfl ?_
    refine V_get (ci := 8) (v := .ref tb) hC in_X8 0 rfl cls_X8 5 (by decide) fl_X8_43 rfl dX8_faultReason_68 ?_
    refine V_aload_n hC dX8_faultReason_71 rfl 0 rfl ?_
    refine V_get (ci := 8) (v := .ref rd) hC in_X8 0 rfl cls_X8 3 (by decide) fl_X8_29 rfl dX8_faultReason_72 ?_
    refine V_getN (ci := 5) (v := .int (nI (qK ((rdF p b (bT T)).2)))) hC in_X5 3 rfl cls_X5 5 (by decide) fn_X8_213 rfl dX8_faultReason_75 ?_
    refine V_calliV (As := [.int (nI (qK ((rdF p b (bT T)).2)))]) (rest := []) (wr := [(o, .inr (8, [.ref me, .ref kc, .ref tc, .ref rd, .ref tx, .ref tb, .ref hi])), (me, .inr (4, [.ref ml, .int (nI n), .int (nI e), .int (nI p), .int (nI b)])), (ml, .inl (cI, 40, .inl (fun j => nI (g j)))), (rd, .inr (5, [.ref rco, .ref rsp, .ref rle, .int (nI ((qR ((rdF p b (bT T)).2)).length)), .int (nI (qV ((rdF p b (bT T)).2))), .int (nI (qK ((rdF p b (bT T)).2))), .int (nI ((rdF p b (bT T)).1))])), (rco, .inr (2, [.ref rcr, .int (nI (qT ((rdF p b (bT T)).2))), .int (nI (qH ((rdF p b (bT T)).2))), .int (nI p), .int (nI b)])), (rcr, .inl (cI, 9, .inl (fun j => nI ((qF ((rdF p b (bT T)).2)) j)))), (rsp, .inr (6, [.int (nI (qL ((rdF p b (bT T)).2))), .int (nI (qU ((rdF p b (bT T)).2)))])), (rle, .inl (cI, 40, .inl (fun j => nI (lf2_2 j)))), (tx, .inr (7, [.ref txr, .int (nI (T.length))])), (txr, .inl (cI, 120, .inl (fun j => nI (xf j))))]) hC (c_X0_firstOne l D cI cQ tb tbw T.length (qK ((rdF p b (bT T)).2)) g2_1 (by omega) (by omega) (fun j hj => by rw [hyb j hj]; exact bT2 T j)) mok_X0_firstOne ml_X8_216 (q1 := 0) rfl cls_X0 rfl rfl rfl (by decide) (by decide) (by decide) (Nat.le_of_ble_eq_true rfl) [10, 11] [0, 1, 2, 3, 4, 5, 6, 7, 8, 9] rfl (by decide) rfl (by decide) (by decide) dX8_faultReason_78 rfl (fun r9 u9 h78 => ?_)
    obtain ⟨rfl, h78⟩ := h78
    clear h78
    refine V_perm (ws2 := [(o, .inr (8, [.ref me, .ref kc, .ref tc, .ref rd, .ref tx, .ref tb, .ref hi])), (me, .inr (4, [.ref ml, .int (nI n), .int (nI e), .int (nI p), .int (nI b)])), (ml, .inl (cI, 40, .inl (fun j => nI (g j)))), (rd, .inr (5, [.ref rco, .ref rsp, .ref rle, .int (nI ((qR ((rdF p b (bT T)).2)).length)), .int (nI (qV ((rdF p b (bT T)).2))), .int (nI (qK ((rdF p b (bT T)).2))), .int (nI ((rdF p b (bT T)).1))])), (rco, .inr (2, [.ref rcr, .int (nI (qT ((rdF p b (bT T)).2))), .int (nI (qH ((rdF p b (bT T)).2))), .int (nI p), .int (nI b)])), (rcr, .inl (cI, 9, .inl (fun j => nI ((qF ((rdF p b (bT T)).2)) j)))), (rsp, .inr (6, [.int (nI (qL ((rdF p b (bT T)).2))), .int (nI (qU ((rdF p b (bT T)).2)))])), (rle, .inl (cI, 40, .inl (fun j => nI (lf2_2 j)))), (tx, .inr (7, [.ref txr, .int (nI (T.length))])), (txr, .inl (cI, 120, .inl (fun j => nI (xf j)))), (tb, .inr (0, [.ref tbw, .int (nI (T.length))])), (tbw, .inl (cI, 658, .inl (fun j => nI (g2_1 j))))]) [0, 1, 2, 3, 4, 5, 6, 7, 8, 9, 10, 11] rfl (by decide) ?_
    refine V_st (st2 := [.int (nI (fO (bT T) T.length (qK (rdF p b (bT T)).2)))]) (by rw [show (fO g2_1 T.length (qK ((rdF p b (bT T)).2))) = (fO (bT T) T.length (qK (rdF p b (bT T)).2)) from fO_cong hyb]) ?_
    have hfo := fO_le (bT T) T.length (qK (rdF p b (bT T)).2)
    refine V_aload_n hC dX8_faultReason_81 rfl 0 rfl ?_
    refine V_get (ci := 8) (v := .ref tb) hC in_X8 0 rfl cls_X8 5 (by decide) fl_X8_43 rfl dX8_faultReason_82 ?_
    refine V_getN (ci := 0) (v := .int (nI (T.length))) hC in_X0 10 rfl cls_X0 1 (by decide) fn_X8_84 rfl dX8_faultReason_85 ?_
    refine V_icmp_ge (tgt := 95) hC (by omega) (by omega) dX8_faultReason_88 (by decide) (fun c88 => ?_) (fun c88 => ?_)
    · refine V_iconst (v := nI 0) hC dX8_faultReason_95 (by decide) ?_
      subst hQ
      exact V_iret hC hr hlk rfl (by decide) (by decide) dX8_faultReason_96 ((lf2_2, g2_1)) [0, 1, 2, 3, 4, 5, 6, 7, 8, 9, 10, 11] rfl (by decide) (⟨by unfold frn; rw [if_pos (by omega), if_neg (by omega)], h52, hyb⟩)
    · refine V_iconst (v := nI 3) hC dX8_faultReason_91 (by decide) ?_
      refine V_goto (tgt := 96) hC dX8_faultReason_92 (by decide) ?_
      subst hQ
      exact V_iret hC hr hlk rfl (by decide) (by decide) dX8_faultReason_96 ((lf2_2, g2_1)) [0, 1, 2, 3, 4, 5, 6, 7, 8, 9, 10, 11] rfl (by decide) (⟨by unfold frn; rw [if_pos (by omega), if_pos c88], h52, hyb⟩)
  · refine V_iconst (v := nI 2) hC dX8_faultReason_65 (by decide) ?_
    subst hQ
    exact V_iret hC hr hlk rfl (by decide) (by decide) dX8_faultReason_66 ((lf2_2, g2_1)) [0, 1, 2, 3, 4, 5, 6, 7, 8, 9, 10, 11] rfl (by decide) (⟨by unfold frn; rw [if_neg (by omega)], h52, hyb⟩)
