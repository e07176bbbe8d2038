abbrev rm_X8_put_neg : Room := { frames := 1, cells := 0, slots := 0, locals := 20 }
set_option maxHeartbeats 4000000 in
set_option maxRecDepth 100000 in
theorem c_X8_put_neg (l : Launch) (D : va_G) (cI cQ : ClassId) (o me kc tc rd tx tb hi : Nat) (x : Int32) (hx : x.toInt < 0) : MI l yX8_put cX8_put 2 (some .int) rm_X8_put_neg D (TY cI cQ) [.ref o, .int (x)] [(o, .inr (8, [.ref me, .ref kc, .ref tc, .ref rd, .ref tx, .ref tb, .ref hi]))] (fun (r9 : Int32) (u : Unit) => r9 = (-1) ∧ (True)) (fun (u : Unit) => [(o, .inr (8, [.ref me, .ref kc, .ref tc, .ref rd, .ref tx, .ref tb, .ref hi]))]) 0 0 := by
  refine MI.start (by decide) (Nat.le_of_ble_eq_true rfl) (lv0 := [(0, .ref o), (1, .int (x))]) rfl ?_
  intro pp9 ee9 ss9 mm9 args9 below9 meth9 co9 A9 Q9 hQ hC hr hlk hnm
  refine V_iload_n hC dX8_put_0 rfl 1 rfl ?_
  refine V_calliS (As := [.int (x)]) (rest := []) (wr := [(o, .inr (8, [.ref me, .ref kc, .ref tc, .ref rd, .ref tx, .ref tb, .ref hi]))]) hC (c_X8_isLetter_neg l D cI cQ x (hx)) mok_X8_isLetter ml_X8_54 rfl rfl rfl (by decide) (by decide) (by decide) (Nat.le_of_ble_eq_true rfl) [] [0] rfl (by decide) rfl (by decide) (by decide) dX8_put_1 rfl (fun r9 u9 h1 => ?_)
  obtain ⟨rfl, h1⟩ := h1
  clear h1
  refine V_perm (ws2 := [(o, .inr (8, [.ref me, .ref kc, .ref tc, .ref rd, .ref tx, .ref tb, .ref hi]))]) [0] rfl (by decide) ?_
  refine V_if_ne_F (tgt := 9) hC dX8_put_4 (by decide) ((congrArg nI (show 0 = 0 by omega)).trans nI_0) ?_
  refine V_iconst (v := -1) hC dX8_put_7 (by decide) ?_
  subst hQ
  exact V_iret hC hr hlk rfl (by decide) (by decide) dX8_put_8 (()) [0] rfl (by decide) (⟨rfl, trivial⟩)
abbrev rm_X8_put_bad : Room := { frames := 1, cells := 0, slots := 0, locals := 20 }
set_option maxHeartbeats 4000000 in
set_option maxRecDepth 100000 in
theorem c_X8_put_bad (l : Launch) (D : va_G) (cI cQ : ClassId) (o me kc tc rd tx tb hi x : Nat) (hx : 8 ≤ x ∧ x < 2147483648) : MI l yX8_put cX8_put 2 (some .int) rm_X8_put_bad D (TY cI cQ) [.ref o, .int (nI x)] [(o, .inr (8, [.ref me, .ref kc, .ref tc, .ref rd, .ref tx, .ref tb, .ref hi]))] (fun (r9 : Int32) (u : Unit) => r9 = (-1) ∧ (True)) (fun (u : Unit) => [(o, .inr (8, [.ref me, .ref kc, .ref tc, .ref rd, .ref tx, .ref tb, .ref hi]))]) 0 0 := by
  refine MI.start (by decide) (Nat.le_of_ble_eq_true rfl) (lv0 := [(0, .ref o), (1, .int (nI x))]) rfl ?_
  intro pp9 ee9 ss9 mm9 args9 below9 meth9 co9 A9 Q9 hQ hC hr hlk hnm
  refine V_iload_n hC dX8_put_0 rfl 1 rfl ?_
  refine V_calliS (As := [.int (nI x)]) (rest := []) (wr := [(o, .inr (8, [.ref me, .ref kc, .ref tc, .ref rd, .ref tx, .ref tb, .ref hi]))]) hC (c_X8_isLetter l D cI cQ x (by omega)) mok_X8_isLetter ml_X8_54 rfl rfl rfl (by decide) (by decide) (by decide) (Nat.le_of_ble_eq_true rfl) [] [0] rfl (by decide) rfl (by decide) (by decide) dX8_put_1 rfl (fun r9 u9 h1 => ?_)
  obtain ⟨u_1, rfl⟩ : ∃ z, z = u9 := ⟨_, rfl⟩
  obtain ⟨rfl, h1⟩ := h1
  have h1 : (u_1 = 1 ∧ x < 8) ∨ (u_1 = 0 ∧ 8 ≤ x) := h1
  refine V_perm (ws2 := [(o, .inr (8, [.ref me, .ref kc, .ref tc, .ref rd, .ref tx, .ref tb, .ref hi]))]) [0] rfl (by decide) ?_
  refine V_if_ne (tgt := 9) hC (by omega) dX8_put_4 (by decide) (fun c4 => ?_) (fun c4 => ?_)
  · exact False.elim (by omega)
  · refine V_iconst (v := -1) hC dX8_put_7 (by decide) ?_
    subst hQ
    exact V_iret hC hr hlk rfl (by decide) (by decide) dX8_put_8 (()) [0] rfl (by decide) (⟨rfl, trivial⟩)
abbrev rm_X8_put_ended : Room := { frames := 1, cells := 0, slots := 0, locals := 20 }
set_option maxHeartbeats 4000000 in
set_option maxRecDepth 100000 in
theorem c_X8_put_ended (l : Launch) (D : va_G) (cI cQ : ClassId) (o me kc tc rd tx tb hi ml n e p b x : Nat) (g : Nat → Nat) (hx : x < 8) (he : e = 1) : MI l yX8_put cX8_put 2 (some .int) rm_X8_put_ended D (TY cI cQ) [.ref o, .int (nI x)] [(o, .inr (8, [.ref me, .ref kc, .ref tc, .ref rd, .ref tx, .ref tb, .ref hi])), (me, .inr (4, [.ref ml, .int (nI n), .int (nI e), .int (nI p), .int (nI b)])), (ml, .inl (cI, 40, .inl (fun j => nI (g j))))] (fun (r9 : Int32) (u : Unit) => r9 = (-2) ∧ (True)) (fun (u : Unit) => [(o, .inr (8, [.ref me, .ref kc, .ref tc, .ref rd, .ref tx, .ref tb, .ref hi])), (me, .inr (4, [.ref ml, .int (nI n), .int (nI e), .int (nI p), .int (nI b)])), (ml, .inl (cI, 40, .inl (fun j => nI (g j))))]) 0 0 := by
  refine MI.start (by decide) (Nat.le_of_ble_eq_true rfl) (lv0 := [(0, .ref o), (1, .int (nI x))]) rfl ?_
  intro pp9 ee9 ss9 mm9 args9 below9 meth9 co9 A9 Q9 hQ hC hr hlk hnm
  refine V_iload_n hC dX8_put_0 rfl 1 rfl ?_
  refine V_calliS (As := [.int (nI x)]) (rest := []) (wr := [(o, .inr (8, [.ref me, .ref kc, .ref tc, .ref rd, .ref tx, .ref tb, .ref hi])), (me, .inr (4, [.ref ml, .int (nI n), .int (nI e), .int (nI p), .int (nI b)])), (ml, .inl (cI, 40, .inl (fun j => nI (g j))))]) hC (c_X8_isLetter l D cI cQ x (by omega)) mok_X8_isLetter ml_X8_54 rfl rfl rfl (by decide) (by decide) (by decide) (Nat.le_of_ble_eq_true rfl) [] [0, 1, 2] rfl (by decide) rfl (by decide) (by decide) dX8_put_1 rfl (fun r9 u9 h1 => ?_)
  obtain ⟨u_1, rfl⟩ : ∃ z, z = u9 := ⟨_, rfl⟩
  obtain ⟨rfl, h1⟩ := h1
  have h1 : (u_1 = 1 ∧ x < 8) ∨ (u_1 = 0 ∧ 8 ≤ x) := h1
  refine V_perm (ws2 := [(o, .inr (8, [.ref me, .ref kc, .ref tc, .ref rd, .ref tx, .ref tb, .ref hi])), (me, .inr (4, [.ref ml, .int (nI n), .int (nI e), .int (nI p), .int (nI b)])), (ml, .inl (cI, 40, .inl (fun j => nI (g j))))]) [0, 1, 2] rfl (by decide) ?_
  refine V_if_ne (tgt := 9) hC (by omega) dX8_put_4 (by decide) (fun c4 => ?_) (fun c4 => ?_)
  · refine V_aload_n hC dX8_put_9 rfl 0 rfl ?_
    refine V_get (ci := 8) (v := .ref me) hC in_X8 0 rfl cls_X8 0 (by decide) fl_X8_12 rfl dX8_put_10 ?_
    refine V_getN (ci := 4) (v := .int (nI e)) hC in_X4 1 rfl cls_X4 2 (by decide) fn_X8_58 rfl dX8_put_13 ?_
    refine V_if_eq (tgt := 22) hC (by omega) dX8_put_16 (by decide) (fun c16 => ?_) (fun c16 => ?_)
    · exact False.elim (by omega)
    · refine V_bipush (v := -2) hC dX8_put_19 (by decide) ?_
      subst hQ
      exact V_iret hC hr hlk rfl (by decide) (by decide) dX8_put_21 (()) [0, 1, 2] rfl (by decide) (⟨rfl, trivial⟩)
  · exact False.elim (by omega)
abbrev rm_X8_put_full : Room := { frames := 1, cells := 0, slots := 0, locals := 20 }
set_option maxHeartbeats 4000000 in
set_option maxRecDepth 100000 in
theorem c_X8_put_full (l : Launch) (D : va_G) (cI cQ : ClassId) (o me kc tc rd tx tb hi ml n e p b x : Nat) (g : Nat → Nat) (hx : x < 8) (he : e = 0) (hn : 40 ≤ n ∧ n < 1000) : MI l yX8_put cX8_put 2 (some .int) rm_X8_put_full D (TY cI cQ) [.ref o, .int (nI x)] [(o, .inr (8, [.ref me, .ref kc, .ref tc, .ref rd, .ref tx, .ref tb, .ref hi])), (me, .inr (4, [.ref ml, .int (nI n), .int (nI e), .int (nI p), .int (nI b)])), (ml, .inl (cI, 40, .inl (fun j => nI (g j))))] (fun (r9 : Int32) (u : Unit) => r9 = (-3) ∧ (True)) (fun (u : Unit) => [(o, .inr (8, [.ref me, .ref kc, .ref tc, .ref rd, .ref tx, .ref tb, .ref hi])), (me, .inr (4, [.ref ml, .int (nI n), .int (nI e), .int (nI p), .int (nI b)])), (ml, .inl (cI, 40, .inl (fun j => nI (g j))))]) 0 0 := by
  refine MI.start (by decide) (Nat.le_of_ble_eq_true rfl) (lv0 := [(0, .ref o), (1, .int (nI x))]) rfl ?_
  intro pp9 ee9 ss9 mm9 args9 below9 meth9 co9 A9 Q9 hQ hC hr hlk hnm
  refine V_iload_n hC dX8_put_0 rfl 1 rfl ?_
  refine V_calliS (As := [.int (nI x)]) (rest := []) (wr := [(o, .inr (8, [.ref me, .ref kc, .ref tc, .ref rd, .ref tx, .ref tb, .ref hi])), (me, .inr (4, [.ref ml, .int (nI n), .int (nI e), .int (nI p), .int (nI b)])), (ml, .inl (cI, 40, .inl (fun j => nI (g j))))]) hC (c_X8_isLetter l D cI cQ x (by omega)) mok_X8_isLetter ml_X8_54 rfl rfl rfl (by decide) (by decide) (by decide) (Nat.le_of_ble_eq_true rfl) [] [0, 1, 2] rfl (by decide) rfl (by decide) (by decide) dX8_put_1 rfl (fun r9 u9 h1 => ?_)
  obtain ⟨u_1, rfl⟩ : ∃ z, z = u9 := ⟨_, rfl⟩
  obtain ⟨rfl, h1⟩ := h1
  have h1 : (u_1 = 1 ∧ x < 8) ∨ (u_1 = 0 ∧ 8 ≤ x) := h1
  refine V_perm (ws2 := [(o, .inr (8, [.ref me, .ref kc, .ref tc, .ref rd, .ref tx, .ref tb, .ref hi])), (me, .inr (4, [.ref ml, .int (nI n), .int (nI e), .int (nI p), .int (nI b)])), (ml, .inl (cI, 40, .inl (fun j => nI (g j))))]) [0, 1, 2] rfl (by decide) ?_
  refine V_if_ne (tgt := 9) hC (by omega) dX8_put_4 (by decide) (fun c4 => ?_) (fun c4 => ?_)
  · refine V_aload_n hC dX8_put_9 rfl 0 rfl ?_
    refine V_get (ci := 8) (v := .ref me) hC in_X8 0 rfl cls_X8 0 (by decide) fl_X8_12 rfl dX8_put_10 ?_
    refine V_getN (ci := 4) (v := .int (nI e)) hC in_X4 1 rfl cls_X4 2 (by decide) fn_X8_58 rfl dX8_put_13 ?_
    refine V_if_eq (tgt := 22) hC (by omega) dX8_put_16 (by decide) (fun c16 => ?_) (fun c16 => ?_)
    · refine V_aload_n hC dX8_put_22 rfl 0 rfl ?_
      refine V_get (ci := 8) (v := .ref me) hC in_X8 0 rfl cls_X8 0 (by decide) fl_X8_12 rfl dX8_put_23 ?_
      refine V_getN (ci := 4) (v := .int (nI n)) hC in_X4 1 rfl cls_X4 1 (by decide) fn_X8_62 rfl dX8_put_26 ?_
      refine V_bipush (v := nI 40) hC dX8_put_29 (by decide) ?_
      refine V_icmp_lt (tgt := 37) hC (by omega) (by omega) dX8_put_31 (by decide) (fun c31 => ?_) (fun c31 => ?_)
      · exact False.elim (by omega)
      · refine V_bipush (v := -3) hC dX8_put_34 (by decide) ?_
        subst hQ
        exact V_iret hC hr hlk rfl (by decide) (by decide) dX8_put_36 (()) [0, 1, 2] rfl (by decide) (⟨rfl, trivial⟩)
    · exact False.elim (by omega)
  · exact False.elim (by omega)
abbrev rm_X8_put_ok : Room := { frames := 5, cells := 0, slots := 0, locals := 106 }
set_option maxHeartbeats 4000000 in
set_option maxRecDepth 100000 in
theorem c_X8_put_ok (l : Launch) (D : va_G) (cI cQ : ClassId) (o me kc tc rd tx tb hi ml kco kcr ksp kbi kbr kcs hst m0 r0 m1 r1 m2 r2 m3 r3 n e p b sz x : Nat) (g kg kcf : Nat → Nat) (G : Nat → Nat → Nat) (NS ES PS BS : Nat → Nat) (hx : x < 8) (he : e = 0) (hn : n < 40) (hg : ∀ j, j < n → g j < 8) (hp : p ≤ 64) (hb : b ≤ 2000) (hz : sz ≤ 4) (hES : ∀ j, j < 4 → ES j < 2) (hkg : rep kg (sB (cM p b g n e))) (hkc : ∀ j, j < n → kcf j = cost p b g j) : MI l yX8_put cX8_put 2 (some .int) rm_X8_put_ok D (TY cI cQ) [.ref o, .int (nI x)] [(o, .inr (8, [.ref me, .ref kc, .ref tc, .ref rd, .ref tx, .ref tb, .ref hi])), (me, .inr (4, [.ref ml, .int (nI n), .int (nI e), .int (nI p), .int (nI b)])), (ml, .inl (cI, 40, .inl (fun j => nI (g j)))), (hi, .inr (3, [.ref hst, .int (nI sz)])), (hst, .inl (cQ, 4, .inr (.inr (.inr (.inr (hq m0 m1 m2 m3)))))), (m0, .inr (4, [.ref r0, .int (nI (NS 0)), .int (nI (ES 0)), .int (nI (PS 0)), .int (nI (BS 0))])), (r0, .inl (cI, 40, .inl (fun j => nI ((G 0) j)))), (m1, .inr (4, [.ref r1, .int (nI (NS 1)), .int (nI (ES 1)), .int (nI (PS 1)), .int (nI (BS 1))])), (r1, .inl (cI, 40, .inl (fun j => nI ((G 1) j)))), (m2, .inr (4, [.ref r2, .int (nI (NS 2)), .int (nI (ES 2)), .int (nI (PS 2)), .int (nI (BS 2))])), (r2, .inl (cI, 40, .inl (fun j => nI ((G 2) j)))), (m3, .inr (4, [.ref r3, .int (nI (NS 3)), .int (nI (ES 3)), .int (nI (PS 3)), .int (nI (BS 3))])), (r3, .inl (cI, 40, .inl (fun j => nI ((G 3) j)))), (kc, .inr (1, [.ref kco, .ref ksp, .ref kbi, .ref kcs, .int (nI n), .int (nI (sW (cM p b g n e)))])), (kco, .inr (2, [.ref kcr, .int (nI (sT (cM p b g n e))), .int (nI (sH (cM p b g n e))), .int (nI p), .int (nI b)])), (kcr, .inl (cI, 9, .inl (fun j => nI ((sF (cM p b g n e)) j)))), (ksp, .inr (6, [.int (nI (sL (cM p b g n e))), .int (nI (sU (cM p b g n e)))])), (kbi, .inr (0, [.ref kbr, .int (nI ((sB (cM p b g n e)).length))])), (kbr, .inl (cI, 658, .inl (fun j => nI (kg j)))), (kcs, .inl (cI, 40, .inl (fun j => nI (kcf j))))] (fun (r9 : Int32) (u : (Nat → Nat) × (Nat → Nat)) => r9 = (nI (cost p b (va_up g n x) n)) ∧ (rep u.1 (sB (cM p b (va_up g n x) (n + 1) 0)) ∧ ∀ j, j < n + 1 → u.2 j = cost p b (va_up g n x) j)) (fun (u : (Nat → Nat) × (Nat → Nat)) => [(o, .inr (8, [.ref me, .ref kc, .ref tc, .ref rd, .ref tx, .ref tb, .ref hi])), (me, .inr (4, [.ref ml, .int (nI (n + 1)), .int (nI 0), .int (nI p), .int (nI b)])), (ml, .inl (cI, 40, .inl (fun j => nI ((va_up g n x) j)))), (hi, .inr (3, [.ref hst, .int (nI (hsz sz))])), (hst, .inl (cQ, 4, .inr (.inr (.inr (.inr (hq m0 m1 m2 m3)))))), (m0, .inr (4, [.ref r0, .int (nI (hup NS sz n 0)), .int (nI (hup ES sz 0 0)), .int (nI (hup PS sz p 0)), .int (nI (hup BS sz b 0))])), (r0, .inl (cI, 40, .inl (fun j => nI ((hup G sz g 0) j)))), (m1, .inr (4, [.ref r1, .int (nI (hup NS sz n 1)), .int (nI (hup ES sz 0 1)), .int (nI (hup PS sz p 1)), .int (nI (hup BS sz b 1))])), (r1, .inl (cI, 40, .inl (fun j => nI ((hup G sz g 1) j)))), (m2, .inr (4, [.ref r2, .int (nI (hup NS sz n 2)), .int (nI (hup ES sz 0 2)), .int (nI (hup PS sz p 2)), .int (nI (hup BS sz b 2))])), (r2, .inl (cI, 40, .inl (fun j => nI ((hup G sz g 2) j)))), (m3, .inr (4, [.ref r3, .int (nI (hup NS sz n 3)), .int (nI (hup ES sz 0 3)), .int (nI (hup PS sz p 3)), .int (nI (hup BS sz b 3))])), (r3, .inl (cI, 40, .inl (fun j => nI ((hup G sz g 3) j)))), (kc, .inr (1, [.ref kco, .ref ksp, .ref kbi, .ref kcs, .int (nI (n + 1)), .int (nI (sW (cM p b (va_up g n x) (n + 1) 0)))])), (kco, .inr (2, [.ref kcr, .int (nI (sT (cM p b (va_up g n x) (n + 1) 0))), .int (nI (sH (cM p b (va_up g n x) (n + 1) 0))), .int (nI p), .int (nI b)])), (kcr, .inl (cI, 9, .inl (fun j => nI ((sF (cM p b (va_up g n x) (n + 1) 0)) j)))), (ksp, .inr (6, [.int (nI (sL (cM p b (va_up g n x) (n + 1) 0))), .int (nI (sU (cM p b (va_up g n x) (n + 1) 0)))])), (kbi, .inr (0, [.ref kbr, .int (nI ((sB (cM p b (va_up g n x) (n + 1) 0)).length))])), (kbr, .inl (cI, 658, .inl (fun j => nI (u.1 j)))), (kcs, .inl (cI, 40, .inl (fun j => nI (u.2 j))))]) 0 0 := by
  refine MI.start (by decide) (Nat.le_of_ble_eq_true rfl) (lv0 := [(0, .ref o), (1, .int (nI x))]) rfl ?_
  intro pp9 ee9 ss9 mm9 args9 below9 meth9 co9 A9 Q9 hQ hC hr hlk hnm
  subst he
  refine V_ws (ws2 := [(o, .inr (8, [.ref me, .ref kc, .ref tc, .ref rd, .ref tx, .ref tb, .ref hi])), (me, .inr (4, [.ref ml, .int (nI n), .int (nI 0), .int (nI p), .int (nI b)])), (ml, .inl (cI, 40, .inl (fun j => nI (g j)))), (hi, .inr (3, [.ref hst, .int (nI sz)])), (hst, .inl (cQ, 4, .inr (.inr (.inr (.inr (hq m0 m1 m2 m3)))))), (m0, .inr (4, [.ref r0, .int (nI (NS 0)), .int (nI (ES 0)), .int (nI (PS 0)), .int (nI (BS 0))])), (r0, .inl (cI, 40, .inl (fun j => nI ((G 0) j)))), (m1, .inr (4, [.ref r1, .int (nI (NS 1)), .int (nI (ES 1)), .int (nI (PS 1)), .int (nI (BS 1))])), (r1, .inl (cI, 40, .inl (fun j => nI ((G 1) j)))), (m2, .inr (4, [.ref r2, .int (nI (NS 2)), .int (nI (ES 2)), .int (nI (PS 2)), .int (nI (BS 2))])), (r2, .inl (cI, 40, .inl (fun j => nI ((G 2) j)))), (m3, .inr (4, [.ref r3, .int (nI (NS 3)), .int (nI (ES 3)), .int (nI (PS 3)), .int (nI (BS 3))])), (r3, .inl (cI, 40, .inl (fun j => nI ((G 3) j)))), (kc, .inr (1, [.ref kco, .ref ksp, .ref kbi, .ref kcs, .int (nI n), .int (nI (sW (cR p b g n)))])), (kco, .inr (2, [.ref kcr, .int (nI (sT (cR p b g n))), .int (nI (sH (cR p b g n))), .int (nI p), .int (nI b)])), (kcr, .inl (cI, 9, .inl (fun j => nI ((sF (cR p b g n)) j)))), (ksp, .inr (6, [.int (nI (sL (cR p b g n))), .int (nI (sU (cR p b g n)))])), (kbi, .inr (0, [.ref kbr, .int (nI ((sB (cR p b g n)).length))])), (kbr, .inl (cI, 658, .inl (fun j => nI (kg j)))), (kcs, .inl (cI, 40, .inl (fun j => nI (kcf j))))]) (by rw [cM_0]) ?_
  rw [cM_0] at hkg
  refine V_iload_n hC dX8_put_0 rfl 1 rfl ?_
  refine V_calliS (As := [.int (nI x)]) (rest := []) (wr := [(o, .inr (8, [.ref me, .ref kc, .ref tc, .ref rd, .ref tx, .ref tb, .ref hi])), (me, .inr (4, [.ref ml, .int (nI n), .int (nI 0), .int (nI p), .int (nI b)])), (ml, .inl (cI, 40, .inl (fun j => nI (g j)))), (hi, .inr (3, [.ref hst, .int (nI sz)])), (hst, .inl (cQ, 4, .inr (.inr (.inr (.inr (hq m0 m1 m2 m3)))))), (m0, .inr (4, [.ref r0, .int (nI (NS 0)), .int (nI (ES 0)), .int (nI (PS 0)), .int (nI (BS 0))])), (r0, .inl (cI, 40, .inl (fun j => nI ((G 0) j)))), (m1, .inr (4, [.ref r1, .int (nI (NS 1)), .int (nI (ES 1)), .int (nI (PS 1)), .int (nI (BS 1))])), (r1, .inl (cI, 40, .inl (fun j => nI ((G 1) j)))), (m2, .inr (4, [.ref r2, .int (nI (NS 2)), .int (nI (ES 2)), .int (nI (PS 2)), .int (nI (BS 2))])), (r2, .inl (cI, 40, .inl (fun j => nI ((G 2) j)))), (m3, .inr (4, [.ref r3, .int (nI (NS 3)), .int (nI (ES 3)), .int (nI (PS 3)), .int (nI (BS 3))])), (r3, .inl (cI, 40, .inl (fun j => nI ((G 3) j)))), (kc, .inr (1, [.ref kco, .ref ksp, .ref kbi, .ref kcs, .int (nI n), .int (nI (sW (cR p b g n)))])), (kco, .inr (2, [.ref kcr, .int (nI (sT (cR p b g n))), .int (nI (sH (cR p b g n))), .int (nI p), .int (nI b)])), (kcr, .inl (cI, 9, .inl (fun j => nI ((sF (cR p b g n)) j)))), (ksp, .inr (6, [.int (nI (sL (cR p b g n))), .int (nI (sU (cR p b g n)))])), (kbi, .inr (0, [.ref kbr, .int (nI ((sB (cR p b g n)).length))])), (kbr, .inl (cI, 658, .inl (fun j => nI (kg j)))), (kcs, .inl (cI, 40, .inl (fun j => nI (kcf j))))]) hC (c_X8_isLetter l D cI cQ x (by omega)) mok_X8_isLetter ml_X8_54 rfl rfl rfl (by decide) (by decide) (by decide) (Nat.le_of_ble_eq_true rfl) [] [0, 1, 2, 3, 4, 5, 6, 7, 8, 9, 10, 11, 12, 13, 14, 15, 16, 17, 18, 19] rfl (by decide) rfl (by decide) (by decide) dX8_put_1 rfl (fun r9 u9 h1 => ?_)
  obtain ⟨u_1, rfl⟩ : ∃ z, z = u9 := ⟨_, rfl⟩
  obtain ⟨rfl, h1⟩ := h1
  have h1 : (u_1 = 1 ∧ x < 8) ∨ (u_1 = 0 ∧ 8 ≤ x) := h1
  refine V_perm (ws2 := [(o, .inr (8, [.ref me, .ref kc, .ref tc, .ref rd, .ref tx, .ref tb, .ref hi])), (me, .inr (4, [.ref ml, .int (nI n), .int (nI 0), .int (nI p), .int (nI b)])), (ml, .inl (cI, 40, .inl (fun j => nI (g j)))), (hi, .inr (3, [.ref hst, .int (nI sz)])), (hst, .inl (cQ, 4, .inr (.inr (.inr (.inr (hq m0 m1 m2 m3)))))), (m0, .inr (4, [.ref r0, .int (nI (NS 0)), .int (nI (ES 0)), .int (nI (PS 0)), .int (nI (BS 0))])), (r0, .inl (cI, 40, .inl (fun j => nI ((G 0) j)))), (m1, .inr (4, [.ref r1, .int (nI (NS 1)), .int (nI (ES 1)), .int (nI (PS 1)), .int (nI (BS 1))])), (r1, .inl (cI, 40, .inl (fun j => nI ((G 1) j)))), (m2, .inr (4, [.ref r2, .int (nI (NS 2)), .int (nI (ES 2)), .int (nI (PS 2)), .int (nI (BS 2))])), (r2, .inl (cI, 40, .inl (fun j => nI ((G 2) j)))), (m3, .inr (4, [.ref r3, .int (nI (NS 3)), .int (nI (ES 3)), .int (nI (PS 3)), .int (nI (BS 3))])), (r3, .inl (cI, 40, .inl (fun j => nI ((G 3) j)))), (kc, .inr (1, [.ref kco, .ref ksp, .ref kbi, .ref kcs, .int (nI n), .int (nI (sW (cR p b g n)))])), (kco, .inr (2, [.ref kcr, .int (nI (sT (cR p b g n))), .int (nI (sH (cR p b g n))), .int (nI p), .int (nI b)])), (kcr, .inl (cI, 9, .inl (fun j => nI ((sF (cR p b g n)) j)))), (ksp, .inr (6, [.int (nI (sL (cR p b g n))), .int (nI (sU (cR p b g n)))])), (kbi, .inr (0, [.ref kbr, .int (nI ((sB (cR p b g n)).length))])), (kbr, .inl (cI, 658, .inl (fun j => nI (kg j)))), (kcs, .inl (cI, 40, .inl (fun j => nI (kcf j))))]) [0, 1, 2, 3, 4, 5, 6, 7, 8, 9, 10, 11, 12, 13, 14, 15, 16, 17, 18, 19] rfl (by decide) ?_
  refine V_if_ne (tgt := 9) hC (by omega) dX8_put_4 (by decide) (fun c4 => ?_) (fun c4 => ?_)
  · refine V_aload_n hC dX8_put_9 rfl 0 rfl ?_
    refine V_get (ci := 8) (v := .ref me) hC in_X8 0 rfl cls_X8 0 (by decide) fl_X8_12 rfl dX8_put_10 ?_
    refine V_getN (ci := 4) (v := .int (nI 0)) hC in_X4 1 rfl cls_X4 2 (by decide) fn_X8_58 rfl dX8_put_13 ?_
    refine V_if_eq_T (tgt := 22) hC dX8_put_16 (by decide) ((congrArg nI (show 0 = 0 by omega)).trans nI_0) ?_
    refine V_aload_n hC dX8_put_22 rfl 0 rfl ?_
    refine V_get (ci := 8) (v := .ref me) hC in_X8 0 rfl cls_X8 0 (by decide) fl_X8_12 rfl dX8_put_23 ?_
    refine V_getN (ci := 4) (v := .int (nI n)) hC in_X4 1 rfl cls_X4 1 (by decide) fn_X8_62 rfl dX8_put_26 ?_
    refine V_bipush (v := nI 40) hC dX8_put_29 (by decide) ?_
    refine V_icmp_lt (tgt := 37) hC (by omega) (by omega) dX8_put_31 (by decide) (fun c31 => ?_) (fun c31 => ?_)
    · refine V_aload_n hC dX8_put_37 rfl 0 rfl ?_
      refine V_get (ci := 8) (v := .ref hi) hC in_X8 0 rfl cls_X8 6 (by decide) fl_X8_50 rfl dX8_put_38 ?_
      refine V_aload_n hC dX8_put_41 rfl 0 rfl ?_
      refine V_get (ci := 8) (v := .ref me) hC in_X8 0 rfl cls_X8 0 (by decide) fl_X8_12 rfl dX8_put_42 ?_
      refine V_callvV (As := [.ref me]) (rest := []) (wr := [(o, .inr (8, [.ref me, .ref kc, .ref tc, .ref rd, .ref tx, .ref tb, .ref hi])), (kc, .inr (1, [.ref kco, .ref ksp, .ref kbi, .ref kcs, .int (nI n), .int (nI (sW (cR p b g n)))])), (kco, .inr (2, [.ref kcr, .int (nI (sT (cR p b g n))), .int (nI (sH (cR p b g n))), .int (nI p), .int (nI b)])), (kcr, .inl (cI, 9, .inl (fun j => nI ((sF (cR p b g n)) j)))), (ksp, .inr (6, [.int (nI (sL (cR p b g n))), .int (nI (sU (cR p b g n)))])), (kbi, .inr (0, [.ref kbr, .int (nI ((sB (cR p b g n)).length))])), (kbr, .inl (cI, 658, .inl (fun j => nI (kg j)))), (kcs, .inl (cI, 40, .inl (fun j => nI (kcf j))))]) hC (c_X3_keep l D cI cQ hi hst sz _ r0 _ r1 _ r2 _ r3 _ _ _ _ _ me ml n 0 p b g (hz) (hES) (by omega)) mok_X3_keep ml_X8_66 (q1 := 0) rfl cls_X3 rfl rfl rfl (by decide) (by decide) (by decide) (Nat.le_of_ble_eq_true rfl) [3, 4, 5, 6, 7, 8, 9, 10, 11, 12, 1, 2] [0, 13, 14, 15, 16, 17, 18, 19] rfl (by decide) rfl (by decide) (by decide) dX8_put_45 rfl (fun u9 h45 => ?_)
      clear h45
      refine V_perm (ws2 := [(o, .inr (8, [.ref me, .ref kc, .ref tc, .ref rd, .ref tx, .ref tb, .ref hi])), (me, .inr (4, [.ref ml, .int (nI n), .int (nI 0), .int (nI p), .int (nI b)])), (ml, .inl (cI, 40, .inl (fun j => nI (g j)))), (hi, .inr (3, [.ref hst, .int (nI (hsz sz))])), (hst, .inl (cQ, 4, .inr (.inr (.inr (.inr (hq m0 m1 m2 m3)))))), (m0, .inr (4, [.ref r0, .int (nI (hup NS sz n 0)), .int (nI (hup ES sz 0 0)), .int (nI (hup PS sz p 0)), .int (nI (hup BS sz b 0))])), (r0, .inl (cI, 40, .inl (fun j => nI ((hup G sz g 0) j)))), (m1, .inr (4, [.ref r1, .int (nI (hup NS sz n 1)), .int (nI (hup ES sz 0 1)), .int (nI (hup PS sz p 1)), .int (nI (hup BS sz b 1))])), (r1, .inl (cI, 40, .inl (fun j => nI ((hup G sz g 1) j)))), (m2, .inr (4, [.ref r2, .int (nI (hup NS sz n 2)), .int (nI (hup ES sz 0 2)), .int (nI (hup PS sz p 2)), .int (nI (hup BS sz b 2))])), (r2, .inl (cI, 40, .inl (fun j => nI ((hup G sz g 2) j)))), (m3, .inr (4, [.ref r3, .int (nI (hup NS sz n 3)), .int (nI (hup ES sz 0 3)), .int (nI (hup PS sz p 3)), .int (nI (hup BS sz b 3))])), (r3, .inl (cI, 40, .inl (fun j => nI ((hup G sz g 3) j)))), (kc, .inr (1, [.ref kco, .ref ksp, .ref kbi, .ref kcs, .int (nI n), .int (nI (sW (cR p b g n)))])), (kco, .inr (2, [.ref kcr, .int (nI (sT (cR p b g n))), .int (nI (sH (cR p b g n))), .int (nI p), .int (nI b)])), (kcr, .inl (cI, 9, .inl (fun j => nI ((sF (cR p b g n)) j)))), (ksp, .inr (6, [.int (nI (sL (cR p b g n))), .int (nI (sU (cR p b g n)))])), (kbi, .inr (0, [.ref kbr, .int (nI ((sB (cR p b g n)).length))])), (kbr, .inl (cI, 658, .inl (fun j => nI (kg j)))), (kcs, .inl (cI, 40, .inl (fun j => nI (kcf j))))]) [0, 18, 19, 8, 9, 10, 11, 12, 13, 14, 15, 16, 17, 1, 2, 3, 4, 5, 6, 7] rfl (by decide) ?_
      refine V_aload_n hC dX8_put_48 rfl 0 rfl ?_
      refine V_get (ci := 8) (v := .ref me) hC in_X8 0 rfl cls_X8 0 (by decide) fl_X8_12 rfl dX8_put_49 ?_
      refine V_iload_n hC dX8_put_52 rfl 1 rfl ?_
      refine V_callvV (As := [.int (nI x)]) (rest := []) (wr := [(o, .inr (8, [.ref me, .ref kc, .ref tc, .ref rd, .ref tx, .ref tb, .ref hi])), (hi, .inr (3, [.ref hst, .int (nI (hsz sz))])), (hst, .inl (cQ, 4, .inr (.inr (.inr (.inr (hq m0 m1 m2 m3)))))), (m0, .inr (4, [.ref r0, .int (nI (hup NS sz n 0)), .int (nI (hup ES sz 0 0)), .int (nI (hup PS sz p 0)), .int (nI (hup BS sz b 0))])), (r0, .inl (cI, 40, .inl (fun j => nI ((hup G sz g 0) j)))), (m1, .inr (4, [.ref r1, .int (nI (hup NS sz n 1)), .int (nI (hup ES sz 0 1)), .int (nI (hup PS sz p 1)), .int (nI (hup BS sz b 1))])), (r1, .inl (cI, 40, .inl (fun j => nI ((hup G sz g 1) j)))), (m2, .inr (4, [.ref r2, .int (nI (hup NS sz n 2)), .int (nI (hup ES sz 0 2)), .int (nI (hup PS sz p 2)), .int (nI (hup BS sz b 2))])), (r2, .inl (cI, 40, .inl (fun j => nI ((hup G sz g 2) j)))), (m3, .inr (4, [.ref r3, .int (nI (hup NS sz n 3)), .int (nI (hup ES sz 0 3)), .int (nI (hup PS sz p 3)), .int (nI (hup BS sz b 3))])), (r3, .inl (cI, 40, .inl (fun j => nI ((hup G sz g 3) j)))), (kc, .inr (1, [.ref kco, .ref ksp, .ref kbi, .ref kcs, .int (nI n), .int (nI (sW (cR p b g n)))])), (kco, .inr (2, [.ref kcr, .int (nI (sT (cR p b g n))), .int (nI (sH (cR p b g n))), .int (nI p), .int (nI b)])), (kcr, .inl (cI, 9, .inl (fun j => nI ((sF (cR p b g n)) j)))), (ksp, .inr (6, [.int (nI (sL (cR p b g n))), .int (nI (sU (cR p b g n)))])), (kbi, .inr (0, [.ref kbr, .int (nI ((sB (cR p b g n)).length))])), (kbr, .inl (cI, 658, .inl (fun j => nI (kg j)))), (kcs, .inl (cI, 40, .inl (fun j => nI (kcf j))))]) hC (c_X4_append l D cI cQ me ml n 0 p b x g (by omega)) mok_X4_append ml_X8_70 (q1 := 0) rfl cls_X4 rfl rfl rfl (by decide) (by decide) (by decide) (Nat.le_of_ble_eq_true rfl) [1, 2] [0, 3, 4, 5, 6, 7, 8, 9, 10, 11, 12, 13, 14, 15, 16, 17, 18, 19] rfl (by decide) rfl (by decide) (by decide) dX8_put_53 rfl (fun u9 h53 => ?_)
      clear h53
      refine V_perm (ws2 := [(o, .inr (8, [.ref me, .ref kc, .ref tc, .ref rd, .ref tx, .ref tb, .ref hi])), (me, .inr (4, [.ref ml, .int (nI (n + 1)), .int (nI 0), .int (nI p), .int (nI b)])), (ml, .inl (cI, 40, .inl (fun j => nI ((va_up g n x) j)))), (hi, .inr (3, [.ref hst, .int (nI (hsz sz))])), (hst, .inl (cQ, 4, .inr (.inr (.inr (.inr (hq m0 m1 m2 m3)))))), (m0, .inr (4, [.ref r0, .int (nI (hup NS sz n 0)), .int (nI (hup ES sz 0 0)), .int (nI (hup PS sz p 0)), .int (nI (hup BS sz b 0))])), (r0, .inl (cI, 40, .inl (fun j => nI ((hup G sz g 0) j)))), (m1, .inr (4, [.ref r1, .int (nI (hup NS sz n 1)), .int (nI (hup ES sz 0 1)), .int (nI (hup PS sz p 1)), .int (nI (hup BS sz b 1))])), (r1, .inl (cI, 40, .inl (fun j => nI ((hup G sz g 1) j)))), (m2, .inr (4, [.ref r2, .int (nI (hup NS sz n 2)), .int (nI (hup ES sz 0 2)), .int (nI (hup PS sz p 2)), .int (nI (hup BS sz b 2))])), (r2, .inl (cI, 40, .inl (fun j => nI ((hup G sz g 2) j)))), (m3, .inr (4, [.ref r3, .int (nI (hup NS sz n 3)), .int (nI (hup ES sz 0 3)), .int (nI (hup PS sz p 3)), .int (nI (hup BS sz b 3))])), (r3, .inl (cI, 40, .inl (fun j => nI ((hup G sz g 3) j)))), (kc, .inr (1, [.ref kco, .ref ksp, .ref kbi, .ref kcs, .int (nI n), .int (nI (sW (cR p b g n)))])), (kco, .inr (2, [.ref kcr, .int (nI (sT (cR p b g n))), .int (nI (sH (cR p b g n))), .int (nI p), .int (nI b)])), (kcr, .inl (cI, 9, .inl (fun j => nI ((sF (cR p b g n)) j)))), (ksp, .inr (6, [.int (nI (sL (cR p b g n))), .int (nI (sU (cR p b g n)))])), (kbi, .inr (0, [.ref kbr, .int (nI ((sB (cR p b g n)).length))])), (kbr, .inl (cI, 658, .inl (fun j => nI (kg j)))), (kcs, .inl (cI, 40, .inl (fun j => nI (kcf j))))]) [0, 18, 19, 1, 2, 3, 4, 5, 6, 7, 8, 9, 10, 11, 12, 13, 14, 15, 16, 17] rfl (by decide) ?_
      refine V_aload_n hC dX8_put_56 rfl 0 rfl ?_
      refine V_get (ci := 8) (v := .ref kc) hC in_X8 0 rfl cls_X8 1 (by decide) fl_X8_19 rfl dX8_put_57 ?_
      refine V_iload_n hC dX8_put_60 rfl 1 rfl ?_
      refine V_calliV (As := [.int (nI x)]) (rest := []) (wr := [(o, .inr (8, [.ref me, .ref kc, .ref tc, .ref rd, .ref tx, .ref tb, .ref hi])), (me, .inr (4, [.ref ml, .int (nI (n + 1)), .int (nI 0), .int (nI p), .int (nI b)])), (ml, .inl (cI, 40, .inl (fun j => nI ((va_up g n x) j)))), (hi, .inr (3, [.ref hst, .int (nI (hsz sz))])), (hst, .inl (cQ, 4, .inr (.inr (.inr (.inr (hq m0 m1 m2 m3)))))), (m0, .inr (4, [.ref r0, .int (nI (hup NS sz n 0)), .int (nI (hup ES sz 0 0)), .int (nI (hup PS sz p 0)), .int (nI (hup BS sz b 0))])), (r0, .inl (cI, 40, .inl (fun j => nI ((hup G sz g 0) j)))), (m1, .inr (4, [.ref r1, .int (nI (hup NS sz n 1)), .int (nI (hup ES sz 0 1)), .int (nI (hup PS sz p 1)), .int (nI (hup BS sz b 1))])), (r1, .inl (cI, 40, .inl (fun j => nI ((hup G sz g 1) j)))), (m2, .inr (4, [.ref r2, .int (nI (hup NS sz n 2)), .int (nI (hup ES sz 0 2)), .int (nI (hup PS sz p 2)), .int (nI (hup BS sz b 2))])), (r2, .inl (cI, 40, .inl (fun j => nI ((hup G sz g 2) j)))), (m3, .inr (4, [.ref r3, .int (nI (hup NS sz n 3)), .int (nI (hup ES sz 0 3)), .int (nI (hup PS sz p 3)), .int (nI (hup BS sz b 3))])), (r3, .inl (cI, 40, .inl (fun j => nI ((hup G sz g 3) j))))]) hC (c_X1_add l D cI cQ kc kco ksp kbi kcs n kcr kbr p b x (cR p b g n) kg kcf (by omega) (cR_ok hp hb hg) (hp) (hb) (hkg) (by have := cR_len p b g n; omega) (by omega)) mok_X1_add ml_X8_74 (q1 := 0) rfl cls_X1 rfl rfl rfl (by decide) (by decide) (by decide) (Nat.le_of_ble_eq_true rfl) [13, 14, 15, 16, 17, 18, 19] [0, 1, 2, 3, 4, 5, 6, 7, 8, 9, 10, 11, 12] rfl (by decide) rfl (by decide) (by decide) dX8_put_61 rfl (fun r9 u9 h61 => ?_)
      obtain ⟨g2_2, rfl⟩ : ∃ z, z = u9 := ⟨_, rfl⟩
      obtain ⟨rfl, h61⟩ := h61
      have h61 : rep g2_2 (sB (cAdd p b (cR p b g n) x)) := h61
      refine V_perm (ws2 := [(o, .inr (8, [.ref me, .ref kc, .ref tc, .ref rd, .ref tx, .ref tb, .ref hi])), (me, .inr (4, [.ref ml, .int (nI (n + 1)), .int (nI 0), .int (nI p), .int (nI b)])), (ml, .inl (cI, 40, .inl (fun j => nI ((va_up g n x) j)))), (hi, .inr (3, [.ref hst, .int (nI (hsz sz))])), (hst, .inl (cQ, 4, .inr (.inr (.inr (.inr (hq m0 m1 m2 m3)))))), (m0, .inr (4, [.ref r0, .int (nI (hup NS sz n 0)), .int (nI (hup ES sz 0 0)), .int (nI (hup PS sz p 0)), .int (nI (hup BS sz b 0))])), (r0, .inl (cI, 40, .inl (fun j => nI ((hup G sz g 0) j)))), (m1, .inr (4, [.ref r1, .int (nI (hup NS sz n 1)), .int (nI (hup ES sz 0 1)), .int (nI (hup PS sz p 1)), .int (nI (hup BS sz b 1))])), (r1, .inl (cI, 40, .inl (fun j => nI ((hup G sz g 1) j)))), (m2, .inr (4, [.ref r2, .int (nI (hup NS sz n 2)), .int (nI (hup ES sz 0 2)), .int (nI (hup PS sz p 2)), .int (nI (hup BS sz b 2))])), (r2, .inl (cI, 40, .inl (fun j => nI ((hup G sz g 2) j)))), (m3, .inr (4, [.ref r3, .int (nI (hup NS sz n 3)), .int (nI (hup ES sz 0 3)), .int (nI (hup PS sz p 3)), .int (nI (hup BS sz b 3))])), (r3, .inl (cI, 40, .inl (fun j => nI ((hup G sz g 3) j)))), (kc, .inr (1, [.ref kco, .ref ksp, .ref kbi, .ref kcs, .int (nI (n + 1)), .int (nI (sW (cAdd p b (cR p b g n) x)))])), (kco, .inr (2, [.ref kcr, .int (nI (sT (cAdd p b (cR p b g n) x))), .int (nI (sH (cAdd p b (cR p b g n) x))), .int (nI p), .int (nI b)])), (kcr, .inl (cI, 9, .inl (fun j => nI ((sF (cAdd p b (cR p b g n) x)) j)))), (ksp, .inr (6, [.int (nI (sL (cAdd p b (cR p b g n) x))), .int (nI (sU (cAdd p b (cR p b g n) x)))])), (kbi, .inr (0, [.ref kbr, .int (nI ((sB (cAdd p b (cR p b g n) x)).length))])), (kbr, .inl (cI, 658, .inl (fun j => nI (g2_2 j)))), (kcs, .inl (cI, 40, .inl (fun j => nI ((va_up kcf n ((sB (cAdd p b (cR p b g n) x)).length - (sB (cR p b g n)).length)) j))))]) [0, 1, 2, 3, 4, 5, 6, 7, 8, 9, 10, 11, 12, 13, 14, 15, 16, 17, 18, 19] rfl (by decide) ?_
      refine V_ws (ws2 := [(o, .inr (8, [.ref me, .ref kc, .ref tc, .ref rd, .ref tx, .ref tb, .ref hi])), (me, .inr (4, [.ref ml, .int (nI (n + 1)), .int (nI 0), .int (nI p), .int (nI b)])), (ml, .inl (cI, 40, .inl (fun j => nI ((va_up g n x) j)))), (hi, .inr (3, [.ref hst, .int (nI (hsz sz))])), (hst, .inl (cQ, 4, .inr (.inr (.inr (.inr (hq m0 m1 m2 m3)))))), (m0, .inr (4, [.ref r0, .int (nI (hup NS sz n 0)), .int (nI (hup ES sz 0 0)), .int (nI (hup PS sz p 0)), .int (nI (hup BS sz b 0))])), (r0, .inl (cI, 40, .inl (fun j => nI ((hup G sz g 0) j)))), (m1, .inr (4, [.ref r1, .int (nI (hup NS sz n 1)), .int (nI (hup ES sz 0 1)), .int (nI (hup PS sz p 1)), .int (nI (hup BS sz b 1))])), (r1, .inl (cI, 40, .inl (fun j => nI ((hup G sz g 1) j)))), (m2, .inr (4, [.ref r2, .int (nI (hup NS sz n 2)), .int (nI (hup ES sz 0 2)), .int (nI (hup PS sz p 2)), .int (nI (hup BS sz b 2))])), (r2, .inl (cI, 40, .inl (fun j => nI ((hup G sz g 2) j)))), (m3, .inr (4, [.ref r3, .int (nI (hup NS sz n 3)), .int (nI (hup ES sz 0 3)), .int (nI (hup PS sz p 3)), .int (nI (hup BS sz b 3))])), (r3, .inl (cI, 40, .inl (fun j => nI ((hup G sz g 3) j)))), (kc, .inr (1, [.ref kco, .ref ksp, .ref kbi, .ref kcs, .int (nI (n + 1)), .int (nI (sW (cR p b (va_up g n x) (n + 1))))])), (kco, .inr (2, [.ref kcr, .int (nI (sT (cR p b (va_up g n x) (n + 1)))), .int (nI (sH (cR p b (va_up g n x) (n + 1)))), .int (nI p), .int (nI b)])), (kcr, .inl (cI, 9, .inl (fun j => nI ((sF (cR p b (va_up g n x) (n + 1))) j)))), (ksp, .inr (6, [.int (nI (sL (cR p b (va_up g n x) (n + 1)))), .int (nI (sU (cR p b (va_up g n x) (n + 1))))])), (kbi, .inr (0, [.ref kbr, .int (nI ((sB (cR p b (va_up g n x) (n + 1))).length))])), (kbr, .inl (cI, 658, .inl (fun j => nI (g2_2 j)))), (kcs, .inl (cI, 40, .inl (fun j => nI ((va_up kcf n (cost p b (va_up g n x) n)) j))))]) (by rw [cR_put1, cost_put]) ?_
      refine V_ws (ws2 := [(o, .inr (8, [.ref me, .ref kc, .ref tc, .ref rd, .ref tx, .ref tb, .ref hi])), (me, .inr (4, [.ref ml, .int (nI (n + 1)), .int (nI 0), .int (nI p), .int (nI b)])), (ml, .inl (cI, 40, .inl (fun j => nI ((va_up g n x) j)))), (hi, .inr (3, [.ref hst, .int (nI (hsz sz))])), (hst, .inl (cQ, 4, .inr (.inr (.inr (.inr (hq m0 m1 m2 m3)))))), (m0, .inr (4, [.ref r0, .int (nI (hup NS sz n 0)), .int (nI (hup ES sz 0 0)), .int (nI (hup PS sz p 0)), .int (nI (hup BS sz b 0))])), (r0, .inl (cI, 40, .inl (fun j => nI ((hup G sz g 0) j)))), (m1, .inr (4, [.ref r1, .int (nI (hup NS sz n 1)), .int (nI (hup ES sz 0 1)), .int (nI (hup PS sz p 1)), .int (nI (hup BS sz b 1))])), (r1, .inl (cI, 40, .inl (fun j => nI ((hup G sz g 1) j)))), (m2, .inr (4, [.ref r2, .int (nI (hup NS sz n 2)), .int (nI (hup ES sz 0 2)), .int (nI (hup PS sz p 2)), .int (nI (hup BS sz b 2))])), (r2, .inl (cI, 40, .inl (fun j => nI ((hup G sz g 2) j)))), (m3, .inr (4, [.ref r3, .int (nI (hup NS sz n 3)), .int (nI (hup ES sz 0 3)), .int (nI (hup PS sz p 3)), .int (nI (hup BS sz b 3))])), (r3, .inl (cI, 40, .inl (fun j => nI ((hup G sz g 3) j)))), (kc, .inr (1, [.ref kco, .ref ksp, .ref kbi, .ref kcs, .int (nI (n + 1)), .int (nI (sW (cM p b (va_up g n x) (n + 1) 0)))])), (kco, .inr (2, [.ref kcr, .int (nI (sT (cM p b (va_up g n x) (n + 1) 0))), .int (nI (sH (cM p b (va_up g n x) (n + 1) 0))), .int (nI p), .int (nI b)])), (kcr, .inl (cI, 9, .inl (fun j => nI ((sF (cM p b (va_up g n x) (n + 1) 0)) j)))), (ksp, .inr (6, [.int (nI (sL (cM p b (va_up g n x) (n + 1) 0))), .int (nI (sU (cM p b (va_up g n x) (n + 1) 0)))])), (kbi, .inr (0, [.ref kbr, .int (nI ((sB (cM p b (va_up g n x) (n + 1) 0)).length))])), (kbr, .inl (cI, 658, .inl (fun j => nI (g2_2 j)))), (kcs, .inl (cI, 40, .inl (fun j => nI ((va_up kcf n (cost p b (va_up g n x) n)) j))))]) (by rw [cM_0]) ?_
      refine V_st (st2 := [.int (nI (cost p b (va_up g n x) n))]) (by rw [show ((sB (cAdd p b (cR p b g n) x)).length - (sB (cR p b g n)).length) = (cost p b (va_up g n x) n) from (cost_put p b g n x).symm]) ?_
      subst hQ
      exact V_iret hC hr hlk rfl (by decide) (by decide) dX8_put_64 ((g2_2, va_up kcf n (cost p b (va_up g n x) n))) [0, 1, 2, 3, 4, 5, 6, 7, 8, 9, 10, 11, 12, 13, 14, 15, 16, 17, 18, 19] rfl (by decide) (⟨rfl, by rw [cM_0, cR_put1]; exact h61, lt_s (fun j hj => (va_up_ne kcf _ (show j ≠ n by omega)).trans ((hkc j hj).trans (cost_old p b g hj).symm)) (va_up_self kcf n _)⟩)
    · exact False.elim (by omega)
  · exact False.elim (by omega)
abbrev rm_X8_end_ended : Room := { frames := 0, cells := 0, slots := 0, locals := 0 }
set_option maxHeartbeats 4000000 in
set_option maxRecDepth 100000 in
theorem c_X8_end_ended (l : Launch) (D : va_G) (cI cQ : ClassId) (o me kc tc rd tx tb hi ml n e p b : Nat) (g : Nat → Nat) (he : e = 1) : MI l yX8_end cX8_end 1 (some .int) rm_X8_end_ended D (TY cI cQ) [.ref o] [(o, .inr (8, [.ref me, .ref kc, .ref tc, .ref rd, .ref tx, .ref tb, .ref hi])), (me, .inr (4, [.ref ml, .int (nI n), .int (nI e), .int (nI p), .int (nI b)])), (ml, .inl (cI, 40, .inl (fun j => nI (g j))))] (fun (r9 : Int32) (u : Unit) => r9 = (-2) ∧ (True)) (fun (u : Unit) => [(o, .inr (8, [.ref me, .ref kc, .ref tc, .ref rd, .ref tx, .ref tb, .ref hi])), (me, .inr (4, [.ref ml, .int (nI n), .int (nI e), .int (nI p), .int (nI b)])), (ml, .inl (cI, 40, .inl (fun j => nI (g j))))]) 0 0 := by
  refine MI.start (by decide) (Nat.le_of_ble_eq_true rfl) (lv0 := [(0, .ref o)]) rfl ?_
  intro pp9 ee9 ss9 mm9 args9 below9 meth9 co9 A9 Q9 hQ hC hr hlk hnm
  refine V_aload_n hC dX8_end_0 rfl 0 rfl ?_
  refine V_get (ci := 8) (v := .ref me) hC in_X8 0 rfl cls_X8 0 (by decide) fl_X8_12 rfl dX8_end_1 ?_
  refine V_getN (ci := 4) (v := .int (nI e)) hC in_X4 1 rfl cls_X4 2 (by decide) fn_X8_58 rfl dX8_end_4 ?_
  refine V_if_eq (tgt := 13) hC (by omega) dX8_end_7 (by decide) (fun c7 => ?_) (fun c7 => ?_)
  · exact False.elim (by omega)
  · refine V_bipush (v := -2) hC dX8_end_10 (by decide) ?_
    subst hQ
    exact V_iret hC hr hlk rfl (by decide) (by decide) dX8_end_12 (()) [0, 1, 2] rfl (by decide) (⟨rfl, trivial⟩)
abbrev rm_X8_end_ok : Room := { frames := 5, cells := 0, slots := 0, locals := 106 }
set_option maxHeartbeats 4000000 in
set_option maxRecDepth 100000 in
theorem c_X8_end_ok (l : Launch) (D : va_G) (cI cQ : ClassId) (o me kc tc rd tx tb hi ml kco kcr ksp kbi kbr kcs hst m0 r0 m1 r1 m2 r2 m3 r3 n e p b sz : Nat) (g kg kcf : Nat → Nat) (G : Nat → Nat → Nat) (NS ES PS BS : Nat → Nat) (he : e = 0) (hn : n ≤ 40) (hg : ∀ j, j < n → g j < 8) (hp : p ≤ 64) (hb : b ≤ 2000) (hz : sz ≤ 4) (hES : ∀ j, j < 4 → ES j < 2) (hkg : rep kg (sB (cM p b g n e))) (hkc : ∀ j, j < n → kcf j = cost p b g j) : MI l yX8_end cX8_end 1 (some .int) rm_X8_end_ok D (TY cI cQ) [.ref o] [(o, .inr (8, [.ref me, .ref kc, .ref tc, .ref rd, .ref tx, .ref tb, .ref hi])), (me, .inr (4, [.ref ml, .int (nI n), .int (nI e), .int (nI p), .int (nI b)])), (ml, .inl (cI, 40, .inl (fun j => nI (g j)))), (hi, .inr (3, [.ref hst, .int (nI sz)])), (hst, .inl (cQ, 4, .inr (.inr (.inr (.inr (hq m0 m1 m2 m3)))))), (m0, .inr (4, [.ref r0, .int (nI (NS 0)), .int (nI (ES 0)), .int (nI (PS 0)), .int (nI (BS 0))])), (r0, .inl (cI, 40, .inl (fun j => nI ((G 0) j)))), (m1, .inr (4, [.ref r1, .int (nI (NS 1)), .int (nI (ES 1)), .int (nI (PS 1)), .int (nI (BS 1))])), (r1, .inl (cI, 40, .inl (fun j => nI ((G 1) j)))), (m2, .inr (4, [.ref r2, .int (nI (NS 2)), .int (nI (ES 2)), .int (nI (PS 2)), .int (nI (BS 2))])), (r2, .inl (cI, 40, .inl (fun j => nI ((G 2) j)))), (m3, .inr (4, [.ref r3, .int (nI (NS 3)), .int (nI (ES 3)), .int (nI (PS 3)), .int (nI (BS 3))])), (r3, .inl (cI, 40, .inl (fun j => nI ((G 3) j)))), (kc, .inr (1, [.ref kco, .ref ksp, .ref kbi, .ref kcs, .int (nI n), .int (nI (sW (cM p b g n e)))])), (kco, .inr (2, [.ref kcr, .int (nI (sT (cM p b g n e))), .int (nI (sH (cM p b g n e))), .int (nI p), .int (nI b)])), (kcr, .inl (cI, 9, .inl (fun j => nI ((sF (cM p b g n e)) j)))), (ksp, .inr (6, [.int (nI (sL (cM p b g n e))), .int (nI (sU (cM p b g n e)))])), (kbi, .inr (0, [.ref kbr, .int (nI ((sB (cM p b g n e)).length))])), (kbr, .inl (cI, 658, .inl (fun j => nI (kg j)))), (kcs, .inl (cI, 40, .inl (fun j => nI (kcf j))))] (fun (r9 : Int32) (u : (Nat → Nat) × (Nat → Nat)) => r9 = (nI ((sB (cM p b g n 1)).length)) ∧ (rep u.1 (sB (cM p b g n 1)) ∧ ∀ j, j < n → u.2 j = cost p b g j)) (fun (u : (Nat → Nat) × (Nat → Nat)) => [(o, .inr (8, [.ref me, .ref kc, .ref tc, .ref rd, .ref tx, .ref tb, .ref hi])), (me, .inr (4, [.ref ml, .int (nI n), .int (nI 1), .int (nI p), .int (nI b)])), (ml, .inl (cI, 40, .inl (fun j => nI (g j)))), (hi, .inr (3, [.ref hst, .int (nI (hsz sz))])), (hst, .inl (cQ, 4, .inr (.inr (.inr (.inr (hq m0 m1 m2 m3)))))), (m0, .inr (4, [.ref r0, .int (nI (hup NS sz n 0)), .int (nI (hup ES sz 0 0)), .int (nI (hup PS sz p 0)), .int (nI (hup BS sz b 0))])), (r0, .inl (cI, 40, .inl (fun j => nI ((hup G sz g 0) j)))), (m1, .inr (4, [.ref r1, .int (nI (hup NS sz n 1)), .int (nI (hup ES sz 0 1)), .int (nI (hup PS sz p 1)), .int (nI (hup BS sz b 1))])), (r1, .inl (cI, 40, .inl (fun j => nI ((hup G sz g 1) j)))), (m2, .inr (4, [.ref r2, .int (nI (hup NS sz n 2)), .int (nI (hup ES sz 0 2)), .int (nI (hup PS sz p 2)), .int (nI (hup BS sz b 2))])), (r2, .inl (cI, 40, .inl (fun j => nI ((hup G sz g 2) j)))), (m3, .inr (4, [.ref r3, .int (nI (hup NS sz n 3)), .int (nI (hup ES sz 0 3)), .int (nI (hup PS sz p 3)), .int (nI (hup BS sz b 3))])), (r3, .inl (cI, 40, .inl (fun j => nI ((hup G sz g 3) j)))), (kc, .inr (1, [.ref kco, .ref ksp, .ref kbi, .ref kcs, .int (nI n), .int (nI (sW (cM p b g n 1)))])), (kco, .inr (2, [.ref kcr, .int (nI (sT (cM p b g n 1))), .int (nI (sH (cM p b g n 1))), .int (nI p), .int (nI b)])), (kcr, .inl (cI, 9, .inl (fun j => nI ((sF (cM p b g n 1)) j)))), (ksp, .inr (6, [.int (nI (sL (cM p b g n 1))), .int (nI (sU (cM p b g n 1)))])), (kbi, .inr (0, [.ref kbr, .int (nI ((sB (cM p b g n 1)).length))])), (kbr, .inl (cI, 658, .inl (fun j => nI (u.1 j)))), (kcs, .inl (cI, 40, .inl (fun j => nI (u.2 j))))]) 0 0 := by
  refine MI.start (by decide) (Nat.le_of_ble_eq_true rfl) (lv0 := [(0, .ref o)]) rfl ?_
  intro pp9 ee9 ss9 mm9 args9 below9 meth9 co9 A9 Q9 hQ hC hr hlk hnm
  subst he
  refine V_ws (ws2 := [(o, .inr (8, [.ref me, .ref kc, .ref tc, .ref rd, .ref tx, .ref tb, .ref hi])), (me, .inr (4, [.ref ml, .int (nI n), .int (nI 0), .int (nI p), .int (nI b)])), (ml, .inl (cI, 40, .inl (fun j => nI (g j)))), (hi, .inr (3, [.ref hst, .int (nI sz)])), (hst, .inl (cQ, 4, .inr (.inr (.inr (.inr (hq m0 m1 m2 m3)))))), (m0, .inr (4, [.ref r0, .int (nI (NS 0)), .int (nI (ES 0)), .int (nI (PS 0)), .int (nI (BS 0))])), (r0, .inl (cI, 40, .inl (fun j => nI ((G 0) j)))), (m1, .inr (4, [.ref r1, .int (nI (NS 1)), .int (nI (ES 1)), .int (nI (PS 1)), .int (nI (BS 1))])), (r1, .inl (cI, 40, .inl (fun j => nI ((G 1) j)))), (m2, .inr (4, [.ref r2, .int (nI (NS 2)), .int (nI (ES 2)), .int (nI (PS 2)), .int (nI (BS 2))])), (r2, .inl (cI, 40, .inl (fun j => nI ((G 2) j)))), (m3, .inr (4, [.ref r3, .int (nI (NS 3)), .int (nI (ES 3)), .int (nI (PS 3)), .int (nI (BS 3))])), (r3, .inl (cI, 40, .inl (fun j => nI ((G 3) j)))), (kc, .inr (1, [.ref kco, .ref ksp, .ref kbi, .ref kcs, .int (nI n), .int (nI (sW (cR p b g n)))])), (kco, .inr (2, [.ref kcr, .int (nI (sT (cR p b g n))), .int (nI (sH (cR p b g n))), .int (nI p), .int (nI b)])), (kcr, .inl (cI, 9, .inl (fun j => nI ((sF (cR p b g n)) j)))), (ksp, .inr (6, [.int (nI (sL (cR p b g n))), .int (nI (sU (cR p b g n)))])), (kbi, .inr (0, [.ref kbr, .int (nI ((sB (cR p b g n)).length))])), (kbr, .inl (cI, 658, .inl (fun j => nI (kg j)))), (kcs, .inl (cI, 40, .inl (fun j => nI (kcf j))))]) (by rw [cM_0]) ?_
  rw [cM_0] at hkg
  refine V_aload_n hC dX8_end_0 rfl 0 rfl ?_
  refine V_get (ci := 8) (v := .ref me) hC in_X8 0 rfl cls_X8 0 (by decide) fl_X8_12 rfl dX8_end_1 ?_
  refine V_getN (ci := 4) (v := .int (nI 0)) hC in_X4 1 rfl cls_X4 2 (by decide) fn_X8_58 rfl dX8_end_4 ?_
  refine V_if_eq_T (tgt := 13) hC dX8_end_7 (by decide) ((congrArg nI (show 0 = 0 by omega)).trans nI_0) ?_
  refine V_aload_n hC dX8_end_13 rfl 0 rfl ?_
  refine V_get (ci := 8) (v := .ref hi) hC in_X8 0 rfl cls_X8 6 (by decide) fl_X8_50 rfl dX8_end_14 ?_
  refine V_aload_n hC dX8_end_17 rfl 0 rfl ?_
  refine V_get (ci := 8) (v := .ref me) hC in_X8 0 rfl cls_X8 0 (by decide) fl_X8_12 rfl dX8_end_18 ?_
  refine V_callvV (As := [.ref me]) (rest := []) (wr := [(o, .inr (8, [.ref me, .ref kc, .ref tc, .ref rd, .ref tx, .ref tb, .ref hi])), (kc, .inr (1, [.ref kco, .ref ksp, .ref kbi, .ref kcs, .int (nI n), .int (nI (sW (cR p b g n)))])), (kco, .inr (2, [.ref kcr, .int (nI (sT (cR p b g n))), .int (nI (sH (cR p b g n))), .int (nI p), .int (nI b)])), (kcr, .inl (cI, 9, .inl (fun j => nI ((sF (cR p b g n)) j)))), (ksp, .inr (6, [.int (nI (sL (cR p b g n))), .int (nI (sU (cR p b g n)))])), (kbi, .inr (0, [.ref kbr, .int (nI ((sB (cR p b g n)).length))])), (kbr, .inl (cI, 658, .inl (fun j => nI (kg j)))), (kcs, .inl (cI, 40, .inl (fun j => nI (kcf j))))]) hC (c_X3_keep l D cI cQ hi hst sz _ r0 _ r1 _ r2 _ r3 _ _ _ _ _ me ml n 0 p b g (hz) (hES) (by omega)) mok_X3_keep ml_X8_66 (q1 := 0) rfl cls_X3 rfl rfl rfl (by decide) (by decide) (by decide) (Nat.le_of_ble_eq_true rfl) [3, 4, 5, 6, 7, 8, 9, 10, 11, 12, 1, 2] [0, 13, 14, 15, 16, 17, 18, 19] rfl (by decide) rfl (by decide) (by decide) dX8_end_21 rfl (fun u9 h21 => ?_)
  clear h21
  refine V_perm (ws2 := [(o, .inr (8, [.ref me, .ref kc, .ref tc, .ref rd, .ref tx, .ref tb, .ref hi])), (me, .inr (4, [.ref ml, .int (nI n), .int (nI 0), .int (nI p), .int (nI b)])), (ml, .inl (cI, 40, .inl (fun j => nI (g j)))), (hi, .inr (3, [.ref hst, .int (nI (hsz sz))])), (hst, .inl (cQ, 4, .inr (.inr (.inr (.inr (hq m0 m1 m2 m3)))))), (m0, .inr (4, [.ref r0, .int (nI (hup NS sz n 0)), .int (nI (hup ES sz 0 0)), .int (nI (hup PS sz p 0)), .int (nI (hup BS sz b 0))])), (r0, .inl (cI, 40, .inl (fun j => nI ((hup G sz g 0) j)))), (m1, .inr (4, [.ref r1, .int (nI (hup NS sz n 1)), .int (nI (hup ES sz 0 1)), .int (nI (hup PS sz p 1)), .int (nI (hup BS sz b 1))])), (r1, .inl (cI, 40, .inl (fun j => nI ((hup G sz g 1) j)))), (m2, .inr (4, [.ref r2, .int (nI (hup NS sz n 2)), .int (nI (hup ES sz 0 2)), .int (nI (hup PS sz p 2)), .int (nI (hup BS sz b 2))])), (r2, .inl (cI, 40, .inl (fun j => nI ((hup G sz g 2) j)))), (m3, .inr (4, [.ref r3, .int (nI (hup NS sz n 3)), .int (nI (hup ES sz 0 3)), .int (nI (hup PS sz p 3)), .int (nI (hup BS sz b 3))])), (r3, .inl (cI, 40, .inl (fun j => nI ((hup G sz g 3) j)))), (kc, .inr (1, [.ref kco, .ref ksp, .ref kbi, .ref kcs, .int (nI n), .int (nI (sW (cR p b g n)))])), (kco, .inr (2, [.ref kcr, .int (nI (sT (cR p b g n))), .int (nI (sH (cR p b g n))), .int (nI p), .int (nI b)])), (kcr, .inl (cI, 9, .inl (fun j => nI ((sF (cR p b g n)) j)))), (ksp, .inr (6, [.int (nI (sL (cR p b g n))), .int (nI (sU (cR p b g n)))])), (kbi, .inr (0, [.ref kbr, .int (nI ((sB (cR p b g n)).length))])), (kbr, .inl (cI, 658, .inl (fun j => nI (kg j)))), (kcs, .inl (cI, 40, .inl (fun j => nI (kcf j))))]) [0, 18, 19, 8, 9, 10, 11, 12, 13, 14, 15, 16, 17, 1, 2, 3, 4, 5, 6, 7] rfl (by decide) ?_
  refine V_aload_n hC dX8_end_24 rfl 0 rfl ?_
  refine V_get (ci := 8) (v := .ref me) hC in_X8 0 rfl cls_X8 0 (by decide) fl_X8_12 rfl dX8_end_25 ?_
  refine V_iconst (v := nI 1) hC dX8_end_28 (by decide) ?_
  refine V_putN (ci := 4) (v := .int (nI 1)) hC tyX4 tyX4_ok nmX4 in_X4 1 rfl cls_X4 2 (by decide) fn_X8_58 rfl rfl rfl (Nat.le_of_ble_eq_true rfl) dX8_end_29 (ws2 := [(o, .inr (8, [.ref me, .ref kc, .ref tc, .ref rd, .ref tx, .ref tb, .ref hi])), (me, .inr (4, [.ref ml, .int (nI n), .int (nI 1), .int (nI p), .int (nI b)])), (ml, .inl (cI, 40, .inl (fun j => nI (g j)))), (hi, .inr (3, [.ref hst, .int (nI (hsz sz))])), (hst, .inl (cQ, 4, .inr (.inr (.inr (.inr (hq m0 m1 m2 m3)))))), (m0, .inr (4, [.ref r0, .int (nI (hup NS sz n 0)), .int (nI (hup ES sz 0 0)), .int (nI (hup PS sz p 0)), .int (nI (hup BS sz b 0))])), (r0, .inl (cI, 40, .inl (fun j => nI ((hup G sz g 0) j)))), (m1, .inr (4, [.ref r1, .int (nI (hup NS sz n 1)), .int (nI (hup ES sz 0 1)), .int (nI (hup PS sz p 1)), .int (nI (hup BS sz b 1))])), (r1, .inl (cI, 40, .inl (fun j => nI ((hup G sz g 1) j)))), (m2, .inr (4, [.ref r2, .int (nI (hup NS sz n 2)), .int (nI (hup ES sz 0 2)), .int (nI (hup PS sz p 2)), .int (nI (hup BS sz b 2))])), (r2, .inl (cI, 40, .inl (fun j => nI ((hup G sz g 2) j)))), (m3, .inr (4, [.ref r3, .int (nI (hup NS sz n 3)), .int (nI (hup ES sz 0 3)), .int (nI (hup PS sz p 3)), .int (nI (hup BS sz b 3))])), (r3, .inl (cI, 40, .inl (fun j => nI ((hup G sz g 3) j)))), (kc, .inr (1, [.ref kco, .ref ksp, .ref kbi, .ref kcs, .int (nI n), .int (nI (sW (cR p b g n)))])), (kco, .inr (2, [.ref kcr, .int (nI (sT (cR p b g n))), .int (nI (sH (cR p b g n))), .int (nI p), .int (nI b)])), (kcr, .inl (cI, 9, .inl (fun j => nI ((sF (cR p b g n)) j)))), (ksp, .inr (6, [.int (nI (sL (cR p b g n))), .int (nI (sU (cR p b g n)))])), (kbi, .inr (0, [.ref kbr, .int (nI ((sB (cR p b g n)).length))])), (kbr, .inl (cI, 658, .inl (fun j => nI (kg j)))), (kcs, .inl (cI, 40, .inl (fun j => nI (kcf j))))]) rfl ?_
  refine V_aload_n hC dX8_end_32 rfl 0 rfl ?_
  refine V_get (ci := 8) (v := .ref kc) hC in_X8 0 rfl cls_X8 1 (by decide) fl_X8_19 rfl dX8_end_33 ?_
  refine V_callvV (As := []) (rest := []) (wr := [(o, .inr (8, [.ref me, .ref kc, .ref tc, .ref rd, .ref tx, .ref tb, .ref hi])), (me, .inr (4, [.ref ml, .int (nI n), .int (nI 1), .int (nI p), .int (nI b)])), (ml, .inl (cI, 40, .inl (fun j => nI (g j)))), (hi, .inr (3, [.ref hst, .int (nI (hsz sz))])), (hst, .inl (cQ, 4, .inr (.inr (.inr (.inr (hq m0 m1 m2 m3)))))), (m0, .inr (4, [.ref r0, .int (nI (hup NS sz n 0)), .int (nI (hup ES sz 0 0)), .int (nI (hup PS sz p 0)), .int (nI (hup BS sz b 0))])), (r0, .inl (cI, 40, .inl (fun j => nI ((hup G sz g 0) j)))), (m1, .inr (4, [.ref r1, .int (nI (hup NS sz n 1)), .int (nI (hup ES sz 0 1)), .int (nI (hup PS sz p 1)), .int (nI (hup BS sz b 1))])), (r1, .inl (cI, 40, .inl (fun j => nI ((hup G sz g 1) j)))), (m2, .inr (4, [.ref r2, .int (nI (hup NS sz n 2)), .int (nI (hup ES sz 0 2)), .int (nI (hup PS sz p 2)), .int (nI (hup BS sz b 2))])), (r2, .inl (cI, 40, .inl (fun j => nI ((hup G sz g 2) j)))), (m3, .inr (4, [.ref r3, .int (nI (hup NS sz n 3)), .int (nI (hup ES sz 0 3)), .int (nI (hup PS sz p 3)), .int (nI (hup BS sz b 3))])), (r3, .inl (cI, 40, .inl (fun j => nI ((hup G sz g 3) j)))), (kcs, .inl (cI, 40, .inl (fun j => nI (kcf j))))]) hC (c_X1_close l D cI cQ kc kco ksp kbi kcs n kcr kbr p b (cR p b g n) kg (cR_ok hp hb hg) (hkg) (by have := cR_len p b g n; omega)) mok_X1_close ml_X8_78 (q1 := 0) rfl cls_X1 rfl rfl rfl (by decide) (by decide) (by decide) (Nat.le_of_ble_eq_true rfl) [13, 14, 15, 16, 17, 18] [0, 1, 2, 3, 4, 5, 6, 7, 8, 9, 10, 11, 12, 19] rfl (by decide) rfl (by decide) (by decide) dX8_end_36 rfl (fun u9 h36 => ?_)
  obtain ⟨g2_1, rfl⟩ : ∃ z, z = u9 := ⟨_, rfl⟩
  have h36 : rep g2_1 (sB (cEnd (cR p b g n))) := h36
  refine V_perm (ws2 := [(o, .inr (8, [.ref me, .ref kc, .ref tc, .ref rd, .ref tx, .ref tb, .ref hi])), (me, .inr (4, [.ref ml, .int (nI n), .int (nI 1), .int (nI p), .int (nI b)])), (ml, .inl (cI, 40, .inl (fun j => nI (g j)))), (hi, .inr (3, [.ref hst, .int (nI (hsz sz))])), (hst, .inl (cQ, 4, .inr (.inr (.inr (.inr (hq m0 m1 m2 m3)))))), (m0, .inr (4, [.ref r0, .int (nI (hup NS sz n 0)), .int (nI (hup ES sz 0 0)), .int (nI (hup PS sz p 0)), .int (nI (hup BS sz b 0))])), (r0, .inl (cI, 40, .inl (fun j => nI ((hup G sz g 0) j)))), (m1, .inr (4, [.ref r1, .int (nI (hup NS sz n 1)), .int (nI (hup ES sz 0 1)), .int (nI (hup PS sz p 1)), .int (nI (hup BS sz b 1))])), (r1, .inl (cI, 40, .inl (fun j => nI ((hup G sz g 1) j)))), (m2, .inr (4, [.ref r2, .int (nI (hup NS sz n 2)), .int (nI (hup ES sz 0 2)), .int (nI (hup PS sz p 2)), .int (nI (hup BS sz b 2))])), (r2, .inl (cI, 40, .inl (fun j => nI ((hup G sz g 2) j)))), (m3, .inr (4, [.ref r3, .int (nI (hup NS sz n 3)), .int (nI (hup ES sz 0 3)), .int (nI (hup PS sz p 3)), .int (nI (hup BS sz b 3))])), (r3, .inl (cI, 40, .inl (fun j => nI ((hup G sz g 3) j)))), (kc, .inr (1, [.ref kco, .ref ksp, .ref kbi, .ref kcs, .int (nI n), .int (nI (sW (cEnd (cR p b g n))))])), (kco, .inr (2, [.ref kcr, .int (nI (sT (cEnd (cR p b g n)))), .int (nI (sH (cEnd (cR p b g n)))), .int (nI p), .int (nI b)])), (kcr, .inl (cI, 9, .inl (fun j => nI ((sF (cEnd (cR p b g n))) j)))), (ksp, .inr (6, [.int (nI (sL (cEnd (cR p b g n)))), .int (nI (sU (cEnd (cR p b g n))))])), (kbi, .inr (0, [.ref kbr, .int (nI ((sB (cEnd (cR p b g n))).length))])), (kbr, .inl (cI, 658, .inl (fun j => nI (g2_1 j)))), (kcs, .inl (cI, 40, .inl (fun j => nI (kcf j))))]) [0, 1, 2, 3, 4, 5, 6, 7, 8, 9, 10, 11, 12, 14, 15, 16, 17, 18, 19, 13] rfl (by decide) ?_
  refine V_ws (ws2 := [(o, .inr (8, [.ref me, .ref kc, .ref tc, .ref rd, .ref tx, .ref tb, .ref hi])), (me, .inr (4, [.ref ml, .int (nI n), .int (nI 1), .int (nI p), .int (nI b)])), (ml, .inl (cI, 40, .inl (fun j => nI (g j)))), (hi, .inr (3, [.ref hst, .int (nI (hsz sz))])), (hst, .inl (cQ, 4, .inr (.inr (.inr (.inr (hq m0 m1 m2 m3)))))), (m0, .inr (4, [.ref r0, .int (nI (hup NS sz n 0)), .int (nI (hup ES sz 0 0)), .int (nI (hup PS sz p 0)), .int (nI (hup BS sz b 0))])), (r0, .inl (cI, 40, .inl (fun j => nI ((hup G sz g 0) j)))), (m1, .inr (4, [.ref r1, .int (nI (hup NS sz n 1)), .int (nI (hup ES sz 0 1)), .int (nI (hup PS sz p 1)), .int (nI (hup BS sz b 1))])), (r1, .inl (cI, 40, .inl (fun j => nI ((hup G sz g 1) j)))), (m2, .inr (4, [.ref r2, .int (nI (hup NS sz n 2)), .int (nI (hup ES sz 0 2)), .int (nI (hup PS sz p 2)), .int (nI (hup BS sz b 2))])), (r2, .inl (cI, 40, .inl (fun j => nI ((hup G sz g 2) j)))), (m3, .inr (4, [.ref r3, .int (nI (hup NS sz n 3)), .int (nI (hup ES sz 0 3)), .int (nI (hup PS sz p 3)), .int (nI (hup BS sz b 3))])), (r3, .inl (cI, 40, .inl (fun j => nI ((hup G sz g 3) j)))), (kc, .inr (1, [.ref kco, .ref ksp, .ref kbi, .ref kcs, .int (nI n), .int (nI (sW (cM p b g n 1)))])), (kco, .inr (2, [.ref kcr, .int (nI (sT (cM p b g n 1))), .int (nI (sH (cM p b g n 1))), .int (nI p), .int (nI b)])), (kcr, .inl (cI, 9, .inl (fun j => nI ((sF (cM p b g n 1)) j)))), (ksp, .inr (6, [.int (nI (sL (cM p b g n 1))), .int (nI (sU (cM p b g n 1)))])), (kbi, .inr (0, [.ref kbr, .int (nI ((sB (cM p b g n 1)).length))])), (kbr, .inl (cI, 658, .inl (fun j => nI (g2_1 j)))), (kcs, .inl (cI, 40, .inl (fun j => nI (kcf j))))]) (by rw [cM_1]) ?_
  refine V_aload_n hC dX8_end_39 rfl 0 rfl ?_
  refine V_get (ci := 8) (v := .ref kc) hC in_X8 0 rfl cls_X8 1 (by decide) fl_X8_19 rfl dX8_end_40 ?_
  refine V_getN (ci := 1) (v := .ref kbi) hC in_X1 13 rfl cls_X1 2 (by decide) fn_X8_81 rfl dX8_end_43 ?_
  refine V_getN (ci := 0) (v := .int (nI ((sB (cM p b g n 1)).length))) hC in_X0 17 rfl cls_X0 1 (by decide) fn_X8_84 rfl dX8_end_46 ?_
  subst hQ
  exact V_iret hC hr hlk rfl (by decide) (by decide) dX8_end_49 ((g2_1, kcf)) [0, 1, 2, 3, 4, 5, 6, 7, 8, 9, 10, 11, 12, 13, 14, 15, 16, 17, 18, 19] rfl (by decide) (⟨rfl, by rw [cM_1]; exact h36, hkc⟩)
abbrev rm_X8_drop_neg : Room := { frames := 0, cells := 0, slots := 0, locals := 0 }
set_option maxHeartbeats 4000000 in
set_option maxRecDepth 100000 in
theorem c_X8_drop_neg (l : Launch) (D : va_G) (cI cQ : ClassId) (o me kc tc rd tx tb hi : Nat) (x : Int32) (hx : x.toInt < 0) : MI l yX8_drop cX8_drop 2 (some .int) rm_X8_drop_neg D (TY cI cQ) [.ref o, .int (x)] [(o, .inr (8, [.ref me, .ref kc, .ref tc, .ref rd, .ref tx, .ref tb, .ref hi]))] (fun (r9 : Int32) (u : Unit) => r9 = (-1) ∧ (True)) (fun (u : Unit) => [(o, .inr (8, [.ref me, .ref kc, .ref tc, .ref rd, .ref tx, .ref tb, .ref hi]))]) 0 0 := by
  refine MI.start (by decide) (Nat.le_of_ble_eq_true rfl) (lv0 := [(0, .ref o), (1, .int (x))]) rfl ?_
  intro pp9 ee9 ss9 mm9 args9 below9 meth9 co9 A9 Q9 hQ hC hr hlk hnm
  refine V_iload_n hC dX8_drop_0 rfl 1 rfl ?_
  refine V_iconst (v := nI 1) hC dX8_drop_1 (by decide) ?_
  refine V_icmp_lt_T (tgt := 11) hC dX8_drop_2 (by decide) (neg_lt hx (by omega)) ?_
  refine V_iconst (v := -1) hC dX8_drop_11 (by decide) ?_
  subst hQ
  exact V_iret hC hr hlk rfl (by decide) (by decide) dX8_drop_12 (()) [0] rfl (by decide) (⟨rfl, trivial⟩)
abbrev rm_X8_drop_bad : Room := { frames := 0, cells := 0, slots := 0, locals := 0 }
set_option maxHeartbeats 4000000 in
set_option maxRecDepth 100000 in
theorem c_X8_drop_bad (l : Launch) (D : va_G) (cI cQ : ClassId) (o me kc tc rd tx tb hi x : Nat) (hx : (x < 1 ∨ 40 < x) ∧ x < 2147483648) : MI l yX8_drop cX8_drop 2 (some .int) rm_X8_drop_bad D (TY cI cQ) [.ref o, .int (nI x)] [(o, .inr (8, [.ref me, .ref kc, .ref tc, .ref rd, .ref tx, .ref tb, .ref hi]))] (fun (r9 : Int32) (u : Unit) => r9 = (-1) ∧ (True)) (fun (u : Unit) => [(o, .inr (8, [.ref me, .ref kc, .ref tc, .ref rd, .ref tx, .ref tb, .ref hi]))]) 0 0 := by
  refine MI.start (by decide) (Nat.le_of_ble_eq_true rfl) (lv0 := [(0, .ref o), (1, .int (nI x))]) rfl ?_
  intro pp9 ee9 ss9 mm9 args9 below9 meth9 co9 A9 Q9 hQ hC hr hlk hnm
  refine V_iload_n hC dX8_drop_0 rfl 1 rfl ?_
  refine V_iconst (v := nI 1) hC dX8_drop_1 (by decide) ?_
  refine V_icmp_lt (tgt := 11) hC (by omega) (by omega) dX8_drop_2 (by decide) (fun c2 => ?_) (fun c2 => ?_)
  · refine V_iconst (v := -1) hC dX8_drop_11 (by decide) ?_
    subst hQ
    exact V_iret hC hr hlk rfl (by decide) (by decide) dX8_drop_12 (()) [0] rfl (by decide) (⟨rfl, trivial⟩)
  · refine V_iload_n hC dX8_drop_5 rfl 1 rfl ?_
    refine V_bipush (v := nI 40) hC dX8_drop_6 (by decide) ?_
    refine V_icmp_le (tgt := 13) hC (by omega) (by omega) dX8_drop_8 (by decide) (fun c8 => ?_) (fun c8 => ?_)
    · exact False.elim (by omega)
    · refine V_iconst (v := -1) hC dX8_drop_11 (by decide) ?_
      subst hQ
      exact V_iret hC hr hlk rfl (by decide) (by decide) dX8_drop_12 (()) [0] rfl (by decide) (⟨rfl, trivial⟩)
abbrev rm_X8_drop_not : Room := { frames := 0, cells := 0, slots := 0, locals := 0 }
set_option maxHeartbeats 4000000 in
set_option maxRecDepth 100000 in
theorem c_X8_drop_not (l : Launch) (D : va_G) (cI cQ : ClassId) (o me kc tc rd tx tb hi ml n e p b x : Nat) (g : Nat → Nat) (hx : 1 ≤ x ∧ x ≤ 40) (hn : n < x) : MI l yX8_drop cX8_drop 2 (some .int) rm_X8_drop_not D (TY cI cQ) [.ref o, .int (nI x)] [(o, .inr (8, [.ref me, .ref kc, .ref tc, .ref rd, .ref tx, .ref tb, .ref hi])), (me, .inr (4, [.ref ml, .int (nI n), .int (nI e), .int (nI p), .int (nI b)])), (ml, .inl (cI, 40, .inl (fun j => nI (g j))))] (fun (r9 : Int32) (u : Unit) => r9 = (-2) ∧ (True)) (fun (u : Unit) => [(o, .inr (8, [.ref me, .ref kc, .ref tc, .ref rd, .ref tx, .ref tb, .ref hi])), (me, .inr (4, [.ref ml, .int (nI n), .int (nI e), .int (nI p), .int (nI b)])), (ml, .inl (cI, 40, .inl (fun j => nI (g j))))]) 0 0 := by
  refine MI.start (by decide) (Nat.le_of_ble_eq_true rfl) (lv0 := [(0, .ref o), (1, .int (nI x))]) rfl ?_
  intro pp9 ee9 ss9 mm9 args9 below9 meth9 co9 A9 Q9 hQ hC hr hlk hnm
  refine V_iload_n hC dX8_drop_0 rfl 1 rfl ?_
  refine V_iconst (v := nI 1) hC dX8_drop_1 (by decide) ?_
  refine V_icmp_lt (tgt := 11) hC (by omega) (by omega) dX8_drop_2 (by decide) (fun c2 => ?_) (fun c2 => ?_)
  · exact False.elim (by omega)
  · refine V_iload_n hC dX8_drop_5 rfl 1 rfl ?_
    refine V_bipush (v := nI 40) hC dX8_drop_6 (by decide) ?_
    refine V_icmp_le (tgt := 13) hC (by omega) (by omega) dX8_drop_8 (by decide) (fun c8 => ?_) (fun c8 => ?_)
    · refine V_iload_n hC dX8_drop_13 rfl 1 rfl ?_
      refine V_aload_n hC dX8_drop_14 rfl 0 rfl ?_
      refine V_get (ci := 8) (v := .ref me) hC in_X8 0 rfl cls_X8 0 (by decide) fl_X8_12 rfl dX8_drop_15 ?_
      refine V_getN (ci := 4) (v := .int (nI n)) hC in_X4 1 rfl cls_X4 1 (by decide) fn_X8_62 rfl dX8_drop_18 ?_
      refine V_icmp_le (tgt := 27) hC (by omega) (by omega) dX8_drop_21 (by decide) (fun c21 => ?_) (fun c21 => ?_)
      · exact False.elim (by omega)
      · refine V_bipush (v := -2) hC dX8_drop_24 (by decide) ?_
        subst hQ
        exact V_iret hC hr hlk rfl (by decide) (by decide) dX8_drop_26 (()) [0, 1, 2] rfl (by decide) (⟨rfl, trivial⟩)
    · exact False.elim (by omega)
abbrev rm_X8_drop_ok : Room := { frames := 6, cells := 0, slots := 0, locals := 137 }
set_option maxHeartbeats 4000000 in
set_option maxRecDepth 100000 in
theorem c_X8_drop_ok (l : Launch) (D : va_G) (cI cQ : ClassId) (o me kc tc rd tx tb hi ml kco kcr ksp kbi kbr kcs hst m0 r0 m1 r1 m2 r2 m3 r3 n e p b sz x : Nat) (g kg kcf : Nat → Nat) (G : Nat → Nat → Nat) (NS ES PS BS : Nat → Nat) (hx : 1 ≤ x ∧ x ≤ n) (hn : n ≤ 40) (hg : ∀ j, j < n → g j < 8) (he : e < 2) (hp : p ≤ 64) (hb : b ≤ 2000) (hz : sz ≤ 4) (hES : ∀ j, j < 4 → ES j < 2) : MI l yX8_drop cX8_drop 2 (some .int) rm_X8_drop_ok D (TY cI cQ) [.ref o, .int (nI x)] [(o, .inr (8, [.ref me, .ref kc, .ref tc, .ref rd, .ref tx, .ref tb, .ref hi])), (me, .inr (4, [.ref ml, .int (nI n), .int (nI e), .int (nI p), .int (nI b)])), (ml, .inl (cI, 40, .inl (fun j => nI (g j)))), (hi, .inr (3, [.ref hst, .int (nI sz)])), (hst, .inl (cQ, 4, .inr (.inr (.inr (.inr (hq m0 m1 m2 m3)))))), (m0, .inr (4, [.ref r0, .int (nI (NS 0)), .int (nI (ES 0)), .int (nI (PS 0)), .int (nI (BS 0))])), (r0, .inl (cI, 40, .inl (fun j => nI ((G 0) j)))), (m1, .inr (4, [.ref r1, .int (nI (NS 1)), .int (nI (ES 1)), .int (nI (PS 1)), .int (nI (BS 1))])), (r1, .inl (cI, 40, .inl (fun j => nI ((G 1) j)))), (m2, .inr (4, [.ref r2, .int (nI (NS 2)), .int (nI (ES 2)), .int (nI (PS 2)), .int (nI (BS 2))])), (r2, .inl (cI, 40, .inl (fun j => nI ((G 2) j)))), (m3, .inr (4, [.ref r3, .int (nI (NS 3)), .int (nI (ES 3)), .int (nI (PS 3)), .int (nI (BS 3))])), (r3, .inl (cI, 40, .inl (fun j => nI ((G 3) j)))), (kc, .inr (1, [.ref kco, .ref ksp, .ref kbi, .ref kcs, .int (nI n), .int (nI (sW (cM p b g n e)))])), (kco, .inr (2, [.ref kcr, .int (nI (sT (cM p b g n e))), .int (nI (sH (cM p b g n e))), .int (nI p), .int (nI b)])), (kcr, .inl (cI, 9, .inl (fun j => nI ((sF (cM p b g n e)) j)))), (ksp, .inr (6, [.int (nI (sL (cM p b g n e))), .int (nI (sU (cM p b g n e)))])), (kbi, .inr (0, [.ref kbr, .int (nI ((sB (cM p b g n e)).length))])), (kbr, .inl (cI, 658, .inl (fun j => nI (kg j)))), (kcs, .inl (cI, 40, .inl (fun j => nI (kcf j))))] (fun (r9 : Int32) (u : (Nat → Nat) × (Nat → Nat)) => r9 = (nI ((sB (cM p b g (n - x) 0)).length)) ∧ (rep u.1 (sB (cM p b g (n - x) 0)) ∧ ∀ j, j < n - x → u.2 j = cost p b g j)) (fun (u : (Nat → Nat) × (Nat → Nat)) => [(o, .inr (8, [.ref me, .ref kc, .ref tc, .ref rd, .ref tx, .ref tb, .ref hi])), (me, .inr (4, [.ref ml, .int (nI (n - x)), .int (nI 0), .int (nI p), .int (nI b)])), (ml, .inl (cI, 40, .inl (fun j => nI (g j)))), (hi, .inr (3, [.ref hst, .int (nI (hsz sz))])), (hst, .inl (cQ, 4, .inr (.inr (.inr (.inr (hq m0 m1 m2 m3)))))), (m0, .inr (4, [.ref r0, .int (nI (hup NS sz n 0)), .int (nI (hup ES sz e 0)), .int (nI (hup PS sz p 0)), .int (nI (hup BS sz b 0))])), (r0, .inl (cI, 40, .inl (fun j => nI ((hup G sz g 0) j)))), (m1, .inr (4, [.ref r1, .int (nI (hup NS sz n 1)), .int (nI (hup ES sz e 1)), .int (nI (hup PS sz p 1)), .int (nI (hup BS sz b 1))])), (r1, .inl (cI, 40, .inl (fun j => nI ((hup G sz g 1) j)))), (m2, .inr (4, [.ref r2, .int (nI (hup NS sz n 2)), .int (nI (hup ES sz e 2)), .int (nI (hup PS sz p 2)), .int (nI (hup BS sz b 2))])), (r2, .inl (cI, 40, .inl (fun j => nI ((hup G sz g 2) j)))), (m3, .inr (4, [.ref r3, .int (nI (hup NS sz n 3)), .int (nI (hup ES sz e 3)), .int (nI (hup PS sz p 3)), .int (nI (hup BS sz b 3))])), (r3, .inl (cI, 40, .inl (fun j => nI ((hup G sz g 3) j)))), (kc, .inr (1, [.ref kco, .ref ksp, .ref kbi, .ref kcs, .int (nI (n - x)), .int (nI (sW (cM p b g (n - x) 0)))])), (kco, .inr (2, [.ref kcr, .int (nI (sT (cM p b g (n - x) 0))), .int (nI (sH (cM p b g (n - x) 0))), .int (nI p), .int (nI b)])), (kcr, .inl (cI, 9, .inl (fun j => nI ((sF (cM p b g (n - x) 0)) j)))), (ksp, .inr (6, [.int (nI (sL (cM p b g (n - x) 0))), .int (nI (sU (cM p b g (n - x) 0)))])), (kbi, .inr (0, [.ref kbr, .int (nI ((sB (cM p b g (n - x) 0)).length))])), (kbr, .inl (cI, 658, .inl (fun j => nI (u.1 j)))), (kcs, .inl (cI, 40, .inl (fun j => nI (u.2 j))))]) 0 0 := by
  refine MI.start (by decide) (Nat.le_of_ble_eq_true rfl) (lv0 := [(0, .ref o), (1, .int (nI x))]) rfl ?_
  intro pp9 ee9 ss9 mm9 args9 below9 meth9 co9 A9 Q9 hQ hC hr hlk hnm
  refine V_iload_n hC dX8_drop_0 rfl 1 rfl ?_
  refine V_iconst (v := nI 1) hC dX8_drop_1 (by decide) ?_
  refine V_icmp_lt (tgt := 11) hC (by omega) (by omega) dX8_drop_2 (by decide) (fun c2 => ?_) (fun c2 => ?_)
  · exact False.elim (by omega)
  · refine V_iload_n hC dX8_drop_5 rfl 1 rfl ?_
    refine V_bipush (v := nI 40) hC dX8_drop_6 (by decide) ?_
    refine V_icmp_le (tgt := 13) hC (by omega) (by omega) dX8_drop_8 (by decide) (fun c8 => ?_) (fun c8 => ?_)
    · refine V_iload_n hC dX8_drop_13 rfl 1 rfl ?_
      refine V_aload_n hC dX8_drop_14 rfl 0 rfl ?_
      refine V_get (ci := 8) (v := .ref me) hC in_X8 0 rfl cls_X8 0 (by decide) fl_X8_12 rfl dX8_drop_15 ?_
      refine V_getN (ci := 4) (v := .int (nI n)) hC in_X4 1 rfl cls_X4 1 (by decide) fn_X8_62 rfl dX8_drop_18 ?_
      refine V_icmp_le (tgt := 27) hC (by omega) (by omega) dX8_drop_21 (by decide) (fun c21 => ?_) (fun c21 => ?_)
      · refine V_aload_n hC dX8_drop_27 rfl 0 rfl ?_
        refine V_get (ci := 8) (v := .ref hi) hC in_X8 0 rfl cls_X8 6 (by decide) fl_X8_50 rfl dX8_drop_28 ?_
        refine V_aload_n hC dX8_drop_31 rfl 0 rfl ?_
        refine V_get (ci := 8) (v := .ref me) hC in_X8 0 rfl cls_X8 0 (by decide) fl_X8_12 rfl dX8_drop_32 ?_
        refine V_callvV (As := [.ref me]) (rest := []) (wr := [(o, .inr (8, [.ref me, .ref kc, .ref tc, .ref rd, .ref tx, .ref tb, .ref hi])), (kc, .inr (1, [.ref kco, .ref ksp, .ref kbi, .ref kcs, .int (nI n), .int (nI (sW (cM p b g n e)))])), (kco, .inr (2, [.ref kcr, .int (nI (sT (cM p b g n e))), .int (nI (sH (cM p b g n e))), .int (nI p), .int (nI b)])), (kcr, .inl (cI, 9, .inl (fun j => nI ((sF (cM p b g n e)) j)))), (ksp, .inr (6, [.int (nI (sL (cM p b g n e))), .int (nI (sU (cM p b g n e)))])), (kbi, .inr (0, [.ref kbr, .int (nI ((sB (cM p b g n e)).length))])), (kbr, .inl (cI, 658, .inl (fun j => nI (kg j)))), (kcs, .inl (cI, 40, .inl (fun j => nI (kcf j))))]) hC (c_X3_keep l D cI cQ hi hst sz _ r0 _ r1 _ r2 _ r3 _ _ _ _ _ me ml n e p b g (hz) (hES) (he)) mok_X3_keep ml_X8_66 (q1 := 0) rfl cls_X3 rfl rfl rfl (by decide) (by decide) (by decide) (Nat.le_of_ble_eq_true rfl) [3, 4, 5, 6, 7, 8, 9, 10, 11, 12, 1, 2] [0, 13, 14, 15, 16, 17, 18, 19] rfl (by decide) rfl (by decide) (by decide) dX8_drop_35 rfl (fun u9 h35 => ?_)
        clear h35
        refine V_perm (ws2 := [(o, .inr (8, [.ref me, .ref kc, .ref tc, .ref rd, .ref tx, .ref tb, .ref hi])), (me, .inr (4, [.ref ml, .int (nI n), .int (nI e), .int (nI p), .int (nI b)])), (ml, .inl (cI, 40, .inl (fun j => nI (g j)))), (hi, .inr (3, [.ref hst, .int (nI (hsz sz))])), (hst, .inl (cQ, 4, .inr (.inr (.inr (.inr (hq m0 m1 m2 m3)))))), (m0, .inr (4, [.ref r0, .int (nI (hup NS sz n 0)), .int (nI (hup ES sz e 0)), .int (nI (hup PS sz p 0)), .int (nI (hup BS sz b 0))])), (r0, .inl (cI, 40, .inl (fun j => nI ((hup G sz g 0) j)))), (m1, .inr (4, [.ref r1, .int (nI (hup NS sz n 1)), .int (nI (hup ES sz e 1)), .int (nI (hup PS sz p 1)), .int (nI (hup BS sz b 1))])), (r1, .inl (cI, 40, .inl (fun j => nI ((hup G sz g 1) j)))), (m2, .inr (4, [.ref r2, .int (nI (hup NS sz n 2)), .int (nI (hup ES sz e 2)), .int (nI (hup PS sz p 2)), .int (nI (hup BS sz b 2))])), (r2, .inl (cI, 40, .inl (fun j => nI ((hup G sz g 2) j)))), (m3, .inr (4, [.ref r3, .int (nI (hup NS sz n 3)), .int (nI (hup ES sz e 3)), .int (nI (hup PS sz p 3)), .int (nI (hup BS sz b 3))])), (r3, .inl (cI, 40, .inl (fun j => nI ((hup G sz g 3) j)))), (kc, .inr (1, [.ref kco, .ref ksp, .ref kbi, .ref kcs, .int (nI n), .int (nI (sW (cM p b g n e)))])), (kco, .inr (2, [.ref kcr, .int (nI (sT (cM p b g n e))), .int (nI (sH (cM p b g n e))), .int (nI p), .int (nI b)])), (kcr, .inl (cI, 9, .inl (fun j => nI ((sF (cM p b g n e)) j)))), (ksp, .inr (6, [.int (nI (sL (cM p b g n e))), .int (nI (sU (cM p b g n e)))])), (kbi, .inr (0, [.ref kbr, .int (nI ((sB (cM p b g n e)).length))])), (kbr, .inl (cI, 658, .inl (fun j => nI (kg j)))), (kcs, .inl (cI, 40, .inl (fun j => nI (kcf j))))]) [0, 18, 19, 8, 9, 10, 11, 12, 13, 14, 15, 16, 17, 1, 2, 3, 4, 5, 6, 7] rfl (by decide) ?_
        refine V_aload_n hC dX8_drop_38 rfl 0 rfl ?_
        refine V_get (ci := 8) (v := .ref me) hC in_X8 0 rfl cls_X8 0 (by decide) fl_X8_12 rfl dX8_drop_39 ?_
        refine V_iload_n hC dX8_drop_42 rfl 1 rfl ?_
        refine V_callvV (As := [.int (nI x)]) (rest := []) (wr := [(o, .inr (8, [.ref me, .ref kc, .ref tc, .ref rd, .ref tx, .ref tb, .ref hi])), (ml, .inl (cI, 40, .inl (fun j => nI (g j)))), (hi, .inr (3, [.ref hst, .int (nI (hsz sz))])), (hst, .inl (cQ, 4, .inr (.inr (.inr (.inr (hq m0 m1 m2 m3)))))), (m0, .inr (4, [.ref r0, .int (nI (hup NS sz n 0)), .int (nI (hup ES sz e 0)), .int (nI (hup PS sz p 0)), .int (nI (hup BS sz b 0))])), (r0, .inl (cI, 40, .inl (fun j => nI ((hup G sz g 0) j)))), (m1, .inr (4, [.ref r1, .int (nI (hup NS sz n 1)), .int (nI (hup ES sz e 1)), .int (nI (hup PS sz p 1)), .int (nI (hup BS sz b 1))])), (r1, .inl (cI, 40, .inl (fun j => nI ((hup G sz g 1) j)))), (m2, .inr (4, [.ref r2, .int (nI (hup NS sz n 2)), .int (nI (hup ES sz e 2)), .int (nI (hup PS sz p 2)), .int (nI (hup BS sz b 2))])), (r2, .inl (cI, 40, .inl (fun j => nI ((hup G sz g 2) j)))), (m3, .inr (4, [.ref r3, .int (nI (hup NS sz n 3)), .int (nI (hup ES sz e 3)), .int (nI (hup PS sz p 3)), .int (nI (hup BS sz b 3))])), (r3, .inl (cI, 40, .inl (fun j => nI ((hup G sz g 3) j)))), (kc, .inr (1, [.ref kco, .ref ksp, .ref kbi, .ref kcs, .int (nI n), .int (nI (sW (cM p b g n e)))])), (kco, .inr (2, [.ref kcr, .int (nI (sT (cM p b g n e))), .int (nI (sH (cM p b g n e))), .int (nI p), .int (nI b)])), (kcr, .inl (cI, 9, .inl (fun j => nI ((sF (cM p b g n e)) j)))), (ksp, .inr (6, [.int (nI (sL (cM p b g n e))), .int (nI (sU (cM p b g n e)))])), (kbi, .inr (0, [.ref kbr, .int (nI ((sB (cM p b g n e)).length))])), (kbr, .inl (cI, 658, .inl (fun j => nI (kg j)))), (kcs, .inl (cI, 40, .inl (fun j => nI (kcf j))))]) hC (c_X4_shorten l D cI cQ me ml n e p b x (by omega) (by omega)) mok_X4_shorten ml_X8_91 (q1 := 0) rfl cls_X4 rfl rfl rfl (by decide) (by decide) (by decide) (Nat.le_of_ble_eq_true rfl) [1] [0, 2, 3, 4, 5, 6, 7, 8, 9, 10, 11, 12, 13, 14, 15, 16, 17, 18, 19] rfl (by decide) rfl (by decide) (by decide) dX8_drop_43 rfl (fun u9 h43 => ?_)
        clear h43
        refine V_perm (ws2 := [(o, .inr (8, [.ref me, .ref kc, .ref tc, .ref rd, .ref tx, .ref tb, .ref hi])), (me, .inr (4, [.ref ml, .int (nI (n - x)), .int (nI 0), .int (nI p), .int (nI b)])), (ml, .inl (cI, 40, .inl (fun j => nI (g j)))), (hi, .inr (3, [.ref hst, .int (nI (hsz sz))])), (hst, .inl (cQ, 4, .inr (.inr (.inr (.inr (hq m0 m1 m2 m3)))))), (m0, .inr (4, [.ref r0, .int (nI (hup NS sz n 0)), .int (nI (hup ES sz e 0)), .int (nI (hup PS sz p 0)), .int (nI (hup BS sz b 0))])), (r0, .inl (cI, 40, .inl (fun j => nI ((hup G sz g 0) j)))), (m1, .inr (4, [.ref r1, .int (nI (hup NS sz n 1)), .int (nI (hup ES sz e 1)), .int (nI (hup PS sz p 1)), .int (nI (hup BS sz b 1))])), (r1, .inl (cI, 40, .inl (fun j => nI ((hup G sz g 1) j)))), (m2, .inr (4, [.ref r2, .int (nI (hup NS sz n 2)), .int (nI (hup ES sz e 2)), .int (nI (hup PS sz p 2)), .int (nI (hup BS sz b 2))])), (r2, .inl (cI, 40, .inl (fun j => nI ((hup G sz g 2) j)))), (m3, .inr (4, [.ref r3, .int (nI (hup NS sz n 3)), .int (nI (hup ES sz e 3)), .int (nI (hup PS sz p 3)), .int (nI (hup BS sz b 3))])), (r3, .inl (cI, 40, .inl (fun j => nI ((hup G sz g 3) j)))), (kc, .inr (1, [.ref kco, .ref ksp, .ref kbi, .ref kcs, .int (nI n), .int (nI (sW (cM p b g n e)))])), (kco, .inr (2, [.ref kcr, .int (nI (sT (cM p b g n e))), .int (nI (sH (cM p b g n e))), .int (nI p), .int (nI b)])), (kcr, .inl (cI, 9, .inl (fun j => nI ((sF (cM p b g n e)) j)))), (ksp, .inr (6, [.int (nI (sL (cM p b g n e))), .int (nI (sU (cM p b g n e)))])), (kbi, .inr (0, [.ref kbr, .int (nI ((sB (cM p b g n e)).length))])), (kbr, .inl (cI, 658, .inl (fun j => nI (kg j)))), (kcs, .inl (cI, 40, .inl (fun j => nI (kcf j))))]) [0, 19, 1, 2, 3, 4, 5, 6, 7, 8, 9, 10, 11, 12, 13, 14, 15, 16, 17, 18] rfl (by decide) ?_
        refine V_aload_n hC dX8_drop_46 rfl 0 rfl ?_
        refine V_callvV (As := []) (rest := []) (wr := [(hi, .inr (3, [.ref hst, .int (nI (hsz sz))])), (hst, .inl (cQ, 4, .inr (.inr (.inr (.inr (hq m0 m1 m2 m3)))))), (m0, .inr (4, [.ref r0, .int (nI (hup NS sz n 0)), .int (nI (hup ES sz e 0)), .int (nI (hup PS sz p 0)), .int (nI (hup BS sz b 0))])), (r0, .inl (cI, 40, .inl (fun j => nI ((hup G sz g 0) j)))), (m1, .inr (4, [.ref r1, .int (nI (hup NS sz n 1)), .int (nI (hup ES sz e 1)), .int (nI (hup PS sz p 1)), .int (nI (hup BS sz b 1))])), (r1, .inl (cI, 40, .inl (fun j => nI ((hup G sz g 1) j)))), (m2, .inr (4, [.ref r2, .int (nI (hup NS sz n 2)), .int (nI (hup ES sz e 2)), .int (nI (hup PS sz p 2)), .int (nI (hup BS sz b 2))])), (r2, .inl (cI, 40, .inl (fun j => nI ((hup G sz g 2) j)))), (m3, .inr (4, [.ref r3, .int (nI (hup NS sz n 3)), .int (nI (hup ES sz e 3)), .int (nI (hup PS sz p 3)), .int (nI (hup BS sz b 3))])), (r3, .inl (cI, 40, .inl (fun j => nI ((hup G sz g 3) j))))]) hC (c_X8_writeAnew l D cI cQ o me kc tc rd tx tb hi ml kco kcr ksp kbi kbr kcs n (sW (cM p b g n e)) (sT (cM p b g n e)) (sH (cM p b g n e)) p b (sL (cM p b g n e)) (sU (cM p b g n e)) ((sB (cM p b g n e)).length) (n - x) 0 p b g (sF (cM p b g n e)) kg kcf (by omega) (fun j hj => hg j (by omega)) (by omega) (by omega) (by omega)) mok_X8_writeAnew ml_X8_88 (q1 := 0) rfl cls_X8 rfl rfl rfl (by decide) (by decide) (by decide) (Nat.le_of_ble_eq_true rfl) [0, 1, 2, 13, 14, 15, 16, 17, 18, 19] [3, 4, 5, 6, 7, 8, 9, 10, 11, 12] rfl (by decide) rfl (by decide) (by decide) dX8_drop_47 rfl (fun u9 h47 => ?_)
        obtain ⟨kg2_1, kcf2_2⟩ := u9
        have h47 : rep kg2_1 (sB (cM p b g (n - x) 0)) ∧ ∀ j, j < (n - x) → kcf2_2 j = cost p b g j := h47
        refine V_perm (ws2 := [(o, .inr (8, [.ref me, .ref kc, .ref tc, .ref rd, .ref tx, .ref tb, .ref hi])), (me, .inr (4, [.ref ml, .int (nI ((n - x))), .int (nI 0), .int (nI p), .int (nI b)])), (ml, .inl (cI, 40, .inl (fun j => nI (g j)))), (hi, .inr (3, [.ref hst, .int (nI (hsz sz))])), (hst, .inl (cQ, 4, .inr (.inr (.inr (.inr (hq m0 m1 m2 m3)))))), (m0, .inr (4, [.ref r0, .int (nI (hup NS sz n 0)), .int (nI (hup ES sz e 0)), .int (nI (hup PS sz p 0)), .int (nI (hup BS sz b 0))])), (r0, .inl (cI, 40, .inl (fun j => nI ((hup G sz g 0) j)))), (m1, .inr (4, [.ref r1, .int (nI (hup NS sz n 1)), .int (nI (hup ES sz e 1)), .int (nI (hup PS sz p 1)), .int (nI (hup BS sz b 1))])), (r1, .inl (cI, 40, .inl (fun j => nI ((hup G sz g 1) j)))), (m2, .inr (4, [.ref r2, .int (nI (hup NS sz n 2)), .int (nI (hup ES sz e 2)), .int (nI (hup PS sz p 2)), .int (nI (hup BS sz b 2))])), (r2, .inl (cI, 40, .inl (fun j => nI ((hup G sz g 2) j)))), (m3, .inr (4, [.ref r3, .int (nI (hup NS sz n 3)), .int (nI (hup ES sz e 3)), .int (nI (hup PS sz p 3)), .int (nI (hup BS sz b 3))])), (r3, .inl (cI, 40, .inl (fun j => nI ((hup G sz g 3) j)))), (kc, .inr (1, [.ref kco, .ref ksp, .ref kbi, .ref kcs, .int (nI ((n - x))), .int (nI (sW (cM p b g (n - x) 0)))])), (kco, .inr (2, [.ref kcr, .int (nI (sT (cM p b g (n - x) 0))), .int (nI (sH (cM p b g (n - x) 0))), .int (nI p), .int (nI b)])), (kcr, .inl (cI, 9, .inl (fun j => nI ((sF (cM p b g (n - x) 0)) j)))), (ksp, .inr (6, [.int (nI (sL (cM p b g (n - x) 0))), .int (nI (sU (cM p b g (n - x) 0)))])), (kbi, .inr (0, [.ref kbr, .int (nI ((sB (cM p b g (n - x) 0)).length))])), (kbr, .inl (cI, 658, .inl (fun j => nI (kg2_1 j)))), (kcs, .inl (cI, 40, .inl (fun j => nI (kcf2_2 j))))]) [10, 11, 12, 0, 1, 2, 3, 4, 5, 6, 7, 8, 9, 13, 14, 15, 16, 17, 18, 19] rfl (by decide) ?_
        refine V_aload_n hC dX8_drop_50 rfl 0 rfl ?_
        refine V_get (ci := 8) (v := .ref kc) hC in_X8 0 rfl cls_X8 1 (by decide) fl_X8_19 rfl dX8_drop_51 ?_
        refine V_getN (ci := 1) (v := .ref kbi) hC in_X1 13 rfl cls_X1 2 (by decide) fn_X8_81 rfl dX8_drop_54 ?_
        refine V_getN (ci := 0) (v := .int (nI ((sB (cM p b g (n - x) 0)).length))) hC in_X0 17 rfl cls_X0 1 (by decide) fn_X8_84 rfl dX8_drop_57 ?_
        subst hQ
        exact V_iret hC hr hlk rfl (by decide) (by decide) dX8_drop_60 ((kg2_1, kcf2_2)) [0, 1, 2, 3, 4, 5, 6, 7, 8, 9, 10, 11, 12, 13, 14, 15, 16, 17, 18, 19] rfl (by decide) (⟨rfl, h47⟩)
      · exact False.elim (by omega)
    · exact False.elim (by omega)
abbrev rm_X8_mend_ineg : Room := { frames := 0, cells := 0, slots := 0, locals := 0 }
set_option maxHeartbeats 4000000 in
set_option maxRecDepth 100000 in
theorem c_X8_mend_ineg (l : Launch) (D : va_G) (cI cQ : ClassId) (o me kc tc rd tx tb hi : Nat) (i x : Int32) (hi9 : i.toInt < 0) : MI l yX8_mend cX8_mend 3 (some .int) rm_X8_mend_ineg D (TY cI cQ) [.ref o, .int (i), .int (x)] [(o, .inr (8, [.ref me, .ref kc, .ref tc, .ref rd, .ref tx, .ref tb, .ref hi]))] (fun (r9 : Int32) (u : Unit) => r9 = (-1) ∧ (True)) (fun (u : Unit) => [(o, .inr (8, [.ref me, .ref kc, .ref tc, .ref rd, .ref tx, .ref tb, .ref hi]))]) 0 0 := by
  refine MI.start (by decide) (Nat.le_of_ble_eq_true rfl) (lv0 := [(0, .ref o), (1, .int (i)), (2, .int (x))]) rfl ?_
  intro pp9 ee9 ss9 mm9 args9 below9 meth9 co9 A9 Q9 hQ hC hr hlk hnm
  refine V_iload_n hC dX8_mend_0 rfl 1 rfl ?_
  refine V_if_lt_T (tgt := 11) hC dX8_mend_1 (by decide) (Int32.lt_iff_toInt_lt.mpr hi9) ?_
  refine V_iconst (v := -1) hC dX8_mend_11 (by decide) ?_
  subst hQ
  exact V_iret hC hr hlk rfl (by decide) (by decide) dX8_mend_12 (()) [0] rfl (by decide) (⟨rfl, trivial⟩)
abbrev rm_X8_mend_xneg : Room := { frames := 1, cells := 0, slots := 0, locals := 20 }
set_option maxHeartbeats 4000000 in
set_option maxRecDepth 100000 in
theorem c_X8_mend_xneg (l : Launch) (D : va_G) (cI cQ : ClassId) (o me kc tc rd tx tb hi i : Nat) (x : Int32) (hi9 : i < 2147483648) (hx : x.toInt < 0) : MI l yX8_mend cX8_mend 3 (some .int) rm_X8_mend_xneg D (TY cI cQ) [.ref o, .int (nI i), .int (x)] [(o, .inr (8, [.ref me, .ref kc, .ref tc, .ref rd, .ref tx, .ref tb, .ref hi]))] (fun (r9 : Int32) (u : Unit) => r9 = (-1) ∧ (True)) (fun (u : Unit) => [(o, .inr (8, [.ref me, .ref kc, .ref tc, .ref rd, .ref tx, .ref tb, .ref hi]))]) 0 0 := by
  refine MI.start (by decide) (Nat.le_of_ble_eq_true rfl) (lv0 := [(0, .ref o), (1, .int (nI i)), (2, .int (x))]) rfl ?_
  intro pp9 ee9 ss9 mm9 args9 below9 meth9 co9 A9 Q9 hQ hC hr hlk hnm
  refine V_iload_n hC dX8_mend_0 rfl 1 rfl ?_
  refine V_if_lt_F (tgt := 11) hC dX8_mend_1 (by decide) (nI_pos (by omega)) ?_
  refine V_iload_n hC dX8_mend_4 rfl 2 rfl ?_
  refine V_calliS (As := [.int (x)]) (rest := []) (wr := [(o, .inr (8, [.ref me, .ref kc, .ref tc, .ref rd, .ref tx, .ref tb, .ref hi]))]) hC (c_X8_isLetter_neg l D cI cQ x (hx)) mok_X8_isLetter ml_X8_54 rfl rfl rfl (by decide) (by decide) (by decide) (Nat.le_of_ble_eq_true rfl) [] [0] rfl (by decide) rfl (by decide) (by decide) dX8_mend_5 rfl (fun r9 u9 h5 => ?_)
  obtain ⟨rfl, h5⟩ := h5
  clear h5
  refine V_perm (ws2 := [(o, .inr (8, [.ref me, .ref kc, .ref tc, .ref rd, .ref tx, .ref tb, .ref hi]))]) [0] rfl (by decide) ?_
  refine V_if_ne_F (tgt := 13) hC dX8_mend_8 (by decide) ((congrArg nI (show 0 = 0 by omega)).trans nI_0) ?_
  refine V_iconst (v := -1) hC dX8_mend_11 (by decide) ?_
  subst hQ
  exact V_iret hC hr hlk rfl (by decide) (by decide) dX8_mend_12 (()) [0] rfl (by decide) (⟨rfl, trivial⟩)
abbrev rm_X8_mend_bad : Room := { frames := 1, cells := 0, slots := 0, locals := 20 }
set_option maxHeartbeats 4000000 in
set_option maxRecDepth 100000 in
theorem c_X8_mend_bad (l : Launch) (D : va_G) (cI cQ : ClassId) (o me kc tc rd tx tb hi i x : Nat) (hi9 : i < 2147483648) (hx : 8 ≤ x ∧ x < 2147483648) : MI l yX8_mend cX8_mend 3 (some .int) rm_X8_mend_bad D (TY cI cQ) [.ref o, .int (nI i), .int (nI x)] [(o, .inr (8, [.ref me, .ref kc, .ref tc, .ref rd, .ref tx, .ref tb, .ref hi]))] (fun (r9 : Int32) (u : Unit) => r9 = (-1) ∧ (True)) (fun (u : Unit) => [(o, .inr (8, [.ref me, .ref kc, .ref tc, .ref rd, .ref tx, .ref tb, .ref hi]))]) 0 0 := by
  refine MI.start (by decide) (Nat.le_of_ble_eq_true rfl) (lv0 := [(0, .ref o), (1, .int (nI i)), (2, .int (nI x))]) rfl ?_
  intro pp9 ee9 ss9 mm9 args9 below9 meth9 co9 A9 Q9 hQ hC hr hlk hnm
  refine V_iload_n hC dX8_mend_0 rfl 1 rfl ?_
  refine V_if_lt_F (tgt := 11) hC dX8_mend_1 (by decide) (nI_pos (by omega)) ?_
  refine V_iload_n hC dX8_mend_4 rfl 2 rfl ?_
  refine V_calliS (As := [.int (nI x)]) (rest := []) (wr := [(o, .inr (8, [.ref me, .ref kc, .ref tc, .ref rd, .ref tx, .ref tb, .ref hi]))]) hC (c_X8_isLetter l D cI cQ x (by omega)) mok_X8_isLetter ml_X8_54 rfl rfl rfl (by decide) (by decide) (by decide) (Nat.le_of_ble_eq_true rfl) [] [0] rfl (by decide) rfl (by decide) (by decide) dX8_mend_5 rfl (fun r9 u9 h5 => ?_)
  obtain ⟨u_1, rfl⟩ : ∃ z, z = u9 := ⟨_, rfl⟩
  obtain ⟨rfl, h5⟩ := h5
  have h5 : (u_1 = 1 ∧ x < 8) ∨ (u_1 = 0 ∧ 8 ≤ x) := h5
  refine V_perm (ws2 := [(o, .inr (8, [.ref me, .ref kc, .ref tc, .ref rd, .ref tx, .ref tb, .ref hi]))]) [0] rfl (by decide) ?_
  refine V_if_ne (tgt := 13) hC (by omega) dX8_mend_8 (by decide) (fun c8 => ?_) (fun c8 => ?_)
  · exact False.elim (by omega)
  · refine V_iconst (v := -1) hC dX8_mend_11 (by decide) ?_
    subst hQ
    exact V_iret hC hr hlk rfl (by decide) (by decide) dX8_mend_12 (()) [0] rfl (by decide) (⟨rfl, trivial⟩)
abbrev rm_X8_mend_not : Room := { frames := 1, cells := 0, slots := 0, locals := 20 }
set_option maxHeartbeats 4000000 in
set_option maxRecDepth 100000 in
theorem c_X8_mend_not (l : Launch) (D : va_G) (cI cQ : ClassId) (o me kc tc rd tx tb hi ml n e p b i x : Nat) (g : Nat → Nat) (hi9 : n ≤ i ∧ i < 2147483648) (hx : x < 8) : MI l yX8_mend cX8_mend 3 (some .int) rm_X8_mend_not D (TY cI cQ) [.ref o, .int (nI i), .int (nI x)] [(o, .inr (8, [.ref me, .ref kc, .ref tc, .ref rd, .ref tx, .ref tb, .ref hi])), (me, .inr (4, [.ref ml, .int (nI n), .int (nI e), .int (nI p), .int (nI b)])), (ml, .inl (cI, 40, .inl (fun j => nI (g j))))] (fun (r9 : Int32) (u : Unit) => r9 = (-2) ∧ (True)) (fun (u : Unit) => [(o, .inr (8, [.ref me, .ref kc, .ref tc, .ref rd, .ref tx, .ref tb, .ref hi])), (me, .inr (4, [.ref ml, .int (nI n), .int (nI e), .int (nI p), .int (nI b)])), (ml, .inl (cI, 40, .inl (fun j => nI (g j))))]) 0 0 := by
  refine MI.start (by decide) (Nat.le_of_ble_eq_true rfl) (lv0 := [(0, .ref o), (1, .int (nI i)), (2, .int (nI x))]) rfl ?_
  intro pp9 ee9 ss9 mm9 args9 below9 meth9 co9 A9 Q9 hQ hC hr hlk hnm
  refine V_iload_n hC dX8_mend_0 rfl 1 rfl ?_
  refine V_if_lt_F (tgt := 11) hC dX8_mend_1 (by decide) (nI_pos (by omega)) ?_
  refine V_iload_n hC dX8_mend_4 rfl 2 rfl ?_
  refine V_calliS (As := [.int (nI x)]) (rest := []) (wr := [(o, .inr (8, [.ref me, .ref kc, .ref tc, .ref rd, .ref tx, .ref tb, .ref hi])), (me, .inr (4, [.ref ml, .int (nI n), .int (nI e), .int (nI p), .int (nI b)])), (ml, .inl (cI, 40, .inl (fun j => nI (g j))))]) hC (c_X8_isLetter l D cI cQ x (by omega)) mok_X8_isLetter ml_X8_54 rfl rfl rfl (by decide) (by decide) (by decide) (Nat.le_of_ble_eq_true rfl) [] [0, 1, 2] rfl (by decide) rfl (by decide) (by decide) dX8_mend_5 rfl (fun r9 u9 h5 => ?_)
  obtain ⟨u_1, rfl⟩ : ∃ z, z = u9 := ⟨_, rfl⟩
  obtain ⟨rfl, h5⟩ := h5
  have h5 : (u_1 = 1 ∧ x < 8) ∨ (u_1 = 0 ∧ 8 ≤ x) := h5
  refine V_perm (ws2 := [(o, .inr (8, [.ref me, .ref kc, .ref tc, .ref rd, .ref tx, .ref tb, .ref hi])), (me, .inr (4, [.ref ml, .int (nI n), .int (nI e), .int (nI p), .int (nI b)])), (ml, .inl (cI, 40, .inl (fun j => nI (g j))))]) [0, 1, 2] rfl (by decide) ?_
  refine V_if_ne (tgt := 13) hC (by omega) dX8_mend_8 (by decide) (fun c8 => ?_) (fun c8 => ?_)
  · refine V_iload_n hC dX8_mend_13 rfl 1 rfl ?_
    refine V_aload_n hC dX8_mend_14 rfl 0 rfl ?_
    refine V_get (ci := 8) (v := .ref me) hC in_X8 0 rfl cls_X8 0 (by decide) fl_X8_12 rfl dX8_mend_15 ?_
    refine V_getN (ci := 4) (v := .int (nI n)) hC in_X4 1 rfl cls_X4 1 (by decide) fn_X8_62 rfl dX8_mend_18 ?_
    refine V_icmp_lt (tgt := 27) hC (by omega) (by omega) dX8_mend_21 (by decide) (fun c21 => ?_) (fun c21 => ?_)
    · exact False.elim (by omega)
    · refine V_bipush (v := -2) hC dX8_mend_24 (by decide) ?_
      subst hQ
      exact V_iret hC hr hlk rfl (by decide) (by decide) dX8_mend_26 (()) [0, 1, 2] rfl (by decide) (⟨rfl, trivial⟩)
  · exact False.elim (by omega)
abbrev rm_X8_mend_ok : Room := { frames := 6, cells := 0, slots := 0, locals := 137 }
set_option maxHeartbeats 4000000 in
set_option maxRecDepth 100000 in
theorem c_X8_mend_ok (l : Launch) (D : va_G) (cI cQ : ClassId) (o me kc tc rd tx tb hi ml kco kcr ksp kbi kbr kcs hst m0 r0 m1 r1 m2 r2 m3 r3 n e p b sz i x : Nat) (g kg kcf : Nat → Nat) (G : Nat → Nat → Nat) (NS ES PS BS : Nat → Nat) (hi9 : i < n) (hx : x < 8) (hn : n ≤ 40) (hg : ∀ j, j < n → g j < 8) (he : e < 2) (hp : p ≤ 64) (hb : b ≤ 2000) (hz : sz ≤ 4) (hES : ∀ j, j < 4 → ES j < 2) : MI l yX8_mend cX8_mend 3 (some .int) rm_X8_mend_ok D (TY cI cQ) [.ref o, .int (nI i), .int (nI x)] [(o, .inr (8, [.ref me, .ref kc, .ref tc, .ref rd, .ref tx, .ref tb, .ref hi])), (me, .inr (4, [.ref ml, .int (nI n), .int (nI e), .int (nI p), .int (nI b)])), (ml, .inl (cI, 40, .inl (fun j => nI (g j)))), (hi, .inr (3, [.ref hst, .int (nI sz)])), (hst, .inl (cQ, 4, .inr (.inr (.inr (.inr (hq m0 m1 m2 m3)))))), (m0, .inr (4, [.ref r0, .int (nI (NS 0)), .int (nI (ES 0)), .int (nI (PS 0)), .int (nI (BS 0))])), (r0, .inl (cI, 40, .inl (fun j => nI ((G 0) j)))), (m1, .inr (4, [.ref r1, .int (nI (NS 1)), .int (nI (ES 1)), .int (nI (PS 1)), .int (nI (BS 1))])), (r1, .inl (cI, 40, .inl (fun j => nI ((G 1) j)))), (m2, .inr (4, [.ref r2, .int (nI (NS 2)), .int (nI (ES 2)), .int (nI (PS 2)), .int (nI (BS 2))])), (r2, .inl (cI, 40, .inl (fun j => nI ((G 2) j)))), (m3, .inr (4, [.ref r3, .int (nI (NS 3)), .int (nI (ES 3)), .int (nI (PS 3)), .int (nI (BS 3))])), (r3, .inl (cI, 40, .inl (fun j => nI ((G 3) j)))), (kc, .inr (1, [.ref kco, .ref ksp, .ref kbi, .ref kcs, .int (nI n), .int (nI (sW (cM p b g n e)))])), (kco, .inr (2, [.ref kcr, .int (nI (sT (cM p b g n e))), .int (nI (sH (cM p b g n e))), .int (nI p), .int (nI b)])), (kcr, .inl (cI, 9, .inl (fun j => nI ((sF (cM p b g n e)) j)))), (ksp, .inr (6, [.int (nI (sL (cM p b g n e))), .int (nI (sU (cM p b g n e)))])), (kbi, .inr (0, [.ref kbr, .int (nI ((sB (cM p b g n e)).length))])), (kbr, .inl (cI, 658, .inl (fun j => nI (kg j)))), (kcs, .inl (cI, 40, .inl (fun j => nI (kcf j))))] (fun (r9 : Int32) (u : (Nat → Nat) × (Nat → Nat)) => r9 = (nI ((sB (cM p b (va_up g i x) n e)).length)) ∧ (rep u.1 (sB (cM p b (va_up g i x) n e)) ∧ ∀ j, j < n → u.2 j = cost p b (va_up g i x) j)) (fun (u : (Nat → Nat) × (Nat → Nat)) => [(o, .inr (8, [.ref me, .ref kc, .ref tc, .ref rd, .ref tx, .ref tb, .ref hi])), (me, .inr (4, [.ref ml, .int (nI n), .int (nI e), .int (nI p), .int (nI b)])), (ml, .inl (cI, 40, .inl (fun j => nI ((va_up g i x) j)))), (hi, .inr (3, [.ref hst, .int (nI (hsz sz))])), (hst, .inl (cQ, 4, .inr (.inr (.inr (.inr (hq m0 m1 m2 m3)))))), (m0, .inr (4, [.ref r0, .int (nI (hup NS sz n 0)), .int (nI (hup ES sz e 0)), .int (nI (hup PS sz p 0)), .int (nI (hup BS sz b 0))])), (r0, .inl (cI, 40, .inl (fun j => nI ((hup G sz g 0) j)))), (m1, .inr (4, [.ref r1, .int (nI (hup NS sz n 1)), .int (nI (hup ES sz e 1)), .int (nI (hup PS sz p 1)), .int (nI (hup BS sz b 1))])), (r1, .inl (cI, 40, .inl (fun j => nI ((hup G sz g 1) j)))), (m2, .inr (4, [.ref r2, .int (nI (hup NS sz n 2)), .int (nI (hup ES sz e 2)), .int (nI (hup PS sz p 2)), .int (nI (hup BS sz b 2))])), (r2, .inl (cI, 40, .inl (fun j => nI ((hup G sz g 2) j)))), (m3, .inr (4, [.ref r3, .int (nI (hup NS sz n 3)), .int (nI (hup ES sz e 3)), .int (nI (hup PS sz p 3)), .int (nI (hup BS sz b 3))])), (r3, .inl (cI, 40, .inl (fun j => nI ((hup G sz g 3) j)))), (kc, .inr (1, [.ref kco, .ref ksp, .ref kbi, .ref kcs, .int (nI n), .int (nI (sW (cM p b (va_up g i x) n e)))])), (kco, .inr (2, [.ref kcr, .int (nI (sT (cM p b (va_up g i x) n e))), .int (nI (sH (cM p b (va_up g i x) n e))), .int (nI p), .int (nI b)])), (kcr, .inl (cI, 9, .inl (fun j => nI ((sF (cM p b (va_up g i x) n e)) j)))), (ksp, .inr (6, [.int (nI (sL (cM p b (va_up g i x) n e))), .int (nI (sU (cM p b (va_up g i x) n e)))])), (kbi, .inr (0, [.ref kbr, .int (nI ((sB (cM p b (va_up g i x) n e)).length))])), (kbr, .inl (cI, 658, .inl (fun j => nI (u.1 j)))), (kcs, .inl (cI, 40, .inl (fun j => nI (u.2 j))))]) 0 0 := by
  refine MI.start (by decide) (Nat.le_of_ble_eq_true rfl) (lv0 := [(0, .ref o), (1, .int (nI i)), (2, .int (nI x))]) rfl ?_
  intro pp9 ee9 ss9 mm9 args9 below9 meth9 co9 A9 Q9 hQ hC hr hlk hnm
  refine V_iload_n hC dX8_mend_0 rfl 1 rfl ?_
  refine V_if_lt_F (tgt := 11) hC dX8_mend_1 (by decide) (nI_pos (by omega)) ?_
  refine V_iload_n hC dX8_mend_4 rfl 2 rfl ?_
  refine V_calliS (As := [.int (nI x)]) (rest := []) (wr := [(o, .inr (8, [.ref me, .ref kc, .ref tc, .ref rd, .ref tx, .ref tb, .ref hi])), (me, .inr (4, [.ref ml, .int (nI n), .int (nI e), .int (nI p), .int (nI b)])), (ml, .inl (cI, 40, .inl (fun j => nI (g j)))), (hi, .inr (3, [.ref hst, .int (nI sz)])), (hst, .inl (cQ, 4, .inr (.inr (.inr (.inr (hq m0 m1 m2 m3)))))), (m0, .inr (4, [.ref r0, .int (nI (NS 0)), .int (nI (ES 0)), .int (nI (PS 0)), .int (nI (BS 0))])), (r0, .inl (cI, 40, .inl (fun j => nI ((G 0) j)))), (m1, .inr (4, [.ref r1, .int (nI (NS 1)), .int (nI (ES 1)), .int (nI (PS 1)), .int (nI (BS 1))])), (r1, .inl (cI, 40, .inl (fun j => nI ((G 1) j)))), (m2, .inr (4, [.ref r2, .int (nI (NS 2)), .int (nI (ES 2)), .int (nI (PS 2)), .int (nI (BS 2))])), (r2, .inl (cI, 40, .inl (fun j => nI ((G 2) j)))), (m3, .inr (4, [.ref r3, .int (nI (NS 3)), .int (nI (ES 3)), .int (nI (PS 3)), .int (nI (BS 3))])), (r3, .inl (cI, 40, .inl (fun j => nI ((G 3) j)))), (kc, .inr (1, [.ref kco, .ref ksp, .ref kbi, .ref kcs, .int (nI n), .int (nI (sW (cM p b g n e)))])), (kco, .inr (2, [.ref kcr, .int (nI (sT (cM p b g n e))), .int (nI (sH (cM p b g n e))), .int (nI p), .int (nI b)])), (kcr, .inl (cI, 9, .inl (fun j => nI ((sF (cM p b g n e)) j)))), (ksp, .inr (6, [.int (nI (sL (cM p b g n e))), .int (nI (sU (cM p b g n e)))])), (kbi, .inr (0, [.ref kbr, .int (nI ((sB (cM p b g n e)).length))])), (kbr, .inl (cI, 658, .inl (fun j => nI (kg j)))), (kcs, .inl (cI, 40, .inl (fun j => nI (kcf j))))]) hC (c_X8_isLetter l D cI cQ x (by omega)) mok_X8_isLetter ml_X8_54 rfl rfl rfl (by decide) (by decide) (by decide) (Nat.le_of_ble_eq_true rfl) [] [0, 1, 2, 3, 4, 5, 6, 7, 8, 9, 10, 11, 12, 13, 14, 15, 16, 17, 18, 19] rfl (by decide) rfl (by decide) (by decide) dX8_mend_5 rfl (fun r9 u9 h5 => ?_)
  obtain ⟨u_1, rfl⟩ : ∃ z, z = u9 := ⟨_, rfl⟩
  obtain ⟨rfl, h5⟩ := h5
  have h5 : (u_1 = 1 ∧ x < 8) ∨ (u_1 = 0 ∧ 8 ≤ x) := h5
  refine V_perm (ws2 := [(o, .inr (8, [.ref me, .ref kc, .ref tc, .ref rd, .ref tx, .ref tb, .ref hi])), (me, .inr (4, [.ref ml, .int (nI n), .int (nI e), .int (nI p), .int (nI b)])), (ml, .inl (cI, 40, .inl (fun j => nI (g j)))), (hi, .inr (3, [.ref hst, .int (nI sz)])), (hst, .inl (cQ, 4, .inr (.inr (.inr (.inr (hq m0 m1 m2 m3)))))), (m0, .inr (4, [.ref r0, .int (nI (NS 0)), .int (nI (ES 0)), .int (nI (PS 0)), .int (nI (BS 0))])), (r0, .inl (cI, 40, .inl (fun j => nI ((G 0) j)))), (m1, .inr (4, [.ref r1, .int (nI (NS 1)), .int (nI (ES 1)), .int (nI (PS 1)), .int (nI (BS 1))])), (r1, .inl (cI, 40, .inl (fun j => nI ((G 1) j)))), (m2, .inr (4, [.ref r2, .int (nI (NS 2)), .int (nI (ES 2)), .int (nI (PS 2)), .int (nI (BS 2))])), (r2, .inl (cI, 40, .inl (fun j => nI ((G 2) j)))), (m3, .inr (4, [.ref r3, .int (nI (NS 3)), .int (nI (ES 3)), .int (nI (PS 3)), .int (nI (BS 3))])), (r3, .inl (cI, 40, .inl (fun j => nI ((G 3) j)))), (kc, .inr (1, [.ref kco, .ref ksp, .ref kbi, .ref kcs, .int (nI n), .int (nI (sW (cM p b g n e)))])), (kco, .inr (2, [.ref kcr, .int (nI (sT (cM p b g n e))), .int (nI (sH (cM p b g n e))), .int (nI p), .int (nI b)])), (kcr, .inl (cI, 9, .inl (fun j => nI ((sF (cM p b g n e)) j)))), (ksp, .inr (6, [.int (nI (sL (cM p b g n e))), .int (nI (sU (cM p b g n e)))])), (kbi, .inr (0, [.ref kbr, .int (nI ((sB (cM p b g n e)).length))])), (kbr, .inl (cI, 658, .inl (fun j => nI (kg j)))), (kcs, .inl (cI, 40, .inl (fun j => nI (kcf j))))]) [0, 1, 2, 3, 4, 5, 6, 7, 8, 9, 10, 11, 12, 13, 14, 15, 16, 17, 18, 19] rfl (by decide) ?_
  refine V_if_ne (tgt := 13) hC (by omega) dX8_mend_8 (by decide) (fun c8 => ?_) (fun c8 => ?_)
  · refine V_iload_n hC dX8_mend_13 rfl 1 rfl ?_
    refine V_aload_n hC dX8_mend_14 rfl 0 rfl ?_
    refine V_get (ci := 8) (v := .ref me) hC in_X8 0 rfl cls_X8 0 (by decide) fl_X8_12 rfl dX8_mend_15 ?_
    refine V_getN (ci := 4) (v := .int (nI n)) hC in_X4 1 rfl cls_X4 1 (by decide) fn_X8_62 rfl dX8_mend_18 ?_
    refine V_icmp_lt (tgt := 27) hC (by omega) (by omega) dX8_mend_21 (by decide) (fun c21 => ?_) (fun c21 => ?_)
    · refine V_aload_n hC dX8_mend_27 rfl 0 rfl ?_
      refine V_get (ci := 8) (v := .ref hi) hC in_X8 0 rfl cls_X8 6 (by decide) fl_X8_50 rfl dX8_mend_28 ?_
      refine V_aload_n hC dX8_mend_31 rfl 0 rfl ?_
      refine V_get (ci := 8) (v := .ref me) hC in_X8 0 rfl cls_X8 0 (by decide) fl_X8_12 rfl dX8_mend_32 ?_
      refine V_callvV (As := [.ref me]) (rest := []) (wr := [(o, .inr (8, [.ref me, .ref kc, .ref tc, .ref rd, .ref tx, .ref tb, .ref hi])), (kc, .inr (1, [.ref kco, .ref ksp, .ref kbi, .ref kcs, .int (nI n), .int (nI (sW (cM p b g n e)))])), (kco, .inr (2, [.ref kcr, .int (nI (sT (cM p b g n e))), .int (nI (sH (cM p b g n e))), .int (nI p), .int (nI b)])), (kcr, .inl (cI, 9, .inl (fun j => nI ((sF (cM p b g n e)) j)))), (ksp, .inr (6, [.int (nI (sL (cM p b g n e))), .int (nI (sU (cM p b g n e)))])), (kbi, .inr (0, [.ref kbr, .int (nI ((sB (cM p b g n e)).length))])), (kbr, .inl (cI, 658, .inl (fun j => nI (kg j)))), (kcs, .inl (cI, 40, .inl (fun j => nI (kcf j))))]) hC (c_X3_keep l D cI cQ hi hst sz _ r0 _ r1 _ r2 _ r3 _ _ _ _ _ me ml n e p b g (hz) (hES) (he)) mok_X3_keep ml_X8_66 (q1 := 0) rfl cls_X3 rfl rfl rfl (by decide) (by decide) (by decide) (Nat.le_of_ble_eq_true rfl) [3, 4, 5, 6, 7, 8, 9, 10, 11, 12, 1, 2] [0, 13, 14, 15, 16, 17, 18, 19] rfl (by decide) rfl (by decide) (by decide) dX8_mend_35 rfl (fun u9 h35 => ?_)
      clear h35
      refine V_perm (ws2 := [(o, .inr (8, [.ref me, .ref kc, .ref tc, .ref rd, .ref tx, .ref tb, .ref hi])), (me, .inr (4, [.ref ml, .int (nI n), .int (nI e), .int (nI p), .int (nI b)])), (ml, .inl (cI, 40, .inl (fun j => nI (g j)))), (hi, .inr (3, [.ref hst, .int (nI (hsz sz))])), (hst, .inl (cQ, 4, .inr (.inr (.inr (.inr (hq m0 m1 m2 m3)))))), (m0, .inr (4, [.ref r0, .int (nI (hup NS sz n 0)), .int (nI (hup ES sz e 0)), .int (nI (hup PS sz p 0)), .int (nI (hup BS sz b 0))])), (r0, .inl (cI, 40, .inl (fun j => nI ((hup G sz g 0) j)))), (m1, .inr (4, [.ref r1, .int (nI (hup NS sz n 1)), .int (nI (hup ES sz e 1)), .int (nI (hup PS sz p 1)), .int (nI (hup BS sz b 1))])), (r1, .inl (cI, 40, .inl (fun j => nI ((hup G sz g 1) j)))), (m2, .inr (4, [.ref r2, .int (nI (hup NS sz n 2)), .int (nI (hup ES sz e 2)), .int (nI (hup PS sz p 2)), .int (nI (hup BS sz b 2))])), (r2, .inl (cI, 40, .inl (fun j => nI ((hup G sz g 2) j)))), (m3, .inr (4, [.ref r3, .int (nI (hup NS sz n 3)), .int (nI (hup ES sz e 3)), .int (nI (hup PS sz p 3)), .int (nI (hup BS sz b 3))])), (r3, .inl (cI, 40, .inl (fun j => nI ((hup G sz g 3) j)))), (kc, .inr (1, [.ref kco, .ref ksp, .ref kbi, .ref kcs, .int (nI n), .int (nI (sW (cM p b g n e)))])), (kco, .inr (2, [.ref kcr, .int (nI (sT (cM p b g n e))), .int (nI (sH (cM p b g n e))), .int (nI p), .int (nI b)])), (kcr, .inl (cI, 9, .inl (fun j => nI ((sF (cM p b g n e)) j)))), (ksp, .inr (6, [.int (nI (sL (cM p b g n e))), .int (nI (sU (cM p b g n e)))])), (kbi, .inr (0, [.ref kbr, .int (nI ((sB (cM p b g n e)).length))])), (kbr, .inl (cI, 658, .inl (fun j => nI (kg j)))), (kcs, .inl (cI, 40, .inl (fun j => nI (kcf j))))]) [0, 18, 19, 8, 9, 10, 11, 12, 13, 14, 15, 16, 17, 1, 2, 3, 4, 5, 6, 7] rfl (by decide) ?_
      refine V_aload_n hC dX8_mend_38 rfl 0 rfl ?_
      refine V_get (ci := 8) (v := .ref me) hC in_X8 0 rfl cls_X8 0 (by decide) fl_X8_12 rfl dX8_mend_39 ?_
      refine V_iload_n hC dX8_mend_42 rfl 1 rfl ?_
      refine V_iload_n hC dX8_mend_43 rfl 2 rfl ?_
      refine V_callvV (As := [.int (nI i), .int (nI x)]) (rest := []) (wr := [(o, .inr (8, [.ref me, .ref kc, .ref tc, .ref rd, .ref tx, .ref tb, .ref hi])), (hi, .inr (3, [.ref hst, .int (nI (hsz sz))])), (hst, .inl (cQ, 4, .inr (.inr (.inr (.inr (hq m0 m1 m2 m3)))))), (m0, .inr (4, [.ref r0, .int (nI (hup NS sz n 0)), .int (nI (hup ES sz e 0)), .int (nI (hup PS sz p 0)), .int (nI (hup BS sz b 0))])), (r0, .inl (cI, 40, .inl (fun j => nI ((hup G sz g 0) j)))), (m1, .inr (4, [.ref r1, .int (nI (hup NS sz n 1)), .int (nI (hup ES sz e 1)), .int (nI (hup PS sz p 1)), .int (nI (hup BS sz b 1))])), (r1, .inl (cI, 40, .inl (fun j => nI ((hup G sz g 1) j)))), (m2, .inr (4, [.ref r2, .int (nI (hup NS sz n 2)), .int (nI (hup ES sz e 2)), .int (nI (hup PS sz p 2)), .int (nI (hup BS sz b 2))])), (r2, .inl (cI, 40, .inl (fun j => nI ((hup G sz g 2) j)))), (m3, .inr (4, [.ref r3, .int (nI (hup NS sz n 3)), .int (nI (hup ES sz e 3)), .int (nI (hup PS sz p 3)), .int (nI (hup BS sz b 3))])), (r3, .inl (cI, 40, .inl (fun j => nI ((hup G sz g 3) j)))), (kc, .inr (1, [.ref kco, .ref ksp, .ref kbi, .ref kcs, .int (nI n), .int (nI (sW (cM p b g n e)))])), (kco, .inr (2, [.ref kcr, .int (nI (sT (cM p b g n e))), .int (nI (sH (cM p b g n e))), .int (nI p), .int (nI b)])), (kcr, .inl (cI, 9, .inl (fun j => nI ((sF (cM p b g n e)) j)))), (ksp, .inr (6, [.int (nI (sL (cM p b g n e))), .int (nI (sU (cM p b g n e)))])), (kbi, .inr (0, [.ref kbr, .int (nI ((sB (cM p b g n e)).length))])), (kbr, .inl (cI, 658, .inl (fun j => nI (kg j)))), (kcs, .inl (cI, 40, .inl (fun j => nI (kcf j))))]) hC (c_X4_replace l D cI cQ me ml n e p b i x g (by omega)) mok_X4_replace ml_X8_94 (q1 := 0) rfl cls_X4 rfl rfl rfl (by decide) (by decide) (by decide) (Nat.le_of_ble_eq_true rfl) [1, 2] [0, 3, 4, 5, 6, 7, 8, 9, 10, 11, 12, 13, 14, 15, 16, 17, 18, 19] rfl (by decide) rfl (by decide) (by decide) dX8_mend_44 rfl (fun u9 h44 => ?_)
      clear h44
      refine V_perm (ws2 := [(o, .inr (8, [.ref me, .ref kc, .ref tc, .ref rd, .ref tx, .ref tb, .ref hi])), (me, .inr (4, [.ref ml, .int (nI n), .int (nI e), .int (nI p), .int (nI b)])), (ml, .inl (cI, 40, .inl (fun j => nI ((va_up g i x) j)))), (hi, .inr (3, [.ref hst, .int (nI (hsz sz))])), (hst, .inl (cQ, 4, .inr (.inr (.inr (.inr (hq m0 m1 m2 m3)))))), (m0, .inr (4, [.ref r0, .int (nI (hup NS sz n 0)), .int (nI (hup ES sz e 0)), .int (nI (hup PS sz p 0)), .int (nI (hup BS sz b 0))])), (r0, .inl (cI, 40, .inl (fun j => nI ((hup G sz g 0) j)))), (m1, .inr (4, [.ref r1, .int (nI (hup NS sz n 1)), .int (nI (hup ES sz e 1)), .int (nI (hup PS sz p 1)), .int (nI (hup BS sz b 1))])), (r1, .inl (cI, 40, .inl (fun j => nI ((hup G sz g 1) j)))), (m2, .inr (4, [.ref r2, .int (nI (hup NS sz n 2)), .int (nI (hup ES sz e 2)), .int (nI (hup PS sz p 2)), .int (nI (hup BS sz b 2))])), (r2, .inl (cI, 40, .inl (fun j => nI ((hup G sz g 2) j)))), (m3, .inr (4, [.ref r3, .int (nI (hup NS sz n 3)), .int (nI (hup ES sz e 3)), .int (nI (hup PS sz p 3)), .int (nI (hup BS sz b 3))])), (r3, .inl (cI, 40, .inl (fun j => nI ((hup G sz g 3) j)))), (kc, .inr (1, [.ref kco, .ref ksp, .ref kbi, .ref kcs, .int (nI n), .int (nI (sW (cM p b g n e)))])), (kco, .inr (2, [.ref kcr, .int (nI (sT (cM p b g n e))), .int (nI (sH (cM p b g n e))), .int (nI p), .int (nI b)])), (kcr, .inl (cI, 9, .inl (fun j => nI ((sF (cM p b g n e)) j)))), (ksp, .inr (6, [.int (nI (sL (cM p b g n e))), .int (nI (sU (cM p b g n e)))])), (kbi, .inr (0, [.ref kbr, .int (nI ((sB (cM p b g n e)).length))])), (kbr, .inl (cI, 658, .inl (fun j => nI (kg j)))), (kcs, .inl (cI, 40, .inl (fun j => nI (kcf j))))]) [0, 18, 19, 1, 2, 3, 4, 5, 6, 7, 8, 9, 10, 11, 12, 13, 14, 15, 16, 17] rfl (by decide) ?_
      refine V_aload_n hC dX8_mend_47 rfl 0 rfl ?_
      refine V_callvV (As := []) (rest := []) (wr := [(hi, .inr (3, [.ref hst, .int (nI (hsz sz))])), (hst, .inl (cQ, 4, .inr (.inr (.inr (.inr (hq m0 m1 m2 m3)))))), (m0, .inr (4, [.ref r0, .int (nI (hup NS sz n 0)), .int (nI (hup ES sz e 0)), .int (nI (hup PS sz p 0)), .int (nI (hup BS sz b 0))])), (r0, .inl (cI, 40, .inl (fun j => nI ((hup G sz g 0) j)))), (m1, .inr (4, [.ref r1, .int (nI (hup NS sz n 1)), .int (nI (hup ES sz e 1)), .int (nI (hup PS sz p 1)), .int (nI (hup BS sz b 1))])), (r1, .inl (cI, 40, .inl (fun j => nI ((hup G sz g 1) j)))), (m2, .inr (4, [.ref r2, .int (nI (hup NS sz n 2)), .int (nI (hup ES sz e 2)), .int (nI (hup PS sz p 2)), .int (nI (hup BS sz b 2))])), (r2, .inl (cI, 40, .inl (fun j => nI ((hup G sz g 2) j)))), (m3, .inr (4, [.ref r3, .int (nI (hup NS sz n 3)), .int (nI (hup ES sz e 3)), .int (nI (hup PS sz p 3)), .int (nI (hup BS sz b 3))])), (r3, .inl (cI, 40, .inl (fun j => nI ((hup G sz g 3) j))))]) hC (c_X8_writeAnew l D cI cQ o me kc tc rd tx tb hi ml kco kcr ksp kbi kbr kcs n (sW (cM p b g n e)) (sT (cM p b g n e)) (sH (cM p b g n e)) p b (sL (cM p b g n e)) (sU (cM p b g n e)) ((sB (cM p b g n e)).length) n e p b (va_up g i x) (sF (cM p b g n e)) kg kcf (by omega) (up8 hg hx) (by omega) (by omega) (by omega)) mok_X8_writeAnew ml_X8_88 (q1 := 0) rfl cls_X8 rfl rfl rfl (by decide) (by decide) (by decide) (Nat.le_of_ble_eq_true rfl) [0, 1, 2, 13, 14, 15, 16, 17, 18, 19] [3, 4, 5, 6, 7, 8, 9, 10, 11, 12] rfl (by decide) rfl (by decide) (by decide) dX8_mend_48 rfl (fun u9 h48 => ?_)
      obtain ⟨kg2_2, kcf2_3⟩ := u9
      have h48 : rep kg2_2 (sB (cM p b (va_up g i x) n e)) ∧ ∀ j, j < n → kcf2_3 j = cost p b (va_up g i x) j := h48
      refine V_perm (ws2 := [(o, .inr (8, [.ref me, .ref kc, .ref tc, .ref rd, .ref tx, .ref tb, .ref hi])), (me, .inr (4, [.ref ml, .int (nI n), .int (nI e), .int (nI p), .int (nI b)])), (ml, .inl (cI, 40, .inl (fun j => nI (((va_up g i x)) j)))), (hi, .inr (3, [.ref hst, .int (nI (hsz sz))])), (hst, .inl (cQ, 4, .inr (.inr (.inr (.inr (hq m0 m1 m2 m3)))))), (m0, .inr (4, [.ref r0, .int (nI (hup NS sz n 0)), .int (nI (hup ES sz e 0)), .int (nI (hup PS sz p 0)), .int (nI (hup BS sz b 0))])), (r0, .inl (cI, 40, .inl (fun j => nI ((hup G sz g 0) j)))), (m1, .inr (4, [.ref r1, .int (nI (hup NS sz n 1)), .int (nI (hup ES sz e 1)), .int (nI (hup PS sz p 1)), .int (nI (hup BS sz b 1))])), (r1, .inl (cI, 40, .inl (fun j => nI ((hup G sz g 1) j)))), (m2, .inr (4, [.ref r2, .int (nI (hup NS sz n 2)), .int (nI (hup ES sz e 2)), .int (nI (hup PS sz p 2)), .int (nI (hup BS sz b 2))])), (r2, .inl (cI, 40, .inl (fun j => nI ((hup G sz g 2) j)))), (m3, .inr (4, [.ref r3, .int (nI (hup NS sz n 3)), .int (nI (hup ES sz e 3)), .int (nI (hup PS sz p 3)), .int (nI (hup BS sz b 3))])), (r3, .inl (cI, 40, .inl (fun j => nI ((hup G sz g 3) j)))), (kc, .inr (1, [.ref kco, .ref ksp, .ref kbi, .ref kcs, .int (nI n), .int (nI (sW (cM p b (va_up g i x) n e)))])), (kco, .inr (2, [.ref kcr, .int (nI (sT (cM p b (va_up g i x) n e))), .int (nI (sH (cM p b (va_up g i x) n e))), .int (nI p), .int (nI b)])), (kcr, .inl (cI, 9, .inl (fun j => nI ((sF (cM p b (va_up g i x) n e)) j)))), (ksp, .inr (6, [.int (nI (sL (cM p b (va_up g i x) n e))), .int (nI (sU (cM p b (va_up g i x) n e)))])), (kbi, .inr (0, [.ref kbr, .int (nI ((sB (cM p b (va_up g i x) n e)).length))])), (kbr, .inl (cI, 658, .inl (fun j => nI (kg2_2 j)))), (kcs, .inl (cI, 40, .inl (fun j => nI (kcf2_3 j))))]) [10, 11, 12, 0, 1, 2, 3, 4, 5, 6, 7, 8, 9, 13, 14, 15, 16, 17, 18, 19] rfl (by decide) ?_
      refine V_aload_n hC dX8_mend_51 rfl 0 rfl ?_
      refine V_get (ci := 8) (v := .ref kc) hC in_X8 0 rfl cls_X8 1 (by decide) fl_X8_19 rfl dX8_mend_52 ?_
      refine V_getN (ci := 1) (v := .ref kbi) hC in_X1 13 rfl cls_X1 2 (by decide) fn_X8_81 rfl dX8_mend_55 ?_
      refine V_getN (ci := 0) (v := .int (nI ((sB (cM p b (va_up g i x) n e)).length))) hC in_X0 17 rfl cls_X0 1 (by decide) fn_X8_84 rfl dX8_mend_58 ?_
      subst hQ
      exact V_iret hC hr hlk rfl (by decide) (by decide) dX8_mend_61 ((kg2_2, kcf2_3)) [0, 1, 2, 3, 4, 5, 6, 7, 8, 9, 10, 11, 12, 13, 14, 15, 16, 17, 18, 19] rfl (by decide) (⟨rfl, h48⟩)
    · exact False.elim (by omega)
  · exact False.elim (by omega)
abbrev rm_X8_set_wneg : Room := { frames := 1, cells := 0, slots := 0, locals := 21 }
set_option maxHeartbeats 4000000 in
set_option maxRecDepth 100000 in
theorem c_X8_set_wneg (l : Launch) (D : va_G) (cI cQ : ClassId) (o me kc tc rd tx tb hi : Nat) (w x : Int32) (hw : w.toInt < 0) : MI l yX8_set cX8_set 4 (some .int) rm_X8_set_wneg D (TY cI cQ) [.ref o, .int (w), .int (x)] [(o, .inr (8, [.ref me, .ref kc, .ref tc, .ref rd, .ref tx, .ref tb, .ref hi]))] (fun (r9 : Int32) (u : Unit) => r9 = (-1) ∧ (True)) (fun (u : Unit) => [(o, .inr (8, [.ref me, .ref kc, .ref tc, .ref rd, .ref tx, .ref tb, .ref hi]))]) 0 0 := by
  refine MI.start (by decide) (Nat.le_of_ble_eq_true rfl) (lv0 := [(0, .ref o), (1, .int (w)), (2, .int (x))]) rfl ?_
  intro pp9 ee9 ss9 mm9 args9 below9 meth9 co9 A9 Q9 hQ hC hr hlk hnm
  refine V_iload_n hC dX8_set_0 rfl 1 rfl ?_
  refine V_iload_n hC dX8_set_1 rfl 2 rfl ?_
  refine V_calliS (As := [.int (w), .int (x)]) (rest := []) (wr := [(o, .inr (8, [.ref me, .ref kc, .ref tc, .ref rd, .ref tx, .ref tb, .ref hi]))]) hC (c_X8_isSetting_w l D cI cQ w x (hw)) mok_X8_isSetting ml_X8_98 rfl rfl rfl (by decide) (by decide) (by decide) (Nat.le_of_ble_eq_true rfl) [] [0] rfl (by decide) rfl (by decide) (by decide) dX8_set_2 rfl (fun r9 u9 h2 => ?_)
  obtain ⟨rfl, h2⟩ := h2
  clear h2
  refine V_perm (ws2 := [(o, .inr (8, [.ref me, .ref kc, .ref tc, .ref rd, .ref tx, .ref tb, .ref hi]))]) [0] rfl (by decide) ?_
  refine V_if_ne_F (tgt := 10) hC dX8_set_5 (by decide) ((congrArg nI (show 0 = 0 by omega)).trans nI_0) ?_
  refine V_iconst (v := -1) hC dX8_set_8 (by decide) ?_
  subst hQ
  exact V_iret hC hr hlk rfl (by decide) (by decide) dX8_set_9 (()) [0] rfl (by decide) (⟨rfl, trivial⟩)
abbrev rm_X8_set_xneg : Room := { frames := 2, cells := 0, slots := 0, locals := 41 }
set_option maxHeartbeats 4000000 in
set_option maxRecDepth 100000 in
theorem c_X8_set_xneg (l : Launch) (D : va_G) (cI cQ : ClassId) (o me kc tc rd tx tb hi w : Nat) (x : Int32) (hw : w < 2147483648) (hx : x.toInt < 0) : MI l yX8_set cX8_set 4 (some .int) rm_X8_set_xneg D (TY cI cQ) [.ref o, .int (nI w), .int (x)] [(o, .inr (8, [.ref me, .ref kc, .ref tc, .ref rd, .ref tx, .ref tb, .ref hi]))] (fun (r9 : Int32) (u : Unit) => r9 = (-1) ∧ (True)) (fun (u : Unit) => [(o, .inr (8, [.ref me, .ref kc, .ref tc, .ref rd, .ref tx, .ref tb, .ref hi]))]) 0 0 := by
  refine MI.start (by decide) (Nat.le_of_ble_eq_true rfl) (lv0 := [(0, .ref o), (1, .int (nI w)), (2, .int (x))]) rfl ?_
  intro pp9 ee9 ss9 mm9 args9 below9 meth9 co9 A9 Q9 hQ hC hr hlk hnm
  refine V_iload_n hC dX8_set_0 rfl 1 rfl ?_
  refine V_iload_n hC dX8_set_1 rfl 2 rfl ?_
  refine V_calliS (As := [.int (nI w), .int (x)]) (rest := []) (wr := [(o, .inr (8, [.ref me, .ref kc, .ref tc, .ref rd, .ref tx, .ref tb, .ref hi]))]) hC (c_X8_isSetting_x l D cI cQ w x (by omega) (hx)) mok_X8_isSetting ml_X8_98 rfl rfl rfl (by decide) (by decide) (by decide) (Nat.le_of_ble_eq_true rfl) [] [0] rfl (by decide) rfl (by decide) (by decide) dX8_set_2 rfl (fun r9 u9 h2 => ?_)
  obtain ⟨rfl, h2⟩ := h2
  clear h2
  refine V_perm (ws2 := [(o, .inr (8, [.ref me, .ref kc, .ref tc, .ref rd, .ref tx, .ref tb, .ref hi]))]) [0] rfl (by decide) ?_
  refine V_if_ne_F (tgt := 10) hC dX8_set_5 (by decide) ((congrArg nI (show 0 = 0 by omega)).trans nI_0) ?_
  refine V_iconst (v := -1) hC dX8_set_8 (by decide) ?_
  subst hQ
  exact V_iret hC hr hlk rfl (by decide) (by decide) dX8_set_9 (()) [0] rfl (by decide) (⟨rfl, trivial⟩)
abbrev rm_X8_set_bad : Room := { frames := 2, cells := 0, slots := 0, locals := 41 }
set_option maxHeartbeats 4000000 in
set_option maxRecDepth 100000 in
theorem c_X8_set_bad (l : Launch) (D : va_G) (cI cQ : ClassId) (o me kc tc rd tx tb hi w x : Nat) (hw : w < 2147483648) (hx : x < 2147483648 ∧ ¬ ((w = 0 ∧ 1 ≤ x ∧ x ≤ 64) ∨ (w = 1 ∧ 32 ≤ x ∧ x ≤ 2000))) : MI l yX8_set cX8_set 4 (some .int) rm_X8_set_bad D (TY cI cQ) [.ref o, .int (nI w), .int (nI x)] [(o, .inr (8, [.ref me, .ref kc, .ref tc, .ref rd, .ref tx, .ref tb, .ref hi]))] (fun (r9 : Int32) (u : Unit) => r9 = (-1) ∧ (True)) (fun (u : Unit) => [(o, .inr (8, [.ref me, .ref kc, .ref tc, .ref rd, .ref tx, .ref tb, .ref hi]))]) 0 0 := by
  refine MI.start (by decide) (Nat.le_of_ble_eq_true rfl) (lv0 := [(0, .ref o), (1, .int (nI w)), (2, .int (nI x))]) rfl ?_
  intro pp9 ee9 ss9 mm9 args9 below9 meth9 co9 A9 Q9 hQ hC hr hlk hnm
  refine V_iload_n hC dX8_set_0 rfl 1 rfl ?_
  refine V_iload_n hC dX8_set_1 rfl 2 rfl ?_
  refine V_calliS (As := [.int (nI w), .int (nI x)]) (rest := []) (wr := [(o, .inr (8, [.ref me, .ref kc, .ref tc, .ref rd, .ref tx, .ref tb, .ref hi]))]) hC (c_X8_isSetting l D cI cQ w x (by omega) (by omega)) mok_X8_isSetting ml_X8_98 rfl rfl rfl (by decide) (by decide) (by decide) (Nat.le_of_ble_eq_true rfl) [] [0] rfl (by decide) rfl (by decide) (by decide) dX8_set_2 rfl (fun r9 u9 h2 => ?_)
  obtain ⟨u_1, rfl⟩ : ∃ z, z = u9 := ⟨_, rfl⟩
  obtain ⟨rfl, h2⟩ := h2
  have h2 : (u_1 = 1 ∧ ((w = 0 ∧ 1 ≤ x ∧ x ≤ 64) ∨ (w = 1 ∧ 32 ≤ x ∧ x ≤ 2000))) ∨ (u_1 = 0 ∧ ¬ ((w = 0 ∧ 1 ≤ x ∧ x ≤ 64) ∨ (w = 1 ∧ 32 ≤ x ∧ x ≤ 2000))) := h2
  refine V_perm (ws2 := [(o, .inr (8, [.ref me, .ref kc, .ref tc, .ref rd, .ref tx, .ref tb, .ref hi]))]) [0] rfl (by decide) ?_
  refine V_if_ne (tgt := 10) hC (by omega) dX8_set_5 (by decide) (fun c5 => ?_) (fun c5 => ?_)
  · exact False.elim (by omega)
  · refine V_iconst (v := -1) hC dX8_set_8 (by decide) ?_
    subst hQ
    exact V_iret hC hr hlk rfl (by decide) (by decide) dX8_set_9 (()) [0] rfl (by decide) (⟨rfl, trivial⟩)
abbrev rm_X8_set_0 : Room := { frames := 6, cells := 0, slots := 0, locals := 137 }
set_option maxHeartbeats 4000000 in
set_option maxRecDepth 100000 in
theorem c_X8_set_0 (l : Launch) (D : va_G) (cI cQ : ClassId) (o me kc tc rd tx tb hi ml kco kcr ksp kbi kbr kcs hst m0 r0 m1 r1 m2 r2 m3 r3 n e p b sz x : Nat) (g kg kcf : Nat → Nat) (G : Nat → Nat → Nat) (NS ES PS BS : Nat → Nat) (hx : 1 ≤ x ∧ x ≤ 64) (hn : n ≤ 40) (hg : ∀ j, j < n → g j < 8) (he : e < 2) (hp : p ≤ 64) (hb : b ≤ 2000) (hz : sz ≤ 4) (hES : ∀ j, j < 4 → ES j < 2) : MI l yX8_set cX8_set 4 (some .int) rm_X8_set_0 D (TY cI cQ) [.ref o, .int (nI 0), .int (nI x)] [(o, .inr (8, [.ref me, .ref kc, .ref tc, .ref rd, .ref tx, .ref tb, .ref hi])), (me, .inr (4, [.ref ml, .int (nI n), .int (nI e), .int (nI p), .int (nI b)])), (ml, .inl (cI, 40, .inl (fun j => nI (g j)))), (hi, .inr (3, [.ref hst, .int (nI sz)])), (hst, .inl (cQ, 4, .inr (.inr (.inr (.inr (hq m0 m1 m2 m3)))))), (m0, .inr (4, [.ref r0, .int (nI (NS 0)), .int (nI (ES 0)), .int (nI (PS 0)), .int (nI (BS 0))])), (r0, .inl (cI, 40, .inl (fun j => nI ((G 0) j)))), (m1, .inr (4, [.ref r1, .int (nI (NS 1)), .int (nI (ES 1)), .int (nI (PS 1)), .int (nI (BS 1))])), (r1, .inl (cI, 40, .inl (fun j => nI ((G 1) j)))), (m2, .inr (4, [.ref r2, .int (nI (NS 2)), .int (nI (ES 2)), .int (nI (PS 2)), .int (nI (BS 2))])), (r2, .inl (cI, 40, .inl (fun j => nI ((G 2) j)))), (m3, .inr (4, [.ref r3, .int (nI (NS 3)), .int (nI (ES 3)), .int (nI (PS 3)), .int (nI (BS 3))])), (r3, .inl (cI, 40, .inl (fun j => nI ((G 3) j)))), (kc, .inr (1, [.ref kco, .ref ksp, .ref kbi, .ref kcs, .int (nI n), .int (nI (sW (cM p b g n e)))])), (kco, .inr (2, [.ref kcr, .int (nI (sT (cM p b g n e))), .int (nI (sH (cM p b g n e))), .int (nI p), .int (nI b)])), (kcr, .inl (cI, 9, .inl (fun j => nI ((sF (cM p b g n e)) j)))), (ksp, .inr (6, [.int (nI (sL (cM p b g n e))), .int (nI (sU (cM p b g n e)))])), (kbi, .inr (0, [.ref kbr, .int (nI ((sB (cM p b g n e)).length))])), (kbr, .inl (cI, 658, .inl (fun j => nI (kg j)))), (kcs, .inl (cI, 40, .inl (fun j => nI (kcf j))))] (fun (r9 : Int32) (u : (Nat → Nat) × (Nat → Nat)) => r9 = (nI p) ∧ (rep u.1 (sB (cM x b g 0 0)) ∧ ∀ j, j < 0 → u.2 j = cost x b g j)) (fun (u : (Nat → Nat) × (Nat → Nat)) => [(o, .inr (8, [.ref me, .ref kc, .ref tc, .ref rd, .ref tx, .ref tb, .ref hi])), (me, .inr (4, [.ref ml, .int (nI 0), .int (nI 0), .int (nI x), .int (nI b)])), (ml, .inl (cI, 40, .inl (fun j => nI (g j)))), (hi, .inr (3, [.ref hst, .int (nI (hsz sz))])), (hst, .inl (cQ, 4, .inr (.inr (.inr (.inr (hq m0 m1 m2 m3)))))), (m0, .inr (4, [.ref r0, .int (nI (hup NS sz n 0)), .int (nI (hup ES sz e 0)), .int (nI (hup PS sz p 0)), .int (nI (hup BS sz b 0))])), (r0, .inl (cI, 40, .inl (fun j => nI ((hup G sz g 0) j)))), (m1, .inr (4, [.ref r1, .int (nI (hup NS sz n 1)), .int (nI (hup ES sz e 1)), .int (nI (hup PS sz p 1)), .int (nI (hup BS sz b 1))])), (r1, .inl (cI, 40, .inl (fun j => nI ((hup G sz g 1) j)))), (m2, .inr (4, [.ref r2, .int (nI (hup NS sz n 2)), .int (nI (hup ES sz e 2)), .int (nI (hup PS sz p 2)), .int (nI (hup BS sz b 2))])), (r2, .inl (cI, 40, .inl (fun j => nI ((hup G sz g 2) j)))), (m3, .inr (4, [.ref r3, .int (nI (hup NS sz n 3)), .int (nI (hup ES sz e 3)), .int (nI (hup PS sz p 3)), .int (nI (hup BS sz b 3))])), (r3, .inl (cI, 40, .inl (fun j => nI ((hup G sz g 3) j)))), (kc, .inr (1, [.ref kco, .ref ksp, .ref kbi, .ref kcs, .int (nI 0), .int (nI (sW (cM x b g 0 0)))])), (kco, .inr (2, [.ref kcr, .int (nI (sT (cM x b g 0 0))), .int (nI (sH (cM x b g 0 0))), .int (nI x), .int (nI b)])), (kcr, .inl (cI, 9, .inl (fun j => nI ((sF (cM x b g 0 0)) j)))), (ksp, .inr (6, [.int (nI (sL (cM x b g 0 0))), .int (nI (sU (cM x b g 0 0)))])), (kbi, .inr (0, [.ref kbr, .int (nI ((sB (cM x b g 0 0)).length))])), (kbr, .inl (cI, 658, .inl (fun j => nI (u.1 j)))), (kcs, .inl (cI, 40, .inl (fun j => nI (u.2 j))))]) 0 0 := by
  refine MI.start (by decide) (Nat.le_of_ble_eq_true rfl) (lv0 := [(0, .ref o), (1, .int (nI 0)), (2, .int (nI x))]) rfl ?_
  intro pp9 ee9 ss9 mm9 args9 below9 meth9 co9 A9 Q9 hQ hC hr hlk hnm
  refine V_iload_n hC dX8_set_0 rfl 1 rfl ?_
  refine V_iload_n hC dX8_set_1 rfl 2 rfl ?_
  refine V_calliS (As := [.int (nI 0), .int (nI x)]) (rest := []) (wr := [(o, .inr (8, [.ref me, .ref kc, .ref tc, .ref rd, .ref tx, .ref tb, .ref hi])), (me, .inr (4, [.ref ml, .int (nI n), .int (nI e), .int (nI p), .int (nI b)])), (ml, .inl (cI, 40, .inl (fun j => nI (g j)))), (hi, .inr (3, [.ref hst, .int (nI sz)])), (hst, .inl (cQ, 4, .inr (.inr (.inr (.inr (hq m0 m1 m2 m3)))))), (m0, .inr (4, [.ref r0, .int (nI (NS 0)), .int (nI (ES 0)), .int (nI (PS 0)), .int (nI (BS 0))])), (r0, .inl (cI, 40, .inl (fun j => nI ((G 0) j)))), (m1, .inr (4, [.ref r1, .int (nI (NS 1)), .int (nI (ES 1)), .int (nI (PS 1)), .int (nI (BS 1))])), (r1, .inl (cI, 40, .inl (fun j => nI ((G 1) j)))), (m2, .inr (4, [.ref r2, .int (nI (NS 2)), .int (nI (ES 2)), .int (nI (PS 2)), .int (nI (BS 2))])), (r2, .inl (cI, 40, .inl (fun j => nI ((G 2) j)))), (m3, .inr (4, [.ref r3, .int (nI (NS 3)), .int (nI (ES 3)), .int (nI (PS 3)), .int (nI (BS 3))])), (r3, .inl (cI, 40, .inl (fun j => nI ((G 3) j)))), (kc, .inr (1, [.ref kco, .ref ksp, .ref kbi, .ref kcs, .int (nI n), .int (nI (sW (cM p b g n e)))])), (kco, .inr (2, [.ref kcr, .int (nI (sT (cM p b g n e))), .int (nI (sH (cM p b g n e))), .int (nI p), .int (nI b)])), (kcr, .inl (cI, 9, .inl (fun j => nI ((sF (cM p b g n e)) j)))), (ksp, .inr (6, [.int (nI (sL (cM p b g n e))), .int (nI (sU (cM p b g n e)))])), (kbi, .inr (0, [.ref kbr, .int (nI ((sB (cM p b g n e)).length))])), (kbr, .inl (cI, 658, .inl (fun j => nI (kg j)))), (kcs, .inl (cI, 40, .inl (fun j => nI (kcf j))))]) hC (c_X8_isSetting l D cI cQ 0 x (by omega) (by omega)) mok_X8_isSetting ml_X8_98 rfl rfl rfl (by decide) (by decide) (by decide) (Nat.le_of_ble_eq_true rfl) [] [0, 1, 2, 3, 4, 5, 6, 7, 8, 9, 10, 11, 12, 13, 14, 15, 16, 17, 18, 19] rfl (by decide) rfl (by decide) (by decide) dX8_set_2 rfl (fun r9 u9 h2 => ?_)
  obtain ⟨u_1, rfl⟩ : ∃ z, z = u9 := ⟨_, rfl⟩
  obtain ⟨rfl, h2⟩ := h2
  have h2 : (u_1 = 1 ∧ ((0 = 0 ∧ 1 ≤ x ∧ x ≤ 64) ∨ (0 = 1 ∧ 32 ≤ x ∧ x ≤ 2000))) ∨ (u_1 = 0 ∧ ¬ ((0 = 0 ∧ 1 ≤ x ∧ x ≤ 64) ∨ (0 = 1 ∧ 32 ≤ x ∧ x ≤ 2000))) := h2
  refine V_perm (ws2 := [(o, .inr (8, [.ref me, .ref kc, .ref tc, .ref rd, .ref tx, .ref tb, .ref hi])), (me, .inr (4, [.ref ml, .int (nI n), .int (nI e), .int (nI p), .int (nI b)])), (ml, .inl (cI, 40, .inl (fun j => nI (g j)))), (hi, .inr (3, [.ref hst, .int (nI sz)])), (hst, .inl (cQ, 4, .inr (.inr (.inr (.inr (hq m0 m1 m2 m3)))))), (m0, .inr (4, [.ref r0, .int (nI (NS 0)), .int (nI (ES 0)), .int (nI (PS 0)), .int (nI (BS 0))])), (r0, .inl (cI, 40, .inl (fun j => nI ((G 0) j)))), (m1, .inr (4, [.ref r1, .int (nI (NS 1)), .int (nI (ES 1)), .int (nI (PS 1)), .int (nI (BS 1))])), (r1, .inl (cI, 40, .inl (fun j => nI ((G 1) j)))), (m2, .inr (4, [.ref r2, .int (nI (NS 2)), .int (nI (ES 2)), .int (nI (PS 2)), .int (nI (BS 2))])), (r2, .inl (cI, 40, .inl (fun j => nI ((G 2) j)))), (m3, .inr (4, [.ref r3, .int (nI (NS 3)), .int (nI (ES 3)), .int (nI (PS 3)), .int (nI (BS 3))])), (r3, .inl (cI, 40, .inl (fun j => nI ((G 3) j)))), (kc, .inr (1, [.ref kco, .ref ksp, .ref kbi, .ref kcs, .int (nI n), .int (nI (sW (cM p b g n e)))])), (kco, .inr (2, [.ref kcr, .int (nI (sT (cM p b g n e))), .int (nI (sH (cM p b g n e))), .int (nI p), .int (nI b)])), (kcr, .inl (cI, 9, .inl (fun j => nI ((sF (cM p b g n e)) j)))), (ksp, .inr (6, [.int (nI (sL (cM p b g n e))), .int (nI (sU (cM p b g n e)))])), (kbi, .inr (0, [.ref kbr, .int (nI ((sB (cM p b g n e)).length))])), (kbr, .inl (cI, 658, .inl (fun j => nI (kg j)))), (kcs, .inl (cI, 40, .inl (fun j => nI (kcf j))))]) [0, 1, 2, 3, 4, 5, 6, 7, 8, 9, 10, 11, 12, 13, 14, 15, 16, 17, 18, 19] rfl (by decide) ?_
  refine V_if_ne (tgt := 10) hC (by omega) dX8_set_5 (by decide) (fun c5 => ?_) (fun c5 => ?_)
  · refine V_aload_n hC dX8_set_10 rfl 0 rfl ?_
    refine V_get (ci := 8) (v := .ref hi) hC in_X8 0 rfl cls_X8 6 (by decide) fl_X8_50 rfl dX8_set_11 ?_
    refine V_aload_n hC dX8_set_14 rfl 0 rfl ?_
    refine V_get (ci := 8) (v := .ref me) hC in_X8 0 rfl cls_X8 0 (by decide) fl_X8_12 rfl dX8_set_15 ?_
    refine V_callvV (As := [.ref me]) (rest := []) (wr := [(o, .inr (8, [.ref me, .ref kc, .ref tc, .ref rd, .ref tx, .ref tb, .ref hi])), (kc, .inr (1, [.ref kco, .ref ksp, .ref kbi, .ref kcs, .int (nI n), .int (nI (sW (cM p b g n e)))])), (kco, .inr (2, [.ref kcr, .int (nI (sT (cM p b g n e))), .int (nI (sH (cM p b g n e))), .int (nI p), .int (nI b)])), (kcr, .inl (cI, 9, .inl (fun j => nI ((sF (cM p b g n e)) j)))), (ksp, .inr (6, [.int (nI (sL (cM p b g n e))), .int (nI (sU (cM p b g n e)))])), (kbi, .inr (0, [.ref kbr, .int (nI ((sB (cM p b g n e)).length))])), (kbr, .inl (cI, 658, .inl (fun j => nI (kg j)))), (kcs, .inl (cI, 40, .inl (fun j => nI (kcf j))))]) hC (c_X3_keep l D cI cQ hi hst sz _ r0 _ r1 _ r2 _ r3 _ _ _ _ _ me ml n e p b g (hz) (hES) (he)) mok_X3_keep ml_X8_66 (q1 := 0) rfl cls_X3 rfl rfl rfl (by decide) (by decide) (by decide) (Nat.le_of_ble_eq_true rfl) [3, 4, 5, 6, 7, 8, 9, 10, 11, 12, 1, 2] [0, 13, 14, 15, 16, 17, 18, 19] rfl (by decide) rfl (by decide) (by decide) dX8_set_18 rfl (fun u9 h18 => ?_)
    clear h18
    refine V_perm (ws2 := [(o, .inr (8, [.ref me, .ref kc, .ref tc, .ref rd, .ref tx, .ref tb, .ref hi])), (me, .inr (4, [.ref ml, .int (nI n), .int (nI e), .int (nI p), .int (nI b)])), (ml, .inl (cI, 40, .inl (fun j => nI (g j)))), (hi, .inr (3, [.ref hst, .int (nI (hsz sz))])), (hst, .inl (cQ, 4, .inr (.inr (.inr (.inr (hq m0 m1 m2 m3)))))), (m0, .inr (4, [.ref r0, .int (nI (hup NS sz n 0)), .int (nI (hup ES sz e 0)), .int (nI (hup PS sz p 0)), .int (nI (hup BS sz b 0))])), (r0, .inl (cI, 40, .inl (fun j => nI ((hup G sz g 0) j)))), (m1, .inr (4, [.ref r1, .int (nI (hup NS sz n 1)), .int (nI (hup ES sz e 1)), .int (nI (hup PS sz p 1)), .int (nI (hup BS sz b 1))])), (r1, .inl (cI, 40, .inl (fun j => nI ((hup G sz g 1) j)))), (m2, .inr (4, [.ref r2, .int (nI (hup NS sz n 2)), .int (nI (hup ES sz e 2)), .int (nI (hup PS sz p 2)), .int (nI (hup BS sz b 2))])), (r2, .inl (cI, 40, .inl (fun j => nI ((hup G sz g 2) j)))), (m3, .inr (4, [.ref r3, .int (nI (hup NS sz n 3)), .int (nI (hup ES sz e 3)), .int (nI (hup PS sz p 3)), .int (nI (hup BS sz b 3))])), (r3, .inl (cI, 40, .inl (fun j => nI ((hup G sz g 3) j)))), (kc, .inr (1, [.ref kco, .ref ksp, .ref kbi, .ref kcs, .int (nI n), .int (nI (sW (cM p b g n e)))])), (kco, .inr (2, [.ref kcr, .int (nI (sT (cM p b g n e))), .int (nI (sH (cM p b g n e))), .int (nI p), .int (nI b)])), (kcr, .inl (cI, 9, .inl (fun j => nI ((sF (cM p b g n e)) j)))), (ksp, .inr (6, [.int (nI (sL (cM p b g n e))), .int (nI (sU (cM p b g n e)))])), (kbi, .inr (0, [.ref kbr, .int (nI ((sB (cM p b g n e)).length))])), (kbr, .inl (cI, 658, .inl (fun j => nI (kg j)))), (kcs, .inl (cI, 40, .inl (fun j => nI (kcf j))))]) [0, 18, 19, 8, 9, 10, 11, 12, 13, 14, 15, 16, 17, 1, 2, 3, 4, 5, 6, 7] rfl (by decide) ?_
    refine V_iload_n hC dX8_set_21 rfl 1 rfl ?_
    refine V_if_ne_F (tgt := 35) hC dX8_set_22 (by decide) ((congrArg nI (show 0 = 0 by omega)).trans nI_0) ?_
    refine V_aload_n hC dX8_set_25 rfl 0 rfl ?_
    refine V_get (ci := 8) (v := .ref me) hC in_X8 0 rfl cls_X8 0 (by decide) fl_X8_12 rfl dX8_set_26 ?_
    refine V_getN (ci := 4) (v := .int (nI p)) hC in_X4 1 rfl cls_X4 3 (by decide) fn_X8_102 rfl dX8_set_29 ?_
    refine V_goto (tgt := 42) hC dX8_set_32 (by decide) ?_
    refine V_istore_n (lv2 := [(0, .ref o), (1, .int (nI 0)), (2, .int (nI x)), (3, .int (nI p))]) hC dX8_set_42 rfl (by decide) [1, 2, 3, 0] rfl ?_
    refine V_iload_n hC dX8_set_43 rfl 1 rfl ?_
    refine V_if_ne_F (tgt := 58) hC dX8_set_44 (by decide) ((congrArg nI (show 0 = 0 by omega)).trans nI_0) ?_
    refine V_aload_n hC dX8_set_47 rfl 0 rfl ?_
    refine V_get (ci := 8) (v := .ref me) hC in_X8 0 rfl cls_X8 0 (by decide) fl_X8_12 rfl dX8_set_48 ?_
    refine V_iload_n hC dX8_set_51 rfl 2 rfl ?_
    refine V_putN (ci := 4) (v := .int (nI x)) hC tyX4 tyX4_ok nmX4 in_X4 1 rfl cls_X4 3 (by decide) fn_X8_102 rfl rfl rfl (Nat.le_of_ble_eq_true rfl) dX8_set_52 (ws2 := [(o, .inr (8, [.ref me, .ref kc, .ref tc, .ref rd, .ref tx, .ref tb, .ref hi])), (me, .inr (4, [.ref ml, .int (nI n), .int (nI e), .int (nI x), .int (nI b)])), (ml, .inl (cI, 40, .inl (fun j => nI (g j)))), (hi, .inr (3, [.ref hst, .int (nI (hsz sz))])), (hst, .inl (cQ, 4, .inr (.inr (.inr (.inr (hq m0 m1 m2 m3)))))), (m0, .inr (4, [.ref r0, .int (nI (hup NS sz n 0)), .int (nI (hup ES sz e 0)), .int (nI (hup PS sz p 0)), .int (nI (hup BS sz b 0))])), (r0, .inl (cI, 40, .inl (fun j => nI ((hup G sz g 0) j)))), (m1, .inr (4, [.ref r1, .int (nI (hup NS sz n 1)), .int (nI (hup ES sz e 1)), .int (nI (hup PS sz p 1)), .int (nI (hup BS sz b 1))])), (r1, .inl (cI, 40, .inl (fun j => nI ((hup G sz g 1) j)))), (m2, .inr (4, [.ref r2, .int (nI (hup NS sz n 2)), .int (nI (hup ES sz e 2)), .int (nI (hup PS sz p 2)), .int (nI (hup BS sz b 2))])), (r2, .inl (cI, 40, .inl (fun j => nI ((hup G sz g 2) j)))), (m3, .inr (4, [.ref r3, .int (nI (hup NS sz n 3)), .int (nI (hup ES sz e 3)), .int (nI (hup PS sz p 3)), .int (nI (hup BS sz b 3))])), (r3, .inl (cI, 40, .inl (fun j => nI ((hup G sz g 3) j)))), (kc, .inr (1, [.ref kco, .ref ksp, .ref kbi, .ref kcs, .int (nI n), .int (nI (sW (cM p b g n e)))])), (kco, .inr (2, [.ref kcr, .int (nI (sT (cM p b g n e))), .int (nI (sH (cM p b g n e))), .int (nI p), .int (nI b)])), (kcr, .inl (cI, 9, .inl (fun j => nI ((sF (cM p b g n e)) j)))), (ksp, .inr (6, [.int (nI (sL (cM p b g n e))), .int (nI (sU (cM p b g n e)))])), (kbi, .inr (0, [.ref kbr, .int (nI ((sB (cM p b g n e)).length))])), (kbr, .inl (cI, 658, .inl (fun j => nI (kg j)))), (kcs, .inl (cI, 40, .inl (fun j => nI (kcf j))))]) rfl ?_
    refine V_goto (tgt := 66) hC dX8_set_55 (by decide) ?_
    refine V_aload_n hC dX8_set_66 rfl 0 rfl ?_
    refine V_get (ci := 8) (v := .ref me) hC in_X8 0 rfl cls_X8 0 (by decide) fl_X8_12 rfl dX8_set_67 ?_
    refine V_callvV (As := []) (rest := []) (wr := [(o, .inr (8, [.ref me, .ref kc, .ref tc, .ref rd, .ref tx, .ref tb, .ref hi])), (ml, .inl (cI, 40, .inl (fun j => nI (g j)))), (hi, .inr (3, [.ref hst, .int (nI (hsz sz))])), (hst, .inl (cQ, 4, .inr (.inr (.inr (.inr (hq m0 m1 m2 m3)))))), (m0, .inr (4, [.ref r0, .int (nI (hup NS sz n 0)), .int (nI (hup ES sz e 0)), .int (nI (hup PS sz p 0)), .int (nI (hup BS sz b 0))])), (r0, .inl (cI, 40, .inl (fun j => nI ((hup G sz g 0) j)))), (m1, .inr (4, [.ref r1, .int (nI (hup NS sz n 1)), .int (nI (hup ES sz e 1)), .int (nI (hup PS sz p 1)), .int (nI (hup BS sz b 1))])), (r1, .inl (cI, 40, .inl (fun j => nI ((hup G sz g 1) j)))), (m2, .inr (4, [.ref r2, .int (nI (hup NS sz n 2)), .int (nI (hup ES sz e 2)), .int (nI (hup PS sz p 2)), .int (nI (hup BS sz b 2))])), (r2, .inl (cI, 40, .inl (fun j => nI ((hup G sz g 2) j)))), (m3, .inr (4, [.ref r3, .int (nI (hup NS sz n 3)), .int (nI (hup ES sz e 3)), .int (nI (hup PS sz p 3)), .int (nI (hup BS sz b 3))])), (r3, .inl (cI, 40, .inl (fun j => nI ((hup G sz g 3) j)))), (kc, .inr (1, [.ref kco, .ref ksp, .ref kbi, .ref kcs, .int (nI n), .int (nI (sW (cM p b g n e)))])), (kco, .inr (2, [.ref kcr, .int (nI (sT (cM p b g n e))), .int (nI (sH (cM p b g n e))), .int (nI p), .int (nI b)])), (kcr, .inl (cI, 9, .inl (fun j => nI ((sF (cM p b g n e)) j)))), (ksp, .inr (6, [.int (nI (sL (cM p b g n e))), .int (nI (sU (cM p b g n e)))])), (kbi, .inr (0, [.ref kbr, .int (nI ((sB (cM p b g n e)).length))])), (kbr, .inl (cI, 658, .inl (fun j => nI (kg j)))), (kcs, .inl (cI, 40, .inl (fun j => nI (kcf j))))]) hC (c_X4_empty l D cI cQ me ml n e x b ) mok_X4_empty ml_X8_85 (q1 := 0) rfl cls_X4 rfl rfl rfl (by decide) (by decide) (by decide) (Nat.le_of_ble_eq_true rfl) [1] [0, 2, 3, 4, 5, 6, 7, 8, 9, 10, 11, 12, 13, 14, 15, 16, 17, 18, 19] rfl (by decide) rfl (by decide) (by decide) dX8_set_70 rfl (fun u9 h70 => ?_)
    clear h70
    refine V_perm (ws2 := [(o, .inr (8, [.ref me, .ref kc, .ref tc, .ref rd, .ref tx, .ref tb, .ref hi])), (me, .inr (4, [.ref ml, .int (nI 0), .int (nI 0), .int (nI x), .int (nI b)])), (ml, .inl (cI, 40, .inl (fun j => nI (g j)))), (hi, .inr (3, [.ref hst, .int (nI (hsz sz))])), (hst, .inl (cQ, 4, .inr (.inr (.inr (.inr (hq m0 m1 m2 m3)))))), (m0, .inr (4, [.ref r0, .int (nI (hup NS sz n 0)), .int (nI (hup ES sz e 0)), .int (nI (hup PS sz p 0)), .int (nI (hup BS sz b 0))])), (r0, .inl (cI, 40, .inl (fun j => nI ((hup G sz g 0) j)))), (m1, .inr (4, [.ref r1, .int (nI (hup NS sz n 1)), .int (nI (hup ES sz e 1)), .int (nI (hup PS sz p 1)), .int (nI (hup BS sz b 1))])), (r1, .inl (cI, 40, .inl (fun j => nI ((hup G sz g 1) j)))), (m2, .inr (4, [.ref r2, .int (nI (hup NS sz n 2)), .int (nI (hup ES sz e 2)), .int (nI (hup PS sz p 2)), .int (nI (hup BS sz b 2))])), (r2, .inl (cI, 40, .inl (fun j => nI ((hup G sz g 2) j)))), (m3, .inr (4, [.ref r3, .int (nI (hup NS sz n 3)), .int (nI (hup ES sz e 3)), .int (nI (hup PS sz p 3)), .int (nI (hup BS sz b 3))])), (r3, .inl (cI, 40, .inl (fun j => nI ((hup G sz g 3) j)))), (kc, .inr (1, [.ref kco, .ref ksp, .ref kbi, .ref kcs, .int (nI n), .int (nI (sW (cM p b g n e)))])), (kco, .inr (2, [.ref kcr, .int (nI (sT (cM p b g n e))), .int (nI (sH (cM p b g n e))), .int (nI p), .int (nI b)])), (kcr, .inl (cI, 9, .inl (fun j => nI ((sF (cM p b g n e)) j)))), (ksp, .inr (6, [.int (nI (sL (cM p b g n e))), .int (nI (sU (cM p b g n e)))])), (kbi, .inr (0, [.ref kbr, .int (nI ((sB (cM p b g n e)).length))])), (kbr, .inl (cI, 658, .inl (fun j => nI (kg j)))), (kcs, .inl (cI, 40, .inl (fun j => nI (kcf j))))]) [0, 19, 1, 2, 3, 4, 5, 6, 7, 8, 9, 10, 11, 12, 13, 14, 15, 16, 17, 18] rfl (by decide) ?_
    refine V_aload_n hC dX8_set_73 rfl 0 rfl ?_
    refine V_callvV (As := []) (rest := []) (wr := [(hi, .inr (3, [.ref hst, .int (nI (hsz sz))])), (hst, .inl (cQ, 4, .inr (.inr (.inr (.inr (hq m0 m1 m2 m3)))))), (m0, .inr (4, [.ref r0, .int (nI (hup NS sz n 0)), .int (nI (hup ES sz e 0)), .int (nI (hup PS sz p 0)), .int (nI (hup BS sz b 0))])), (r0, .inl (cI, 40, .inl (fun j => nI ((hup G sz g 0) j)))), (m1, .inr (4, [.ref r1, .int (nI (hup NS sz n 1)), .int (nI (hup ES sz e 1)), .int (nI (hup PS sz p 1)), .int (nI (hup BS sz b 1))])), (r1, .inl (cI, 40, .inl (fun j => nI ((hup G sz g 1) j)))), (m2, .inr (4, [.ref r2, .int (nI (hup NS sz n 2)), .int (nI (hup ES sz e 2)), .int (nI (hup PS sz p 2)), .int (nI (hup BS sz b 2))])), (r2, .inl (cI, 40, .inl (fun j => nI ((hup G sz g 2) j)))), (m3, .inr (4, [.ref r3, .int (nI (hup NS sz n 3)), .int (nI (hup ES sz e 3)), .int (nI (hup PS sz p 3)), .int (nI (hup BS sz b 3))])), (r3, .inl (cI, 40, .inl (fun j => nI ((hup G sz g 3) j))))]) hC (c_X8_writeAnew l D cI cQ o me kc tc rd tx tb hi ml kco kcr ksp kbi kbr kcs n (sW (cM p b g n e)) (sT (cM p b g n e)) (sH (cM p b g n e)) p b (sL (cM p b g n e)) (sU (cM p b g n e)) ((sB (cM p b g n e)).length) 0 0 x b g (sF (cM p b g n e)) kg kcf (by omega) (fun j hj => absurd hj (Nat.not_lt_zero j)) (by omega) (by omega) (by omega)) mok_X8_writeAnew ml_X8_88 (q1 := 0) rfl cls_X8 rfl rfl rfl (by decide) (by decide) (by decide) (Nat.le_of_ble_eq_true rfl) [0, 1, 2, 13, 14, 15, 16, 17, 18, 19] [3, 4, 5, 6, 7, 8, 9, 10, 11, 12] rfl (by decide) rfl (by decide) (by decide) dX8_set_74 rfl (fun u9 h74 => ?_)
    obtain ⟨kg2_2, kcf2_3⟩ := u9
    have h74 : rep kg2_2 (sB (cM x b g 0 0)) ∧ ∀ j, j < 0 → kcf2_3 j = cost x b g j := h74
    refine V_perm (ws2 := [(o, .inr (8, [.ref me, .ref kc, .ref tc, .ref rd, .ref tx, .ref tb, .ref hi])), (me, .inr (4, [.ref ml, .int (nI 0), .int (nI 0), .int (nI x), .int (nI b)])), (ml, .inl (cI, 40, .inl (fun j => nI (g j)))), (hi, .inr (3, [.ref hst, .int (nI (hsz sz))])), (hst, .inl (cQ, 4, .inr (.inr (.inr (.inr (hq m0 m1 m2 m3)))))), (m0, .inr (4, [.ref r0, .int (nI (hup NS sz n 0)), .int (nI (hup ES sz e 0)), .int (nI (hup PS sz p 0)), .int (nI (hup BS sz b 0))])), (r0, .inl (cI, 40, .inl (fun j => nI ((hup G sz g 0) j)))), (m1, .inr (4, [.ref r1, .int (nI (hup NS sz n 1)), .int (nI (hup ES sz e 1)), .int (nI (hup PS sz p 1)), .int (nI (hup BS sz b 1))])), (r1, .inl (cI, 40, .inl (fun j => nI ((hup G sz g 1) j)))), (m2, .inr (4, [.ref r2, .int (nI (hup NS sz n 2)), .int (nI (hup ES sz e 2)), .int (nI (hup PS sz p 2)), .int (nI (hup BS sz b 2))])), (r2, .inl (cI, 40, .inl (fun j => nI ((hup G sz g 2) j)))), (m3, .inr (4, [.ref r3, .int (nI (hup NS sz n 3)), .int (nI (hup ES sz e 3)), .int (nI (hup PS sz p 3)), .int (nI (hup BS sz b 3))])), (r3, .inl (cI, 40, .inl (fun j => nI ((hup G sz g 3) j)))), (kc, .inr (1, [.ref kco, .ref ksp, .ref kbi, .ref kcs, .int (nI 0), .int (nI (sW (cM x b g 0 0)))])), (kco, .inr (2, [.ref kcr, .int (nI (sT (cM x b g 0 0))), .int (nI (sH (cM x b g 0 0))), .int (nI x), .int (nI b)])), (kcr, .inl (cI, 9, .inl (fun j => nI ((sF (cM x b g 0 0)) j)))), (ksp, .inr (6, [.int (nI (sL (cM x b g 0 0))), .int (nI (sU (cM x b g 0 0)))])), (kbi, .inr (0, [.ref kbr, .int (nI ((sB (cM x b g 0 0)).length))])), (kbr, .inl (cI, 658, .inl (fun j => nI (kg2_2 j)))), (kcs, .inl (cI, 40, .inl (fun j => nI (kcf2_3 j))))]) [10, 11, 12, 0, 1, 2, 3, 4, 5, 6, 7, 8, 9, 13, 14, 15, 16, 17, 18, 19] rfl (by decide) ?_
    refine V_iload_n hC dX8_set_77 rfl 3 rfl ?_
    subst hQ
    exact V_iret hC hr hlk rfl (by decide) (by decide) dX8_set_78 ((kg2_2, kcf2_3)) [0, 1, 2, 3, 4, 5, 6, 7, 8, 9, 10, 11, 12, 13, 14, 15, 16, 17, 18, 19] rfl (by decide) (⟨rfl, h74⟩)
  · exact False.elim (by omega)
abbrev rm_X8_set_1 : Room := { frames := 6, cells := 0, slots := 0, locals := 137 }
set_option maxHeartbeats 4000000 in
set_option maxRecDepth 100000 in
theorem c_X8_set_1 (l : Launch) (D : va_G) (cI cQ : ClassId) (o me kc tc rd tx tb hi ml kco kcr ksp kbi kbr kcs hst m0 r0 m1 r1 m2 r2 m3 r3 n e p b sz x : Nat) (g kg kcf : Nat → Nat) (G : Nat → Nat → Nat) (NS ES PS BS : Nat → Nat) (hx : 32 ≤ x ∧ x ≤ 2000) (hn : n ≤ 40) (hg : ∀ j, j < n → g j < 8) (he : e < 2) (hp : p ≤ 64) (hb : b ≤ 2000) (hz : sz ≤ 4) (hES : ∀ j, j < 4 → ES j < 2) : MI l yX8_set cX8_set 4 (some .int) rm_X8_set_1 D (TY cI cQ) [.ref o, .int (nI 1), .int (nI x)] [(o, .inr (8, [.ref me, .ref kc, .ref tc, .ref rd, .ref tx, .ref tb, .ref hi])), (me, .inr (4, [.ref ml, .int (nI n), .int (nI e), .int (nI p), .int (nI b)])), (ml, .inl (cI, 40, .inl (fun j => nI (g j)))), (hi, .inr (3, [.ref hst, .int (nI sz)])), (hst, .inl (cQ, 4, .inr (.inr (.inr (.inr (hq m0 m1 m2 m3)))))), (m0, .inr (4, [.ref r0, .int (nI (NS 0)), .int (nI (ES 0)), .int (nI (PS 0)), .int (nI (BS 0))])), (r0, .inl (cI, 40, .inl (fun j => nI ((G 0) j)))), (m1, .inr (4, [.ref r1, .int (nI (NS 1)), .int (nI (ES 1)), .int (nI (PS 1)), .int (nI (BS 1))])), (r1, .inl (cI, 40, .inl (fun j => nI ((G 1) j)))), (m2, .inr (4, [.ref r2, .int (nI (NS 2)), .int (nI (ES 2)), .int (nI (PS 2)), .int (nI (BS 2))])), (r2, .inl (cI, 40, .inl (fun j => nI ((G 2) j)))), (m3, .inr (4, [.ref r3, .int (nI (NS 3)), .int (nI (ES 3)), .int (nI (PS 3)), .int (nI (BS 3))])), (r3, .inl (cI, 40, .inl (fun j => nI ((G 3) j)))), (kc, .inr (1, [.ref kco, .ref ksp, .ref kbi, .ref kcs, .int (nI n), .int (nI (sW (cM p b g n e)))])), (kco, .inr (2, [.ref kcr, .int (nI (sT (cM p b g n e))), .int (nI (sH (cM p b g n e))), .int (nI p), .int (nI b)])), (kcr, .inl (cI, 9, .inl (fun j => nI ((sF (cM p b g n e)) j)))), (ksp, .inr (6, [.int (nI (sL (cM p b g n e))), .int (nI (sU (cM p b g n e)))])), (kbi, .inr (0, [.ref kbr, .int (nI ((sB (cM p b g n e)).length))])), (kbr, .inl (cI, 658, .inl (fun j => nI (kg j)))), (kcs, .inl (cI, 40, .inl (fun j => nI (kcf j))))] (fun (r9 : Int32) (u : (Nat → Nat) × (Nat → Nat)) => r9 = (nI b) ∧ (rep u.1 (sB (cM p x g 0 0)) ∧ ∀ j, j < 0 → u.2 j = cost p x g j)) (fun (u : (Nat → Nat) × (Nat → Nat)) => [(o, .inr (8, [.ref me, .ref kc, .ref tc, .ref rd, .ref tx, .ref tb, .ref hi])), (me, .inr (4, [.ref ml, .int (nI 0), .int (nI 0), .int (nI p), .int (nI x)])), (ml, .inl (cI, 40, .inl (fun j => nI (g j)))), (hi, .inr (3, [.ref hst, .int (nI (hsz sz))])), (hst, .inl (cQ, 4, .inr (.inr (.inr (.inr (hq m0 m1 m2 m3)))))), (m0, .inr (4, [.ref r0, .int (nI (hup NS sz n 0)), .int (nI (hup ES sz e 0)), .int (nI (hup PS sz p 0)), .int (nI (hup BS sz b 0))])), (r0, .inl (cI, 40, .inl (fun j => nI ((hup G sz g 0) j)))), (m1, .inr (4, [.ref r1, .int (nI (hup NS sz n 1)), .int (nI (hup ES sz e 1)), .int (nI (hup PS sz p 1)), .int (nI (hup BS sz b 1))])), (r1, .inl (cI, 40, .inl (fun j => nI ((hup G sz g 1) j)))), (m2, .inr (4, [.ref r2, .int (nI (hup NS sz n 2)), .int (nI (hup ES sz e 2)), .int (nI (hup PS sz p 2)), .int (nI (hup BS sz b 2))])), (r2, .inl (cI, 40, .inl (fun j => nI ((hup G sz g 2) j)))), (m3, .inr (4, [.ref r3, .int (nI (hup NS sz n 3)), .int (nI (hup ES sz e 3)), .int (nI (hup PS sz p 3)), .int (nI (hup BS sz b 3))])), (r3, .inl (cI, 40, .inl (fun j => nI ((hup G sz g 3) j)))), (kc, .inr (1, [.ref kco, .ref ksp, .ref kbi, .ref kcs, .int (nI 0), .int (nI (sW (cM p x g 0 0)))])), (kco, .inr (2, [.ref kcr, .int (nI (sT (cM p x g 0 0))), .int (nI (sH (cM p x g 0 0))), .int (nI p), .int (nI x)])), (kcr, .inl (cI, 9, .inl (fun j => nI ((sF (cM p x g 0 0)) j)))), (ksp, .inr (6, [.int (nI (sL (cM p x g 0 0))), .int (nI (sU (cM p x g 0 0)))])), (kbi, .inr (0, [.ref kbr, .int (nI ((sB (cM p x g 0 0)).length))])), (kbr, .inl (cI, 658, .inl (fun j => nI (u.1 j)))), (kcs, .inl (cI, 40, .inl (fun j => nI (u.2 j))))]) 0 0 := by
  refine MI.start (by decide) (Nat.le_of_ble_eq_true rfl) (lv0 := [(0, .ref o), (1, .int (nI 1)), (2, .int (nI x))]) rfl ?_
  intro pp9 ee9 ss9 mm9 args9 below9 meth9 co9 A9 Q9 hQ hC hr hlk hnm
  refine V_iload_n hC dX8_set_0 rfl 1 rfl ?_
  refine V_iload_n hC dX8_set_1 rfl 2 rfl ?_
  refine V_calliS (As := [.int (nI 1), .int (nI x)]) (rest := []) (wr := [(o, .inr (8, [.ref me, .ref kc, .ref tc, .ref rd, .ref tx, .ref tb, .ref hi])), (me, .inr (4, [.ref ml, .int (nI n), .int (nI e), .int (nI p), .int (nI b)])), (ml, .inl (cI, 40, .inl (fun j => nI (g j)))), (hi, .inr (3, [.ref hst, .int (nI sz)])), (hst, .inl (cQ, 4, .inr (.inr (.inr (.inr (hq m0 m1 m2 m3)))))), (m0, .inr (4, [.ref r0, .int (nI (NS 0)), .int (nI (ES 0)), .int (nI (PS 0)), .int (nI (BS 0))])), (r0, .inl (cI, 40, .inl (fun j => nI ((G 0) j)))), (m1, .inr (4, [.ref r1, .int (nI (NS 1)), .int (nI (ES 1)), .int (nI (PS 1)), .int (nI (BS 1))])), (r1, .inl (cI, 40, .inl (fun j => nI ((G 1) j)))), (m2, .inr (4, [.ref r2, .int (nI (NS 2)), .int (nI (ES 2)), .int (nI (PS 2)), .int (nI (BS 2))])), (r2, .inl (cI, 40, .inl (fun j => nI ((G 2) j)))), (m3, .inr (4, [.ref r3, .int (nI (NS 3)), .int (nI (ES 3)), .int (nI (PS 3)), .int (nI (BS 3))])), (r3, .inl (cI, 40, .inl (fun j => nI ((G 3) j)))), (kc, .inr (1, [.ref kco, .ref ksp, .ref kbi, .ref kcs, .int (nI n), .int (nI (sW (cM p b g n e)))])), (kco, .inr (2, [.ref kcr, .int (nI (sT (cM p b g n e))), .int (nI (sH (cM p b g n e))), .int (nI p), .int (nI b)])), (kcr, .inl (cI, 9, .inl (fun j => nI ((sF (cM p b g n e)) j)))), (ksp, .inr (6, [.int (nI (sL (cM p b g n e))), .int (nI (sU (cM p b g n e)))])), (kbi, .inr (0, [.ref kbr, .int (nI ((sB (cM p b g n e)).length))])), (kbr, .inl (cI, 658, .inl (fun j => nI (kg j)))), (kcs, .inl (cI, 40, .inl (fun j => nI (kcf j))))]) hC (c_X8_isSetting l D cI cQ 1 x (by omega) (by omega)) mok_X8_isSetting ml_X8_98 rfl rfl rfl (by decide) (by decide) (by decide) (Nat.le_of_ble_eq_true rfl) [] [0, 1, 2, 3, 4, 5, 6, 7, 8, 9, 10, 11, 12, 13, 14, 15, 16, 17, 18, 19] rfl (by decide) rfl (by decide) (by decide) dX8_set_2 rfl (fun r9 u9 h2 => ?_)
  obtain ⟨u_1, rfl⟩ : ∃ z, z = u9 := ⟨_, rfl⟩
  obtain ⟨rfl, h2⟩ := h2
  have h2 : (u_1 = 1 ∧ ((1 = 0 ∧ 1 ≤ x ∧ x ≤ 64) ∨ (1 = 1 ∧ 32 ≤ x ∧ x ≤ 2000))) ∨ (u_1 = 0 ∧ ¬ ((1 = 0 ∧ 1 ≤ x ∧ x ≤ 64) ∨ (1 = 1 ∧ 32 ≤ x ∧ x ≤ 2000))) := h2
  refine V_perm (ws2 := [(o, .inr (8, [.ref me, .ref kc, .ref tc, .ref rd, .ref tx, .ref tb, .ref hi])), (me, .inr (4, [.ref ml, .int (nI n), .int (nI e), .int (nI p), .int (nI b)])), (ml, .inl (cI, 40, .inl (fun j => nI (g j)))), (hi, .inr (3, [.ref hst, .int (nI sz)])), (hst, .inl (cQ, 4, .inr (.inr (.inr (.inr (hq m0 m1 m2 m3)))))), (m0, .inr (4, [.ref r0, .int (nI (NS 0)), .int (nI (ES 0)), .int (nI (PS 0)), .int (nI (BS 0))])), (r0, .inl (cI, 40, .inl (fun j => nI ((G 0) j)))), (m1, .inr (4, [.ref r1, .int (nI (NS 1)), .int (nI (ES 1)), .int (nI (PS 1)), .int (nI (BS 1))])), (r1, .inl (cI, 40, .inl (fun j => nI ((G 1) j)))), (m2, .inr (4, [.ref r2, .int (nI (NS 2)), .int (nI (ES 2)), .int (nI (PS 2)), .int (nI (BS 2))])), (r2, .inl (cI, 40, .inl (fun j => nI ((G 2) j)))), (m3, .inr (4, [.ref r3, .int (nI (NS 3)), .int (nI (ES 3)), .int (nI (PS 3)), .int (nI (BS 3))])), (r3, .inl (cI, 40, .inl (fun j => nI ((G 3) j)))), (kc, .inr (1, [.ref kco, .ref ksp, .ref kbi, .ref kcs, .int (nI n), .int (nI (sW (cM p b g n e)))])), (kco, .inr (2, [.ref kcr, .int (nI (sT (cM p b g n e))), .int (nI (sH (cM p b g n e))), .int (nI p), .int (nI b)])), (kcr, .inl (cI, 9, .inl (fun j => nI ((sF (cM p b g n e)) j)))), (ksp, .inr (6, [.int (nI (sL (cM p b g n e))), .int (nI (sU (cM p b g n e)))])), (kbi, .inr (0, [.ref kbr, .int (nI ((sB (cM p b g n e)).length))])), (kbr, .inl (cI, 658, .inl (fun j => nI (kg j)))), (kcs, .inl (cI, 40, .inl (fun j => nI (kcf j))))]) [0, 1, 2, 3, 4, 5, 6, 7, 8, 9, 10, 11, 12, 13, 14, 15, 16, 17, 18, 19] rfl (by decide) ?_
  refine V_if_ne (tgt := 10) hC (by omega) dX8_set_5 (by decide) (fun c5 => ?_) (fun c5 => ?_)
  · refine V_aload_n hC dX8_set_10 rfl 0 rfl ?_
    refine V_get (ci := 8) (v := .ref hi) hC in_X8 0 rfl cls_X8 6 (by decide) fl_X8_50 rfl dX8_set_11 ?_
    refine V_aload_n hC dX8_set_14 rfl 0 rfl ?_
    refine V_get (ci := 8) (v := .ref me) hC in_X8 0 rfl cls_X8 0 (by decide) fl_X8_12 rfl dX8_set_15 ?_
    refine V_callvV (As := [.ref me]) (rest := []) (wr := [(o, .inr (8, [.ref me, .ref kc, .ref tc, .ref rd, .ref tx, .ref tb, .ref hi])), (kc, .inr (1, [.ref kco, .ref ksp, .ref kbi, .ref kcs, .int (nI n), .int (nI (sW (cM p b g n e)))])), (kco, .inr (2, [.ref kcr, .int (nI (sT (cM p b g n e))), .int (nI (sH (cM p b g n e))), .int (nI p), .int (nI b)])), (kcr, .inl (cI, 9, .inl (fun j => nI ((sF (cM p b g n e)) j)))), (ksp, .inr (6, [.int (nI (sL (cM p b g n e))), .int (nI (sU (cM p b g n e)))])), (kbi, .inr (0, [.ref kbr, .int (nI ((sB (cM p b g n e)).length))])), (kbr, .inl (cI, 658, .inl (fun j => nI (kg j)))), (kcs, .inl (cI, 40, .inl (fun j => nI (kcf j))))]) hC (c_X3_keep l D cI cQ hi hst sz _ r0 _ r1 _ r2 _ r3 _ _ _ _ _ me ml n e p b g (hz) (hES) (he)) mok_X3_keep ml_X8_66 (q1 := 0) rfl cls_X3 rfl rfl rfl (by decide) (by decide) (by decide) (Nat.le_of_ble_eq_true rfl) [3, 4, 5, 6, 7, 8, 9, 10, 11, 12, 1, 2] [0, 13, 14, 15, 16, 17, 18, 19] rfl (by decide) rfl (by decide) (by decide) dX8_set_18 rfl (fun u9 h18 => ?_)
    clear h18
    refine V_perm (ws2 := [(o, .inr (8, [.ref me, .ref kc, .ref tc, .ref rd, .ref tx, .ref tb, .ref hi])), (me, .inr (4, [.ref ml, .int (nI n), .int (nI e), .int (nI p), .int (nI b)])), (ml, .inl (cI, 40, .inl (fun j => nI (g j)))), (hi, .inr (3, [.ref hst, .int (nI (hsz sz))])), (hst, .inl (cQ, 4, .inr (.inr (.inr (.inr (hq m0 m1 m2 m3)))))), (m0, .inr (4, [.ref r0, .int (nI (hup NS sz n 0)), .int (nI (hup ES sz e 0)), .int (nI (hup PS sz p 0)), .int (nI (hup BS sz b 0))])), (r0, .inl (cI, 40, .inl (fun j => nI ((hup G sz g 0) j)))), (m1, .inr (4, [.ref r1, .int (nI (hup NS sz n 1)), .int (nI (hup ES sz e 1)), .int (nI (hup PS sz p 1)), .int (nI (hup BS sz b 1))])), (r1, .inl (cI, 40, .inl (fun j => nI ((hup G sz g 1) j)))), (m2, .inr (4, [.ref r2, .int (nI (hup NS sz n 2)), .int (nI (hup ES sz e 2)), .int (nI (hup PS sz p 2)), .int (nI (hup BS sz b 2))])), (r2, .inl (cI, 40, .inl (fun j => nI ((hup G sz g 2) j)))), (m3, .inr (4, [.ref r3, .int (nI (hup NS sz n 3)), .int (nI (hup ES sz e 3)), .int (nI (hup PS sz p 3)), .int (nI (hup BS sz b 3))])), (r3, .inl (cI, 40, .inl (fun j => nI ((hup G sz g 3) j)))), (kc, .inr (1, [.ref kco, .ref ksp, .ref kbi, .ref kcs, .int (nI n), .int (nI (sW (cM p b g n e)))])), (kco, .inr (2, [.ref kcr, .int (nI (sT (cM p b g n e))), .int (nI (sH (cM p b g n e))), .int (nI p), .int (nI b)])), (kcr, .inl (cI, 9, .inl (fun j => nI ((sF (cM p b g n e)) j)))), (ksp, .inr (6, [.int (nI (sL (cM p b g n e))), .int (nI (sU (cM p b g n e)))])), (kbi, .inr (0, [.ref kbr, .int (nI ((sB (cM p b g n e)).length))])), (kbr, .inl (cI, 658, .inl (fun j => nI (kg j)))), (kcs, .inl (cI, 40, .inl (fun j => nI (kcf j))))]) [0, 18, 19, 8, 9, 10, 11, 12, 13, 14, 15, 16, 17, 1, 2, 3, 4, 5, 6, 7] rfl (by decide) ?_
    refine V_iload_n hC dX8_set_21 rfl 1 rfl ?_
    refine V_if_ne_T (tgt := 35) hC dX8_set_22 (by decide) (nI_ne0 (by omega) (by omega)) ?_
    refine V_aload_n hC dX8_set_35 rfl 0 rfl ?_
    refine V_get (ci := 8) (v := .ref me) hC in_X8 0 rfl cls_X8 0 (by decide) fl_X8_12 rfl dX8_set_36 ?_
    refine V_getN (ci := 4) (v := .int (nI b)) hC in_X4 1 rfl cls_X4 4 (by decide) fn_X8_105 rfl dX8_set_39 ?_
    refine V_istore_n (lv2 := [(0, .ref o), (1, .int (nI 1)), (2, .int (nI x)), (3, .int (nI b))]) hC dX8_set_42 rfl (by decide) [1, 2, 3, 0] rfl ?_
    refine V_iload_n hC dX8_set_43 rfl 1 rfl ?_
    refine V_if_ne_T (tgt := 58) hC dX8_set_44 (by decide) (nI_ne0 (by omega) (by omega)) ?_
    refine V_aload_n hC dX8_set_58 rfl 0 rfl ?_
    refine V_get (ci := 8) (v := .ref me) hC in_X8 0 rfl cls_X8 0 (by decide) fl_X8_12 rfl dX8_set_59 ?_
    refine V_iload_n hC dX8_set_62 rfl 2 rfl ?_
    refine V_putN (ci := 4) (v := .int (nI x)) hC tyX4 tyX4_ok nmX4 in_X4 1 rfl cls_X4 4 (by decide) fn_X8_105 rfl rfl rfl (Nat.le_of_ble_eq_true rfl) dX8_set_63 (ws2 := [(o, .inr (8, [.ref me, .ref kc, .ref tc, .ref rd, .ref tx, .ref tb, .ref hi])), (me, .inr (4, [.ref ml, .int (nI n), .int (nI e), .int (nI p), .int (nI x)])), (ml, .inl (cI, 40, .inl (fun j => nI (g j)))), (hi, .inr (3, [.ref hst, .int (nI (hsz sz))])), (hst, .inl (cQ, 4, .inr (.inr (.inr (.inr (hq m0 m1 m2 m3)))))), (m0, .inr (4, [.ref r0, .int (nI (hup NS sz n 0)), .int (nI (hup ES sz e 0)), .int (nI (hup PS sz p 0)), .int (nI (hup BS sz b 0))])), (r0, .inl (cI, 40, .inl (fun j => nI ((hup G sz g 0) j)))), (m1, .inr (4, [.ref r1, .int (nI (hup NS sz n 1)), .int (nI (hup ES sz e 1)), .int (nI (hup PS sz p 1)), .int (nI (hup BS sz b 1))])), (r1, .inl (cI, 40, .inl (fun j => nI ((hup G sz g 1) j)))), (m2, .inr (4, [.ref r2, .int (nI (hup NS sz n 2)), .int (nI (hup ES sz e 2)), .int (nI (hup PS sz p 2)), .int (nI (hup BS sz b 2))])), (r2, .inl (cI, 40, .inl (fun j => nI ((hup G sz g 2) j)))), (m3, .inr (4, [.ref r3, .int (nI (hup NS sz n 3)), .int (nI (hup ES sz e 3)), .int (nI (hup PS sz p 3)), .int (nI (hup BS sz b 3))])), (r3, .inl (cI, 40, .inl (fun j => nI ((hup G sz g 3) j)))), (kc, .inr (1, [.ref kco, .ref ksp, .ref kbi, .ref kcs, .int (nI n), .int (nI (sW (cM p b g n e)))])), (kco, .inr (2, [.ref kcr, .int (nI (sT (cM p b g n e))), .int (nI (sH (cM p b g n e))), .int (nI p), .int (nI b)])), (kcr, .inl (cI, 9, .inl (fun j => nI ((sF (cM p b g n e)) j)))), (ksp, .inr (6, [.int (nI (sL (cM p b g n e))), .int (nI (sU (cM p b g n e)))])), (kbi, .inr (0, [.ref kbr, .int (nI ((sB (cM p b g n e)).length))])), (kbr, .inl (cI, 658, .inl (fun j => nI (kg j)))), (kcs, .inl (cI, 40, .inl (fun j => nI (kcf j))))]) rfl ?_
    refine V_aload_n hC dX8_set_66 rfl 0 rfl ?_
    refine V_get (ci := 8) (v := .ref me) hC in_X8 0 rfl cls_X8 0 (by decide) fl_X8_12 rfl dX8_set_67 ?_
    refine V_callvV (As := []) (rest := []) (wr := [(o, .inr (8, [.ref me, .ref kc, .ref tc, .ref rd, .ref tx, .ref tb, .ref hi])), (ml, .inl (cI, 40, .inl (fun j => nI (g j)))), (hi, .inr (3, [.ref hst, .int (nI (hsz sz))])), (hst, .inl (cQ, 4, .inr (.inr (.inr (.inr (hq m0 m1 m2 m3)))))), (m0, .inr (4, [.ref r0, .int (nI (hup NS sz n 0)), .int (nI (hup ES sz e 0)), .int (nI (hup PS sz p 0)), .int (nI (hup BS sz b 0))])), (r0, .inl (cI, 40, .inl (fun j => nI ((hup G sz g 0) j)))), (m1, .inr (4, [.ref r1, .int (nI (hup NS sz n 1)), .int (nI (hup ES sz e 1)), .int (nI (hup PS sz p 1)), .int (nI (hup BS sz b 1))])), (r1, .inl (cI, 40, .inl (fun j => nI ((hup G sz g 1) j)))), (m2, .inr (4, [.ref r2, .int (nI (hup NS sz n 2)), .int (nI (hup ES sz e 2)), .int (nI (hup PS sz p 2)), .int (nI (hup BS sz b 2))])), (r2, .inl (cI, 40, .inl (fun j => nI ((hup G sz g 2) j)))), (m3, .inr (4, [.ref r3, .int (nI (hup NS sz n 3)), .int (nI (hup ES sz e 3)), .int (nI (hup PS sz p 3)), .int (nI (hup BS sz b 3))])), (r3, .inl (cI, 40, .inl (fun j => nI ((hup G sz g 3) j)))), (kc, .inr (1, [.ref kco, .ref ksp, .ref kbi, .ref kcs, .int (nI n), .int (nI (sW (cM p b g n e)))])), (kco, .inr (2, [.ref kcr, .int (nI (sT (cM p b g n e))), .int (nI (sH (cM p b g n e))), .int (nI p), .int (nI b)])), (kcr, .inl (cI, 9, .inl (fun j => nI ((sF (cM p b g n e)) j)))), (ksp, .inr (6, [.int (nI (sL (cM p b g n e))), .int (nI (sU (cM p b g n e)))])), (kbi, .inr (0, [.ref kbr, .int (nI ((sB (cM p b g n e)).length))])), (kbr, .inl (cI, 658, .inl (fun j => nI (kg j)))), (kcs, .inl (cI, 40, .inl (fun j => nI (kcf j))))]) hC (c_X4_empty l D cI cQ me ml n e p x ) mok_X4_empty ml_X8_85 (q1 := 0) rfl cls_X4 rfl rfl rfl (by decide) (by decide) (by decide) (Nat.le_of_ble_eq_true rfl) [1] [0, 2, 3, 4, 5, 6, 7, 8, 9, 10, 11, 12, 13, 14, 15, 16, 17, 18, 19] rfl (by decide) rfl (by decide) (by decide) dX8_set_70 rfl (fun u9 h70 => ?_)
    clear h70
    refine V_perm (ws2 := [(o, .inr (8, [.ref me, .ref kc, .ref tc, .ref rd, .ref tx, .ref tb, .ref hi])), (me, .inr (4, [.ref ml, .int (nI 0), .int (nI 0), .int (nI p), .int (nI x)])), (ml, .inl (cI, 40, .inl (fun j => nI (g j)))), (hi, .inr (3, [.ref hst, .int (nI (hsz sz))])), (hst, .inl (cQ, 4, .inr (.inr (.inr (.inr (hq m0 m1 m2 m3)))))), (m0, .inr (4, [.ref r0, .int (nI (hup NS sz n 0)), .int (nI (hup ES sz e 0)), .int (nI (hup PS sz p 0)), .int (nI (hup BS sz b 0))])), (r0, .inl (cI, 40, .inl (fun j => nI ((hup G sz g 0) j)))), (m1, .inr (4, [.ref r1, .int (nI (hup NS sz n 1)), .int (nI (hup ES sz e 1)), .int (nI (hup PS sz p 1)), .int (nI (hup BS sz b 1))])), (r1, .inl (cI, 40, .inl (fun j => nI ((hup G sz g 1) j)))), (m2, .inr (4, [.ref r2, .int (nI (hup NS sz n 2)), .int (nI (hup ES sz e 2)), .int (nI (hup PS sz p 2)), .int (nI (hup BS sz b 2))])), (r2, .inl (cI, 40, .inl (fun j => nI ((hup G sz g 2) j)))), (m3, .inr (4, [.ref r3, .int (nI (hup NS sz n 3)), .int (nI (hup ES sz e 3)), .int (nI (hup PS sz p 3)), .int (nI (hup BS sz b 3))])), (r3, .inl (cI, 40, .inl (fun j => nI ((hup G sz g 3) j)))), (kc, .inr (1, [.ref kco, .ref ksp, .ref kbi, .ref kcs, .int (nI n), .int (nI (sW (cM p b g n e)))])), (kco, .inr (2, [.ref kcr, .int (nI (sT (cM p b g n e))), .int (nI (sH (cM p b g n e))), .int (nI p), .int (nI b)])), (kcr, .inl (cI, 9, .inl (fun j => nI ((sF (cM p b g n e)) j)))), (ksp, .inr (6, [.int (nI (sL (cM p b g n e))), .int (nI (sU (cM p b g n e)))])), (kbi, .inr (0, [.ref kbr, .int (nI ((sB (cM p b g n e)).length))])), (kbr, .inl (cI, 658, .inl (fun j => nI (kg j)))), (kcs, .inl (cI, 40, .inl (fun j => nI (kcf j))))]) [0, 19, 1, 2, 3, 4, 5, 6, 7, 8, 9, 10, 11, 12, 13, 14, 15, 16, 17, 18] rfl (by decide) ?_
    refine V_aload_n hC dX8_set_73 rfl 0 rfl ?_
    refine V_callvV (As := []) (rest := []) (wr := [(hi, .inr (3, [.ref hst, .int (nI (hsz sz))])), (hst, .inl (cQ, 4, .inr (.inr (.inr (.inr (hq m0 m1 m2 m3)))))), (m0, .inr (4, [.ref r0, .int (nI (hup NS sz n 0)), .int (nI (hup ES sz e 0)), .int (nI (hup PS sz p 0)), .int (nI (hup BS sz b 0))])), (r0, .inl (cI, 40, .inl (fun j => nI ((hup G sz g 0) j)))), (m1, .inr (4, [.ref r1, .int (nI (hup NS sz n 1)), .int (nI (hup ES sz e 1)), .int (nI (hup PS sz p 1)), .int (nI (hup BS sz b 1))])), (r1, .inl (cI, 40, .inl (fun j => nI ((hup G sz g 1) j)))), (m2, .inr (4, [.ref r2, .int (nI (hup NS sz n 2)), .int (nI (hup ES sz e 2)), .int (nI (hup PS sz p 2)), .int (nI (hup BS sz b 2))])), (r2, .inl (cI, 40, .inl (fun j => nI ((hup G sz g 2) j)))), (m3, .inr (4, [.ref r3, .int (nI (hup NS sz n 3)), .int (nI (hup ES sz e 3)), .int (nI (hup PS sz p 3)), .int (nI (hup BS sz b 3))])), (r3, .inl (cI, 40, .inl (fun j => nI ((hup G sz g 3) j))))]) hC (c_X8_writeAnew l D cI cQ o me kc tc rd tx tb hi ml kco kcr ksp kbi kbr kcs n (sW (cM p b g n e)) (sT (cM p b g n e)) (sH (cM p b g n e)) p b (sL (cM p b g n e)) (sU (cM p b g n e)) ((sB (cM p b g n e)).length) 0 0 p x g (sF (cM p b g n e)) kg kcf (by omega) (fun j hj => absurd hj (Nat.not_lt_zero j)) (by omega) (by omega) (by omega)) mok_X8_writeAnew ml_X8_88 (q1 := 0) rfl cls_X8 rfl rfl rfl (by decide) (by decide) (by decide) (Nat.le_of_ble_eq_true rfl) [0, 1, 2, 13, 14, 15, 16, 17, 18, 19] [3, 4, 5, 6, 7, 8, 9, 10, 11, 12] rfl (by decide) rfl (by decide) (by decide) dX8_set_74 rfl (fun u9 h74 => ?_)
    obtain ⟨kg2_2, kcf2_3⟩ := u9
    have h74 : rep kg2_2 (sB (cM p x g 0 0)) ∧ ∀ j, j < 0 → kcf2_3 j = cost p x g j := h74
    refine V_perm (ws2 := [(o, .inr (8, [.ref me, .ref kc, .ref tc, .ref rd, .ref tx, .ref tb, .ref hi])), (me, .inr (4, [.ref ml, .int (nI 0), .int (nI 0), .int (nI p), .int (nI x)])), (ml, .inl (cI, 40, .inl (fun j => nI (g j)))), (hi, .inr (3, [.ref hst, .int (nI (hsz sz))])), (hst, .inl (cQ, 4, .inr (.inr (.inr (.inr (hq m0 m1 m2 m3)))))), (m0, .inr (4, [.ref r0, .int (nI (hup NS sz n 0)), .int (nI (hup ES sz e 0)), .int (nI (hup PS sz p 0)), .int (nI (hup BS sz b 0))])), (r0, .inl (cI, 40, .inl (fun j => nI ((hup G sz g 0) j)))), (m1, .inr (4, [.ref r1, .int (nI (hup NS sz n 1)), .int (nI (hup ES sz e 1)), .int (nI (hup PS sz p 1)), .int (nI (hup BS sz b 1))])), (r1, .inl (cI, 40, .inl (fun j => nI ((hup G sz g 1) j)))), (m2, .inr (4, [.ref r2, .int (nI (hup NS sz n 2)), .int (nI (hup ES sz e 2)), .int (nI (hup PS sz p 2)), .int (nI (hup BS sz b 2))])), (r2, .inl (cI, 40, .inl (fun j => nI ((hup G sz g 2) j)))), (m3, .inr (4, [.ref r3, .int (nI (hup NS sz n 3)), .int (nI (hup ES sz e 3)), .int (nI (hup PS sz p 3)), .int (nI (hup BS sz b 3))])), (r3, .inl (cI, 40, .inl (fun j => nI ((hup G sz g 3) j)))), (kc, .inr (1, [.ref kco, .ref ksp, .ref kbi, .ref kcs, .int (nI 0), .int (nI (sW (cM p x g 0 0)))])), (kco, .inr (2, [.ref kcr, .int (nI (sT (cM p x g 0 0))), .int (nI (sH (cM p x g 0 0))), .int (nI p), .int (nI x)])), (kcr, .inl (cI, 9, .inl (fun j => nI ((sF (cM p x g 0 0)) j)))), (ksp, .inr (6, [.int (nI (sL (cM p x g 0 0))), .int (nI (sU (cM p x g 0 0)))])), (kbi, .inr (0, [.ref kbr, .int (nI ((sB (cM p x g 0 0)).length))])), (kbr, .inl (cI, 658, .inl (fun j => nI (kg2_2 j)))), (kcs, .inl (cI, 40, .inl (fun j => nI (kcf2_3 j))))]) [10, 11, 12, 0, 1, 2, 3, 4, 5, 6, 7, 8, 9, 13, 14, 15, 16, 17, 18, 19] rfl (by decide) ?_
    refine V_iload_n hC dX8_set_77 rfl 3 rfl ?_
    subst hQ
    exact V_iret hC hr hlk rfl (by decide) (by decide) dX8_set_78 ((kg2_2, kcf2_3)) [0, 1, 2, 3, 4, 5, 6, 7, 8, 9, 10, 11, 12, 13, 14, 15, 16, 17, 18, 19] rfl (by decide) (⟨rfl, h74⟩)
  · exact False.elim (by omega)
abbrev rm_X8_undo_empty : Room := { frames := 0, cells := 0, slots := 0, locals := 0 }
set_option maxHeartbeats 4000000 in
set_option maxRecDepth 100000 in
theorem c_X8_undo_empty (l : Launch) (D : va_G) (cI cQ : ClassId) (o me kc tc rd tx tb hi hst sz : Nat) (hz : sz = 0) : MI l yX8_undo cX8_undo 1 (some .int) rm_X8_undo_empty D (TY cI cQ) [.ref o] [(o, .inr (8, [.ref me, .ref kc, .ref tc, .ref rd, .ref tx, .ref tb, .ref hi])), (hi, .inr (3, [.ref hst, .int (nI sz)]))] (fun (r9 : Int32) (u : Unit) => r9 = (-2) ∧ (True)) (fun (u : Unit) => [(o, .inr (8, [.ref me, .ref kc, .ref tc, .ref rd, .ref tx, .ref tb, .ref hi])), (hi, .inr (3, [.ref hst, .int (nI sz)]))]) 0 0 := by
  refine MI.start (by decide) (Nat.le_of_ble_eq_true rfl) (lv0 := [(0, .ref o)]) rfl ?_
  intro pp9 ee9 ss9 mm9 args9 below9 meth9 co9 A9 Q9 hQ hC hr hlk hnm
  refine V_aload_n hC dX8_undo_0 rfl 0 rfl ?_
  refine V_get (ci := 8) (v := .ref hi) hC in_X8 0 rfl cls_X8 6 (by decide) fl_X8_50 rfl dX8_undo_1 ?_
  refine V_getN (ci := 3) (v := .int (nI sz)) hC in_X3 1 rfl cls_X3 1 (by decide) fn_X8_153 rfl dX8_undo_4 ?_
  refine V_if_ne (tgt := 13) hC (by omega) dX8_undo_7 (by decide) (fun c7 => ?_) (fun c7 => ?_)
  · exact False.elim (by omega)
  · refine V_bipush (v := -2) hC dX8_undo_10 (by decide) ?_
    subst hQ
    exact V_iret hC hr hlk rfl (by decide) (by decide) dX8_undo_12 (()) [0, 1] rfl (by decide) (⟨rfl, trivial⟩)
abbrev rm_X8_undo_ok : Room := { frames := 6, cells := 0, slots := 0, locals := 137 }
set_option maxHeartbeats 4000000 in
set_option maxRecDepth 100000 in
theorem c_X8_undo_ok (l : Launch) (D : va_G) (cI cQ : ClassId) (o me kc tc rd tx tb hi ml kco kcr ksp kbi kbr kcs hst m0 r0 m1 r1 m2 r2 m3 r3 n e p b sz : Nat) (g kg kcf : Nat → Nat) (G : Nat → Nat → Nat) (NS ES PS BS : Nat → Nat) (hz : 1 ≤ sz ∧ sz ≤ 4) (hES : ∀ j, j < 4 → ES j < 2) (hsn : NS (sz - 1) ≤ 40) (hsg : ∀ j, j < NS (sz - 1) → G (sz - 1) j < 8) (hse : ES (sz - 1) < 2) (hsp : PS (sz - 1) ≤ 64) (hsb : BS (sz - 1) ≤ 2000) : MI l yX8_undo cX8_undo 1 (some .int) rm_X8_undo_ok D (TY cI cQ) [.ref o] [(o, .inr (8, [.ref me, .ref kc, .ref tc, .ref rd, .ref tx, .ref tb, .ref hi])), (me, .inr (4, [.ref ml, .int (nI n), .int (nI e), .int (nI p), .int (nI b)])), (ml, .inl (cI, 40, .inl (fun j => nI (g j)))), (hi, .inr (3, [.ref hst, .int (nI sz)])), (hst, .inl (cQ, 4, .inr (.inr (.inr (.inr (hq m0 m1 m2 m3)))))), (m0, .inr (4, [.ref r0, .int (nI (NS 0)), .int (nI (ES 0)), .int (nI (PS 0)), .int (nI (BS 0))])), (r0, .inl (cI, 40, .inl (fun j => nI ((G 0) j)))), (m1, .inr (4, [.ref r1, .int (nI (NS 1)), .int (nI (ES 1)), .int (nI (PS 1)), .int (nI (BS 1))])), (r1, .inl (cI, 40, .inl (fun j => nI ((G 1) j)))), (m2, .inr (4, [.ref r2, .int (nI (NS 2)), .int (nI (ES 2)), .int (nI (PS 2)), .int (nI (BS 2))])), (r2, .inl (cI, 40, .inl (fun j => nI ((G 2) j)))), (m3, .inr (4, [.ref r3, .int (nI (NS 3)), .int (nI (ES 3)), .int (nI (PS 3)), .int (nI (BS 3))])), (r3, .inl (cI, 40, .inl (fun j => nI ((G 3) j)))), (kc, .inr (1, [.ref kco, .ref ksp, .ref kbi, .ref kcs, .int (nI n), .int (nI (sW (cM p b g n e)))])), (kco, .inr (2, [.ref kcr, .int (nI (sT (cM p b g n e))), .int (nI (sH (cM p b g n e))), .int (nI p), .int (nI b)])), (kcr, .inl (cI, 9, .inl (fun j => nI ((sF (cM p b g n e)) j)))), (ksp, .inr (6, [.int (nI (sL (cM p b g n e))), .int (nI (sU (cM p b g n e)))])), (kbi, .inr (0, [.ref kbr, .int (nI ((sB (cM p b g n e)).length))])), (kbr, .inl (cI, 658, .inl (fun j => nI (kg j)))), (kcs, .inl (cI, 40, .inl (fun j => nI (kcf j))))] (fun (r9 : Int32) (u : (Nat → Nat) × (Nat → Nat)) => r9 = (nI (sz - 1)) ∧ (rep u.1 (sB (cM (PS (sz - 1)) (BS (sz - 1)) (G (sz - 1)) (NS (sz - 1)) (ES (sz - 1)))) ∧ ∀ j, j < NS (sz - 1) → u.2 j = cost (PS (sz - 1)) (BS (sz - 1)) (G (sz - 1)) j)) (fun (u : (Nat → Nat) × (Nat → Nat)) => [(o, .inr (8, [.ref me, .ref kc, .ref tc, .ref rd, .ref tx, .ref tb, .ref hi])), (me, .inr (4, [.ref ml, .int (nI (NS (sz - 1))), .int (nI (ES (sz - 1))), .int (nI (PS (sz - 1))), .int (nI (BS (sz - 1)))])), (ml, .inl (cI, 40, .inl (fun j => nI ((G (sz - 1)) j)))), (hi, .inr (3, [.ref hst, .int (nI (sz - 1))])), (hst, .inl (cQ, 4, .inr (.inr (.inr (.inr (hq m0 m1 m2 m3)))))), (m0, .inr (4, [.ref r0, .int (nI (NS 0)), .int (nI (ES 0)), .int (nI (PS 0)), .int (nI (BS 0))])), (r0, .inl (cI, 40, .inl (fun j => nI ((G 0) j)))), (m1, .inr (4, [.ref r1, .int (nI (NS 1)), .int (nI (ES 1)), .int (nI (PS 1)), .int (nI (BS 1))])), (r1, .inl (cI, 40, .inl (fun j => nI ((G 1) j)))), (m2, .inr (4, [.ref r2, .int (nI (NS 2)), .int (nI (ES 2)), .int (nI (PS 2)), .int (nI (BS 2))])), (r2, .inl (cI, 40, .inl (fun j => nI ((G 2) j)))), (m3, .inr (4, [.ref r3, .int (nI (NS 3)), .int (nI (ES 3)), .int (nI (PS 3)), .int (nI (BS 3))])), (r3, .inl (cI, 40, .inl (fun j => nI ((G 3) j)))), (kc, .inr (1, [.ref kco, .ref ksp, .ref kbi, .ref kcs, .int (nI (NS (sz - 1))), .int (nI (sW (cM (PS (sz - 1)) (BS (sz - 1)) (G (sz - 1)) (NS (sz - 1)) (ES (sz - 1)))))])), (kco, .inr (2, [.ref kcr, .int (nI (sT (cM (PS (sz - 1)) (BS (sz - 1)) (G (sz - 1)) (NS (sz - 1)) (ES (sz - 1))))), .int (nI (sH (cM (PS (sz - 1)) (BS (sz - 1)) (G (sz - 1)) (NS (sz - 1)) (ES (sz - 1))))), .int (nI (PS (sz - 1))), .int (nI (BS (sz - 1)))])), (kcr, .inl (cI, 9, .inl (fun j => nI ((sF (cM (PS (sz - 1)) (BS (sz - 1)) (G (sz - 1)) (NS (sz - 1)) (ES (sz - 1)))) j)))), (ksp, .inr (6, [.int (nI (sL (cM (PS (sz - 1)) (BS (sz - 1)) (G (sz - 1)) (NS (sz - 1)) (ES (sz - 1))))), .int (nI (sU (cM (PS (sz - 1)) (BS (sz - 1)) (G (sz - 1)) (NS (sz - 1)) (ES (sz - 1)))))])), (kbi, .inr (0, [.ref kbr, .int (nI ((sB (cM (PS (sz - 1)) (BS (sz - 1)) (G (sz - 1)) (NS (sz - 1)) (ES (sz - 1)))).length))])), (kbr, .inl (cI, 658, .inl (fun j => nI (u.1 j)))), (kcs, .inl (cI, 40, .inl (fun j => nI (u.2 j))))]) 0 0 := by
  refine MI.start (by decide) (Nat.le_of_ble_eq_true rfl) (lv0 := [(0, .ref o)]) rfl ?_
  intro pp9 ee9 ss9 mm9 args9 below9 meth9 co9 A9 Q9 hQ hC hr hlk hnm
  refine V_aload_n hC dX8_undo_0 rfl 0 rfl ?_
  refine V_get (ci := 8) (v := .ref hi) hC in_X8 0 rfl cls_X8 6 (by decide) fl_X8_50 rfl dX8_undo_1 ?_
  refine V_getN (ci := 3) (v := .int (nI sz)) hC in_X3 3 rfl cls_X3 1 (by decide) fn_X8_153 rfl dX8_undo_4 ?_
  refine V_if_ne (tgt := 13) hC (by omega) dX8_undo_7 (by decide) (fun c7 => ?_) (fun c7 => ?_)
  · refine V_aload_n hC dX8_undo_13 rfl 0 rfl ?_
    refine V_get (ci := 8) (v := .ref hi) hC in_X8 0 rfl cls_X8 6 (by decide) fl_X8_50 rfl dX8_undo_14 ?_
    refine V_aload_n hC dX8_undo_17 rfl 0 rfl ?_
    refine V_get (ci := 8) (v := .ref me) hC in_X8 0 rfl cls_X8 0 (by decide) fl_X8_12 rfl dX8_undo_18 ?_
    refine V_callvV (As := [.ref me]) (rest := []) (wr := [(o, .inr (8, [.ref me, .ref kc, .ref tc, .ref rd, .ref tx, .ref tb, .ref hi])), (kc, .inr (1, [.ref kco, .ref ksp, .ref kbi, .ref kcs, .int (nI n), .int (nI (sW (cM p b g n e)))])), (kco, .inr (2, [.ref kcr, .int (nI (sT (cM p b g n e))), .int (nI (sH (cM p b g n e))), .int (nI p), .int (nI b)])), (kcr, .inl (cI, 9, .inl (fun j => nI ((sF (cM p b g n e)) j)))), (ksp, .inr (6, [.int (nI (sL (cM p b g n e))), .int (nI (sU (cM p b g n e)))])), (kbi, .inr (0, [.ref kbr, .int (nI ((sB (cM p b g n e)).length))])), (kbr, .inl (cI, 658, .inl (fun j => nI (kg j)))), (kcs, .inl (cI, 40, .inl (fun j => nI (kcf j))))]) hC (c_X3_restore l D cI cQ hi hst sz _ r0 _ r1 _ r2 _ r3 _ _ _ _ _ me ml n e p b g (hz) (hES)) mok_X3_restore ml_X8_179 (q1 := 0) rfl cls_X3 rfl rfl rfl (by decide) (by decide) (by decide) (Nat.le_of_ble_eq_true rfl) [3, 4, 5, 6, 7, 8, 9, 10, 11, 12, 1, 2] [0, 13, 14, 15, 16, 17, 18, 19] rfl (by decide) rfl (by decide) (by decide) dX8_undo_21 rfl (fun u9 h21 => ?_)
    clear h21
    refine V_perm (ws2 := [(o, .inr (8, [.ref me, .ref kc, .ref tc, .ref rd, .ref tx, .ref tb, .ref hi])), (me, .inr (4, [.ref ml, .int (nI (NS (sz - 1))), .int (nI (ES (sz - 1))), .int (nI (PS (sz - 1))), .int (nI (BS (sz - 1)))])), (ml, .inl (cI, 40, .inl (fun j => nI ((G (sz - 1)) j)))), (hi, .inr (3, [.ref hst, .int (nI (sz - 1))])), (hst, .inl (cQ, 4, .inr (.inr (.inr (.inr (hq m0 m1 m2 m3)))))), (m0, .inr (4, [.ref r0, .int (nI (NS 0)), .int (nI (ES 0)), .int (nI (PS 0)), .int (nI (BS 0))])), (r0, .inl (cI, 40, .inl (fun j => nI ((G 0) j)))), (m1, .inr (4, [.ref r1, .int (nI (NS 1)), .int (nI (ES 1)), .int (nI (PS 1)), .int (nI (BS 1))])), (r1, .inl (cI, 40, .inl (fun j => nI ((G 1) j)))), (m2, .inr (4, [.ref r2, .int (nI (NS 2)), .int (nI (ES 2)), .int (nI (PS 2)), .int (nI (BS 2))])), (r2, .inl (cI, 40, .inl (fun j => nI ((G 2) j)))), (m3, .inr (4, [.ref r3, .int (nI (NS 3)), .int (nI (ES 3)), .int (nI (PS 3)), .int (nI (BS 3))])), (r3, .inl (cI, 40, .inl (fun j => nI ((G 3) j)))), (kc, .inr (1, [.ref kco, .ref ksp, .ref kbi, .ref kcs, .int (nI n), .int (nI (sW (cM p b g n e)))])), (kco, .inr (2, [.ref kcr, .int (nI (sT (cM p b g n e))), .int (nI (sH (cM p b g n e))), .int (nI p), .int (nI b)])), (kcr, .inl (cI, 9, .inl (fun j => nI ((sF (cM p b g n e)) j)))), (ksp, .inr (6, [.int (nI (sL (cM p b g n e))), .int (nI (sU (cM p b g n e)))])), (kbi, .inr (0, [.ref kbr, .int (nI ((sB (cM p b g n e)).length))])), (kbr, .inl (cI, 658, .inl (fun j => nI (kg j)))), (kcs, .inl (cI, 40, .inl (fun j => nI (kcf j))))]) [0, 18, 19, 8, 9, 10, 11, 12, 13, 14, 15, 16, 17, 1, 2, 3, 4, 5, 6, 7] rfl (by decide) ?_
    refine V_aload_n hC dX8_undo_24 rfl 0 rfl ?_
    refine V_callvV (As := []) (rest := []) (wr := [(hi, .inr (3, [.ref hst, .int (nI (sz - 1))])), (hst, .inl (cQ, 4, .inr (.inr (.inr (.inr (hq m0 m1 m2 m3)))))), (m0, .inr (4, [.ref r0, .int (nI (NS 0)), .int (nI (ES 0)), .int (nI (PS 0)), .int (nI (BS 0))])), (r0, .inl (cI, 40, .inl (fun j => nI ((G 0) j)))), (m1, .inr (4, [.ref r1, .int (nI (NS 1)), .int (nI (ES 1)), .int (nI (PS 1)), .int (nI (BS 1))])), (r1, .inl (cI, 40, .inl (fun j => nI ((G 1) j)))), (m2, .inr (4, [.ref r2, .int (nI (NS 2)), .int (nI (ES 2)), .int (nI (PS 2)), .int (nI (BS 2))])), (r2, .inl (cI, 40, .inl (fun j => nI ((G 2) j)))), (m3, .inr (4, [.ref r3, .int (nI (NS 3)), .int (nI (ES 3)), .int (nI (PS 3)), .int (nI (BS 3))])), (r3, .inl (cI, 40, .inl (fun j => nI ((G 3) j))))]) hC (c_X8_writeAnew l D cI cQ o me kc tc rd tx tb hi ml kco kcr ksp kbi kbr kcs n (sW (cM p b g n e)) (sT (cM p b g n e)) (sH (cM p b g n e)) p b (sL (cM p b g n e)) (sU (cM p b g n e)) ((sB (cM p b g n e)).length) (NS (sz - 1)) (ES (sz - 1)) (PS (sz - 1)) (BS (sz - 1)) (G (sz - 1)) (sF (cM p b g n e)) kg kcf (hsn) (hsg) (hse) (hsp) (hsb)) mok_X8_writeAnew ml_X8_88 (q1 := 0) rfl cls_X8 rfl rfl rfl (by decide) (by decide) (by decide) (Nat.le_of_ble_eq_true rfl) [0, 1, 2, 13, 14, 15, 16, 17, 18, 19] [3, 4, 5, 6, 7, 8, 9, 10, 11, 12] rfl (by decide) rfl (by decide) (by decide) dX8_undo_25 rfl (fun u9 h25 => ?_)
    obtain ⟨kg2_1, kcf2_2⟩ := u9
    have h25 : rep kg2_1 (sB (cM (PS (sz - 1)) (BS (sz - 1)) (G (sz - 1)) (NS (sz - 1)) (ES (sz - 1)))) ∧ ∀ j, j < (NS (sz - 1)) → kcf2_2 j = cost (PS (sz - 1)) (BS (sz - 1)) (G (sz - 1)) j := h25
    refine V_perm (ws2 := [(o, .inr (8, [.ref me, .ref kc, .ref tc, .ref rd, .ref tx, .ref tb, .ref hi])), (me, .inr (4, [.ref ml, .int (nI ((NS (sz - 1)))), .int (nI ((ES (sz - 1)))), .int (nI ((PS (sz - 1)))), .int (nI ((BS (sz - 1))))])), (ml, .inl (cI, 40, .inl (fun j => nI (((G (sz - 1))) j)))), (hi, .inr (3, [.ref hst, .int (nI (sz - 1))])), (hst, .inl (cQ, 4, .inr (.inr (.inr (.inr (hq m0 m1 m2 m3)))))), (m0, .inr (4, [.ref r0, .int (nI (NS 0)), .int (nI (ES 0)), .int (nI (PS 0)), .int (nI (BS 0))])), (r0, .inl (cI, 40, .inl (fun j => nI ((G 0) j)))), (m1, .inr (4, [.ref r1, .int (nI (NS 1)), .int (nI (ES 1)), .int (nI (PS 1)), .int (nI (BS 1))])), (r1, .inl (cI, 40, .inl (fun j => nI ((G 1) j)))), (m2, .inr (4, [.ref r2, .int (nI (NS 2)), .int (nI (ES 2)), .int (nI (PS 2)), .int (nI (BS 2))])), (r2, .inl (cI, 40, .inl (fun j => nI ((G 2) j)))), (m3, .inr (4, [.ref r3, .int (nI (NS 3)), .int (nI (ES 3)), .int (nI (PS 3)), .int (nI (BS 3))])), (r3, .inl (cI, 40, .inl (fun j => nI ((G 3) j)))), (kc, .inr (1, [.ref kco, .ref ksp, .ref kbi, .ref kcs, .int (nI ((NS (sz - 1)))), .int (nI (sW (cM (PS (sz - 1)) (BS (sz - 1)) (G (sz - 1)) (NS (sz - 1)) (ES (sz - 1)))))])), (kco, .inr (2, [.ref kcr, .int (nI (sT (cM (PS (sz - 1)) (BS (sz - 1)) (G (sz - 1)) (NS (sz - 1)) (ES (sz - 1))))), .int (nI (sH (cM (PS (sz - 1)) (BS (sz - 1)) (G (sz - 1)) (NS (sz - 1)) (ES (sz - 1))))), .int (nI ((PS (sz - 1)))), .int (nI ((BS (sz - 1))))])), (kcr, .inl (cI, 9, .inl (fun j => nI ((sF (cM (PS (sz - 1)) (BS (sz - 1)) (G (sz - 1)) (NS (sz - 1)) (ES (sz - 1)))) j)))), (ksp, .inr (6, [.int (nI (sL (cM (PS (sz - 1)) (BS (sz - 1)) (G (sz - 1)) (NS (sz - 1)) (ES (sz - 1))))), .int (nI (sU (cM (PS (sz - 1)) (BS (sz - 1)) (G (sz - 1)) (NS (sz - 1)) (ES (sz - 1)))))])), (kbi, .inr (0, [.ref kbr, .int (nI ((sB (cM (PS (sz - 1)) (BS (sz - 1)) (G (sz - 1)) (NS (sz - 1)) (ES (sz - 1)))).length))])), (kbr, .inl (cI, 658, .inl (fun j => nI (kg2_1 j)))), (kcs, .inl (cI, 40, .inl (fun j => nI (kcf2_2 j))))]) [10, 11, 12, 0, 1, 2, 3, 4, 5, 6, 7, 8, 9, 13, 14, 15, 16, 17, 18, 19] rfl (by decide) ?_
    refine V_aload_n hC dX8_undo_28 rfl 0 rfl ?_
    refine V_get (ci := 8) (v := .ref hi) hC in_X8 0 rfl cls_X8 6 (by decide) fl_X8_50 rfl dX8_undo_29 ?_
    refine V_getN (ci := 3) (v := .int (nI (sz - 1))) hC in_X3 3 rfl cls_X3 1 (by decide) fn_X8_153 rfl dX8_undo_32 ?_
    subst hQ
    exact V_iret hC hr hlk rfl (by decide) (by decide) dX8_undo_35 ((kg2_1, kcf2_2)) [0, 1, 2, 3, 4, 5, 6, 7, 8, 9, 10, 11, 12, 13, 14, 15, 16, 17, 18, 19] rfl (by decide) (⟨rfl, h25⟩)
  · exact False.elim (by omega)
abbrev rm_X8_letter_neg : Room := { frames := 0, cells := 0, slots := 0, locals := 0 }
set_option maxHeartbeats 4000000 in
set_option maxRecDepth 100000 in
theorem c_X8_letter_neg (l : Launch) (D : va_G) (cI cQ : ClassId) (o me kc tc rd tx tb hi : Nat) (x : Int32) (hx : x.toInt < 0) : MI l yX8_letter cX8_letter 2 (some .int) rm_X8_letter_neg D (TY cI cQ) [.ref o, .int (x)] [(o, .inr (8, [.ref me, .ref kc, .ref tc, .ref rd, .ref tx, .ref tb, .ref hi]))] (fun (r9 : Int32) (u : Unit) => r9 = (-1) ∧ (True)) (fun (u : Unit) => [(o, .inr (8, [.ref me, .ref kc, .ref tc, .ref rd, .ref tx, .ref tb, .ref hi]))]) 0 0 := by
  refine MI.start (by decide) (Nat.le_of_ble_eq_true rfl) (lv0 := [(0, .ref o), (1, .int (x))]) rfl ?_
  intro pp9 ee9 ss9 mm9 args9 below9 meth9 co9 A9 Q9 hQ hC hr hlk hnm
  refine V_iload_n hC dX8_letter_0 rfl 1 rfl ?_
  refine V_if_ge_F (tgt := 6) hC dX8_letter_1 (by decide) (Int32.not_le.mpr (Int32.lt_iff_toInt_lt.mpr hx)) ?_
  refine V_iconst (v := -1) hC dX8_letter_4 (by decide) ?_
  subst hQ
  exact V_iret hC hr hlk rfl (by decide) (by decide) dX8_letter_5 (()) [0] rfl (by decide) (⟨rfl, trivial⟩)
abbrev rm_X8_letter_ok : Room := { frames := 1, cells := 0, slots := 0, locals := 21 }
set_option maxHeartbeats 4000000 in
set_option maxRecDepth 100000 in
theorem c_X8_letter_ok (l : Launch) (D : va_G) (cI cQ : ClassId) (o me kc tc rd tx tb hi ml n e p b i : Nat) (g : Nat → Nat) (hi9 : i < n) (hn : n ≤ 40) : MI l yX8_letter cX8_letter 2 (some .int) rm_X8_letter_ok D (TY cI cQ) [.ref o, .int (nI i)] [(o, .inr (8, [.ref me, .ref kc, .ref tc, .ref rd, .ref tx, .ref tb, .ref hi])), (me, .inr (4, [.ref ml, .int (nI n), .int (nI e), .int (nI p), .int (nI b)])), (ml, .inl (cI, 40, .inl (fun j => nI (g j))))] (fun (r9 : Int32) (u : Unit) => r9 = (nI (g i)) ∧ (True)) (fun (u : Unit) => [(o, .inr (8, [.ref me, .ref kc, .ref tc, .ref rd, .ref tx, .ref tb, .ref hi])), (me, .inr (4, [.ref ml, .int (nI n), .int (nI e), .int (nI p), .int (nI b)])), (ml, .inl (cI, 40, .inl (fun j => nI (g j))))]) 0 0 := by
  refine MI.start (by decide) (Nat.le_of_ble_eq_true rfl) (lv0 := [(0, .ref o), (1, .int (nI i))]) rfl ?_
  intro pp9 ee9 ss9 mm9 args9 below9 meth9 co9 A9 Q9 hQ hC hr hlk hnm
  refine V_iload_n hC dX8_letter_0 rfl 1 rfl ?_
  refine V_if_ge_T (tgt := 6) hC dX8_letter_1 (by decide) (nI_pos' (by omega)) ?_
  refine V_iload_n hC dX8_letter_6 rfl 1 rfl ?_
  refine V_aload_n hC dX8_letter_7 rfl 0 rfl ?_
  refine V_get (ci := 8) (v := .ref me) hC in_X8 0 rfl cls_X8 0 (by decide) fl_X8_12 rfl dX8_letter_8 ?_
  refine V_getN (ci := 4) (v := .int (nI n)) hC in_X4 1 rfl cls_X4 1 (by decide) fn_X8_62 rfl dX8_letter_11 ?_
  refine V_icmp_ge (tgt := 28) hC (by omega) (by omega) dX8_letter_14 (by decide) (fun c14 => ?_) (fun c14 => ?_)
  · exact False.elim (by omega)
  · refine V_aload_n hC dX8_letter_17 rfl 0 rfl ?_
    refine V_get (ci := 8) (v := .ref me) hC in_X8 0 rfl cls_X8 0 (by decide) fl_X8_12 rfl dX8_letter_18 ?_
    refine V_iload_n hC dX8_letter_21 rfl 1 rfl ?_
    refine V_calliV (As := [.int (nI i)]) (rest := []) (wr := [(o, .inr (8, [.ref me, .ref kc, .ref tc, .ref rd, .ref tx, .ref tb, .ref hi]))]) hC (c_X4_letterAt l D cI cQ me ml n e p b i g (by omega)) mok_X4_letterAt ml_X8_108 (q1 := 0) rfl cls_X4 rfl rfl rfl (by decide) (by decide) (by decide) (Nat.le_of_ble_eq_true rfl) [1, 2] [0] rfl (by decide) rfl (by decide) (by decide) dX8_letter_22 rfl (fun r9 u9 h22 => ?_)
    obtain ⟨rfl, h22⟩ := h22
    clear h22
    refine V_perm (ws2 := [(o, .inr (8, [.ref me, .ref kc, .ref tc, .ref rd, .ref tx, .ref tb, .ref hi])), (me, .inr (4, [.ref ml, .int (nI n), .int (nI e), .int (nI p), .int (nI b)])), (ml, .inl (cI, 40, .inl (fun j => nI (g j))))]) [0, 1, 2] rfl (by decide) ?_
    refine V_goto (tgt := 30) hC dX8_letter_25 (by decide) ?_
    subst hQ
    exact V_iret hC hr hlk rfl (by decide) (by decide) dX8_letter_30 (()) [0, 1, 2] rfl (by decide) (⟨rfl, trivial⟩)
abbrev rm_X8_letter_no : Room := { frames := 0, cells := 0, slots := 0, locals := 0 }
set_option maxHeartbeats 4000000 in
set_option maxRecDepth 100000 in
theorem c_X8_letter_no (l : Launch) (D : va_G) (cI cQ : ClassId) (o me kc tc rd tx tb hi ml n e p b i : Nat) (g : Nat → Nat) (hi9 : n ≤ i ∧ i < 2147483648) : MI l yX8_letter cX8_letter 2 (some .int) rm_X8_letter_no D (TY cI cQ) [.ref o, .int (nI i)] [(o, .inr (8, [.ref me, .ref kc, .ref tc, .ref rd, .ref tx, .ref tb, .ref hi])), (me, .inr (4, [.ref ml, .int (nI n), .int (nI e), .int (nI p), .int (nI b)])), (ml, .inl (cI, 40, .inl (fun j => nI (g j))))] (fun (r9 : Int32) (u : Unit) => r9 = (-4) ∧ (True)) (fun (u : Unit) => [(o, .inr (8, [.ref me, .ref kc, .ref tc, .ref rd, .ref tx, .ref tb, .ref hi])), (me, .inr (4, [.ref ml, .int (nI n), .int (nI e), .int (nI p), .int (nI b)])), (ml, .inl (cI, 40, .inl (fun j => nI (g j))))]) 0 0 := by
  refine MI.start (by decide) (Nat.le_of_ble_eq_true rfl) (lv0 := [(0, .ref o), (1, .int (nI i))]) rfl ?_
  intro pp9 ee9 ss9 mm9 args9 below9 meth9 co9 A9 Q9 hQ hC hr hlk hnm
  refine V_iload_n hC dX8_letter_0 rfl 1 rfl ?_
  refine V_if_ge_T (tgt := 6) hC dX8_letter_1 (by decide) (nI_pos' (by omega)) ?_
  refine V_iload_n hC dX8_letter_6 rfl 1 rfl ?_
  refine V_aload_n hC dX8_letter_7 rfl 0 rfl ?_
  refine V_get (ci := 8) (v := .ref me) hC in_X8 0 rfl cls_X8 0 (by decide) fl_X8_12 rfl dX8_letter_8 ?_
  refine V_getN (ci := 4) (v := .int (nI n)) hC in_X4 1 rfl cls_X4 1 (by decide) fn_X8_62 rfl dX8_letter_11 ?_
  refine V_icmp_ge (tgt := 28) hC (by omega) (by omega) dX8_letter_14 (by decide) (fun c14 => ?_) (fun c14 => ?_)
  · refine V_bipush (v := -4) hC dX8_letter_28 (by decide) ?_
    subst hQ
    exact V_iret hC hr hlk rfl (by decide) (by decide) dX8_letter_30 (()) [0, 1, 2] rfl (by decide) (⟨rfl, trivial⟩)
  · exact False.elim (by omega)
abbrev rm_X8_bit_neg : Room := { frames := 0, cells := 0, slots := 0, locals := 0 }
set_option maxHeartbeats 4000000 in
set_option maxRecDepth 100000 in
theorem c_X8_bit_neg (l : Launch) (D : va_G) (cI cQ : ClassId) (o me kc tc rd tx tb hi : Nat) (x : Int32) (hx : x.toInt < 0) : MI l yX8_bit cX8_bit 2 (some .int) rm_X8_bit_neg D (TY cI cQ) [.ref o, .int (x)] [(o, .inr (8, [.ref me, .ref kc, .ref tc, .ref rd, .ref tx, .ref tb, .ref hi]))] (fun (r9 : Int32) (u : Unit) => r9 = (-1) ∧ (True)) (fun (u : Unit) => [(o, .inr (8, [.ref me, .ref kc, .ref tc, .ref rd, .ref tx, .ref tb, .ref hi]))]) 0 0 := by
  refine MI.start (by decide) (Nat.le_of_ble_eq_true rfl) (lv0 := [(0, .ref o), (1, .int (x))]) rfl ?_
  intro pp9 ee9 ss9 mm9 args9 below9 meth9 co9 A9 Q9 hQ hC hr hlk hnm
  refine V_iload_n hC dX8_bit_0 rfl 1 rfl ?_
  refine V_if_ge_F (tgt := 6) hC dX8_bit_1 (by decide) (Int32.not_le.mpr (Int32.lt_iff_toInt_lt.mpr hx)) ?_
  refine V_iconst (v := -1) hC dX8_bit_4 (by decide) ?_
  subst hQ
  exact V_iret hC hr hlk rfl (by decide) (by decide) dX8_bit_5 (()) [0] rfl (by decide) (⟨rfl, trivial⟩)
abbrev rm_X8_bit_ok : Room := { frames := 1, cells := 0, slots := 0, locals := 21 }
set_option maxHeartbeats 4000000 in
set_option maxRecDepth 100000 in
theorem c_X8_bit_ok (l : Launch) (D : va_G) (cI cQ : ClassId) (o me kc tc rd tx tb hi kco kcr ksp kbi kbr kcs kz kw i : Nat) (kg : Nat → Nat) (bs : List Nat) (hi9 : i < bs.length) (hl : bs.length ≤ 658) (hr9 : rep kg bs) : MI l yX8_bit cX8_bit 2 (some .int) rm_X8_bit_ok D (TY cI cQ) [.ref o, .int (nI i)] [(o, .inr (8, [.ref me, .ref kc, .ref tc, .ref rd, .ref tx, .ref tb, .ref hi])), (kc, .inr (1, [.ref kco, .ref ksp, .ref kbi, .ref kcs, .int (nI kz), .int (nI kw)])), (kbi, .inr (0, [.ref kbr, .int (nI (bs.length))])), (kbr, .inl (cI, 658, .inl (fun j => nI (kg j))))] (fun (r9 : Int32) (u : Unit) => r9 = (nI (bs.getD i 0)) ∧ (True)) (fun (u : Unit) => [(o, .inr (8, [.ref me, .ref kc, .ref tc, .ref rd, .ref tx, .ref tb, .ref hi])), (kc, .inr (1, [.ref kco, .ref ksp, .ref kbi, .ref kcs, .int (nI kz), .int (nI kw)])), (kbi, .inr (0, [.ref kbr, .int (nI (bs.length))])), (kbr, .inl (cI, 658, .inl (fun j => nI (kg j))))]) 0 0 := by
  refine MI.start (by decide) (Nat.le_of_ble_eq_true rfl) (lv0 := [(0, .ref o), (1, .int (nI i))]) rfl ?_
  intro pp9 ee9 ss9 mm9 args9 below9 meth9 co9 A9 Q9 hQ hC hr hlk hnm
  refine V_iload_n hC dX8_bit_0 rfl 1 rfl ?_
  refine V_if_ge_T (tgt := 6) hC dX8_bit_1 (by decide) (nI_pos' (by omega)) ?_
  refine V_iload_n hC dX8_bit_6 rfl 1 rfl ?_
  refine V_aload_n hC dX8_bit_7 rfl 0 rfl ?_
  refine V_get (ci := 8) (v := .ref kc) hC in_X8 0 rfl cls_X8 1 (by decide) fl_X8_19 rfl dX8_bit_8 ?_
  refine V_getN (ci := 1) (v := .ref kbi) hC in_X1 1 rfl cls_X1 2 (by decide) fn_X8_81 rfl dX8_bit_11 ?_
  refine V_getN (ci := 0) (v := .int (nI (bs.length))) hC in_X0 2 rfl cls_X0 1 (by decide) fn_X8_84 rfl dX8_bit_14 ?_
  refine V_icmp_ge (tgt := 34) hC (by omega) (by omega) dX8_bit_17 (by decide) (fun c17 => ?_) (fun c17 => ?_)
  · exact False.elim (by omega)
  · refine V_aload_n hC dX8_bit_20 rfl 0 rfl ?_
    refine V_get (ci := 8) (v := .ref kc) hC in_X8 0 rfl cls_X8 1 (by decide) fl_X8_19 rfl dX8_bit_21 ?_
    refine V_getN (ci := 1) (v := .ref kbi) hC in_X1 1 rfl cls_X1 2 (by decide) fn_X8_81 rfl dX8_bit_24 ?_
    refine V_iload_n hC dX8_bit_27 rfl 1 rfl ?_
    refine V_calliV (As := [.int (nI i)]) (rest := []) (wr := [(o, .inr (8, [.ref me, .ref kc, .ref tc, .ref rd, .ref tx, .ref tb, .ref hi])), (kc, .inr (1, [.ref kco, .ref ksp, .ref kbi, .ref kcs, .int (nI kz), .int (nI kw)]))]) hC (c_X0_bitAt l D cI cQ kbi kbr bs.length i kg (by omega) (by omega)) mok_X0_bitAt ml_X8_111 (q1 := 0) rfl cls_X0 rfl rfl rfl (by decide) (by decide) (by decide) (Nat.le_of_ble_eq_true rfl) [2, 3] [0, 1] rfl (by decide) rfl (by decide) (by decide) dX8_bit_28 rfl (fun r9 u9 h28 => ?_)
    obtain ⟨rfl, h28⟩ := h28
    clear h28
    refine V_perm (ws2 := [(o, .inr (8, [.ref me, .ref kc, .ref tc, .ref rd, .ref tx, .ref tb, .ref hi])), (kc, .inr (1, [.ref kco, .ref ksp, .ref kbi, .ref kcs, .int (nI kz), .int (nI kw)])), (kbi, .inr (0, [.ref kbr, .int (nI (bs.length))])), (kbr, .inl (cI, 658, .inl (fun j => nI (kg j))))]) [0, 1, 2, 3] rfl (by decide) ?_
    refine V_st (st2 := [.int (nI (bs.getD i 0))]) (by rw [show (if i < bs.length then kg i else 0) = (bs.getD i 0) from (by rw [if_pos hi9]; exact hr9 i hi9)]) ?_
    refine V_goto (tgt := 36) hC dX8_bit_31 (by decide) ?_
    subst hQ
    exact V_iret hC hr hlk rfl (by decide) (by decide) dX8_bit_36 (()) [0, 1, 2, 3] rfl (by decide) (⟨rfl, trivial⟩)
abbrev rm_X8_bit_no : Room := { frames := 0, cells := 0, slots := 0, locals := 0 }
set_option maxHeartbeats 4000000 in
set_option maxRecDepth 100000 in
theorem c_X8_bit_no (l : Launch) (D : va_G) (cI cQ : ClassId) (o me kc tc rd tx tb hi kco kcr ksp kbi kbr kcs kz kw i : Nat) (kg : Nat → Nat) (bs : List Nat) (hi9 : bs.length ≤ i ∧ i < 2147483648) : MI l yX8_bit cX8_bit 2 (some .int) rm_X8_bit_no D (TY cI cQ) [.ref o, .int (nI i)] [(o, .inr (8, [.ref me, .ref kc, .ref tc, .ref rd, .ref tx, .ref tb, .ref hi])), (kc, .inr (1, [.ref kco, .ref ksp, .ref kbi, .ref kcs, .int (nI kz), .int (nI kw)])), (kbi, .inr (0, [.ref kbr, .int (nI (bs.length))])), (kbr, .inl (cI, 658, .inl (fun j => nI (kg j))))] (fun (r9 : Int32) (u : Unit) => r9 = (-4) ∧ (True)) (fun (u : Unit) => [(o, .inr (8, [.ref me, .ref kc, .ref tc, .ref rd, .ref tx, .ref tb, .ref hi])), (kc, .inr (1, [.ref kco, .ref ksp, .ref kbi, .ref kcs, .int (nI kz), .int (nI kw)])), (kbi, .inr (0, [.ref kbr, .int (nI (bs.length))])), (kbr, .inl (cI, 658, .inl (fun j => nI (kg j))))]) 0 0 := by
  refine MI.start (by decide) (Nat.le_of_ble_eq_true rfl) (lv0 := [(0, .ref o), (1, .int (nI i))]) rfl ?_
  intro pp9 ee9 ss9 mm9 args9 below9 meth9 co9 A9 Q9 hQ hC hr hlk hnm
  refine V_iload_n hC dX8_bit_0 rfl 1 rfl ?_
  refine V_if_ge_T (tgt := 6) hC dX8_bit_1 (by decide) (nI_pos' (by omega)) ?_
  refine V_iload_n hC dX8_bit_6 rfl 1 rfl ?_
  refine V_aload_n hC dX8_bit_7 rfl 0 rfl ?_
  refine V_get (ci := 8) (v := .ref kc) hC in_X8 0 rfl cls_X8 1 (by decide) fl_X8_19 rfl dX8_bit_8 ?_
  refine V_getN (ci := 1) (v := .ref kbi) hC in_X1 1 rfl cls_X1 2 (by decide) fn_X8_81 rfl dX8_bit_11 ?_
  refine V_getN (ci := 0) (v := .int (nI (bs.length))) hC in_X0 2 rfl cls_X0 1 (by decide) fn_X8_84 rfl dX8_bit_14 ?_
  refine V_icmp_ge (tgt := 34) hC (by omega) (by omega) dX8_bit_17 (by decide) (fun c17 => ?_) (fun c17 => ?_)
  · refine V_bipush (v := -4) hC dX8_bit_34 (by decide) ?_
    subst hQ
    exact V_iret hC hr hlk rfl (by decide) (by decide) dX8_bit_36 (()) [0, 1, 2, 3] rfl (by decide) (⟨rfl, trivial⟩)
  · exact False.elim (by omega)
abbrev rm_X8_letterOf_kneg : Room := { frames := 0, cells := 0, slots := 0, locals := 0 }
set_option maxHeartbeats 4000000 in
set_option maxRecDepth 100000 in
theorem c_X8_letterOf_kneg (l : Launch) (D : va_G) (cI cQ : ClassId) (o me kc tc rd tx tb hi : Nat) (k x : Int32) (hk : k.toInt < 0) : MI l yX8_letterOf cX8_letterOf 3 (some .int) rm_X8_letterOf_kneg D (TY cI cQ) [.ref o, .int (k), .int (x)] [(o, .inr (8, [.ref me, .ref kc, .ref tc, .ref rd, .ref tx, .ref tb, .ref hi]))] (fun (r9 : Int32) (u : Unit) => r9 = (-1) ∧ (True)) (fun (u : Unit) => [(o, .inr (8, [.ref me, .ref kc, .ref tc, .ref rd, .ref tx, .ref tb, .ref hi]))]) 0 0 := by
  refine MI.start (by decide) (Nat.le_of_ble_eq_true rfl) (lv0 := [(0, .ref o), (1, .int (k)), (2, .int (x))]) rfl ?_
  intro pp9 ee9 ss9 mm9 args9 below9 meth9 co9 A9 Q9 hQ hC hr hlk hnm
  refine V_iload_n hC dX8_letterOf_0 rfl 1 rfl ?_
  refine V_if_lt_T (tgt := 19) hC dX8_letterOf_1 (by decide) (Int32.lt_iff_toInt_lt.mpr hk) ?_
  refine V_iconst (v := -1) hC dX8_letterOf_19 (by decide) ?_
  subst hQ
  exact V_iret hC hr hlk rfl (by decide) (by decide) dX8_letterOf_20 (()) [0] rfl (by decide) (⟨rfl, trivial⟩)
abbrev rm_X8_letterOf_xneg : Room := { frames := 0, cells := 0, slots := 0, locals := 0 }
set_option maxHeartbeats 4000000 in
set_option maxRecDepth 100000 in
theorem c_X8_letterOf_xneg (l : Launch) (D : va_G) (cI cQ : ClassId) (o me kc tc rd tx tb hi k : Nat) (x : Int32) (hk : k < 2147483648) (hx : x.toInt < 0) : MI l yX8_letterOf cX8_letterOf 3 (some .int) rm_X8_letterOf_xneg D (TY cI cQ) [.ref o, .int (nI k), .int (x)] [(o, .inr (8, [.ref me, .ref kc, .ref tc, .ref rd, .ref tx, .ref tb, .ref hi]))] (fun (r9 : Int32) (u : Unit) => r9 = (-1) ∧ (True)) (fun (u : Unit) => [(o, .inr (8, [.ref me, .ref kc, .ref tc, .ref rd, .ref tx, .ref tb, .ref hi]))]) 0 0 := by
  refine MI.start (by decide) (Nat.le_of_ble_eq_true rfl) (lv0 := [(0, .ref o), (1, .int (nI k)), (2, .int (x))]) rfl ?_
  intro pp9 ee9 ss9 mm9 args9 below9 meth9 co9 A9 Q9 hQ hC hr hlk hnm
  refine V_iload_n hC dX8_letterOf_0 rfl 1 rfl ?_
  refine V_if_lt_F (tgt := 19) hC dX8_letterOf_1 (by decide) (nI_pos (by omega)) ?_
  refine V_iload_n hC dX8_letterOf_4 rfl 1 rfl ?_
  refine V_bipush (v := nI 8) hC dX8_letterOf_5 (by decide) ?_
  refine V_icmp_gt (tgt := 19) hC (by omega) (by omega) dX8_letterOf_7 (by decide) (fun c7 => ?_) (fun c7 => ?_)
  · refine V_iconst (v := -1) hC dX8_letterOf_19 (by decide) ?_
    subst hQ
    exact V_iret hC hr hlk rfl (by decide) (by decide) dX8_letterOf_20 (()) [0] rfl (by decide) (⟨rfl, trivial⟩)
  · refine V_iload_n hC dX8_letterOf_10 rfl 2 rfl ?_
    refine V_if_lt_T (tgt := 19) hC dX8_letterOf_11 (by decide) (Int32.lt_iff_toInt_lt.mpr hx) ?_
    refine V_iconst (v := -1) hC dX8_letterOf_19 (by decide) ?_
    subst hQ
    exact V_iret hC hr hlk rfl (by decide) (by decide) dX8_letterOf_20 (()) [0] rfl (by decide) (⟨rfl, trivial⟩)
abbrev rm_X8_letterOf_bad : Room := { frames := 0, cells := 0, slots := 0, locals := 0 }
set_option maxHeartbeats 4000000 in
set_option maxRecDepth 100000 in
theorem c_X8_letterOf_bad (l : Launch) (D : va_G) (cI cQ : ClassId) (o me kc tc rd tx tb hi k x : Nat) (hk : k < 2147483648) (hx : x < 2147483648 ∧ (8 < k ∨ 3 < x)) : MI l yX8_letterOf cX8_letterOf 3 (some .int) rm_X8_letterOf_bad D (TY cI cQ) [.ref o, .int (nI k), .int (nI x)] [(o, .inr (8, [.ref me, .ref kc, .ref tc, .ref rd, .ref tx, .ref tb, .ref hi]))] (fun (r9 : Int32) (u : Unit) => r9 = (-1) ∧ (True)) (fun (u : Unit) => [(o, .inr (8, [.ref me, .ref kc, .ref tc, .ref rd, .ref tx, .ref tb, .ref hi]))]) 0 0 := by
  refine MI.start (by decide) (Nat.le_of_ble_eq_true rfl) (lv0 := [(0, .ref o), (1, .int (nI k)), (2, .int (nI x))]) rfl ?_
  intro pp9 ee9 ss9 mm9 args9 below9 meth9 co9 A9 Q9 hQ hC hr hlk hnm
  refine V_iload_n hC dX8_letterOf_0 rfl 1 rfl ?_
  refine V_if_lt_F (tgt := 19) hC dX8_letterOf_1 (by decide) (nI_pos (by omega)) ?_
  refine V_iload_n hC dX8_letterOf_4 rfl 1 rfl ?_
  refine V_bipush (v := nI 8) hC dX8_letterOf_5 (by decide) ?_
  refine V_icmp_gt (tgt := 19) hC (by omega) (by omega) dX8_letterOf_7 (by decide) (fun c7 => ?_) (fun c7 => ?_)
  · refine V_iconst (v := -1) hC dX8_letterOf_19 (by decide) ?_
    subst hQ
    exact V_iret hC hr hlk rfl (by decide) (by decide) dX8_letterOf_20 (()) [0] rfl (by decide) (⟨rfl, trivial⟩)
  · refine V_iload_n hC dX8_letterOf_10 rfl 2 rfl ?_
    refine V_if_lt_F (tgt := 19) hC dX8_letterOf_11 (by decide) (nI_pos (by omega)) ?_
    refine V_iload_n hC dX8_letterOf_14 rfl 2 rfl ?_
    refine V_iconst (v := nI 3) hC dX8_letterOf_15 (by decide) ?_
    refine V_icmp_le (tgt := 21) hC (by omega) (by omega) dX8_letterOf_16 (by decide) (fun c16 => ?_) (fun c16 => ?_)
    · exact False.elim (by omega)
    · refine V_iconst (v := -1) hC dX8_letterOf_19 (by decide) ?_
      subst hQ
      exact V_iret hC hr hlk rfl (by decide) (by decide) dX8_letterOf_20 (()) [0] rfl (by decide) (⟨rfl, trivial⟩)
abbrev rm_X8_letterOf_0 : Room := { frames := 1, cells := 0, slots := 0, locals := 21 }
set_option maxHeartbeats 4000000 in
set_option maxRecDepth 100000 in
theorem c_X8_letterOf_0 (l : Launch) (D : va_G) (cI cQ : ClassId) (o me kc tc rd tx tb hi kco kcr ksp kbi kbr kcs kz kw kT kH kp kb k : Nat) (kF : Nat → Nat) (hk : k ≤ 8) : MI l yX8_letterOf cX8_letterOf 3 (some .int) rm_X8_letterOf_0 D (TY cI cQ) [.ref o, .int (nI k), .int (nI 0)] [(o, .inr (8, [.ref me, .ref kc, .ref tc, .ref rd, .ref tx, .ref tb, .ref hi])), (kc, .inr (1, [.ref kco, .ref ksp, .ref kbi, .ref kcs, .int (nI kz), .int (nI kw)])), (kco, .inr (2, [.ref kcr, .int (nI kT), .int (nI kH), .int (nI kp), .int (nI kb)])), (kcr, .inl (cI, 9, .inl (fun j => nI (kF j))))] (fun (r9 : Int32) (u : Unit) => r9 = (nI (kF k)) ∧ (True)) (fun (u : Unit) => [(o, .inr (8, [.ref me, .ref kc, .ref tc, .ref rd, .ref tx, .ref tb, .ref hi])), (kc, .inr (1, [.ref kco, .ref ksp, .ref kbi, .ref kcs, .int (nI kz), .int (nI kw)])), (kco, .inr (2, [.ref kcr, .int (nI kT), .int (nI kH), .int (nI kp), .int (nI kb)])), (kcr, .inl (cI, 9, .inl (fun j => nI (kF j))))]) 0 0 := by
  refine MI.start (by decide) (Nat.le_of_ble_eq_true rfl) (lv0 := [(0, .ref o), (1, .int (nI k)), (2, .int (nI 0))]) rfl ?_
  intro pp9 ee9 ss9 mm9 args9 below9 meth9 co9 A9 Q9 hQ hC hr hlk hnm
  refine V_iload_n hC dX8_letterOf_0 rfl 1 rfl ?_
  refine V_if_lt_F (tgt := 19) hC dX8_letterOf_1 (by decide) (nI_pos (by omega)) ?_
  refine V_iload_n hC dX8_letterOf_4 rfl 1 rfl ?_
  refine V_bipush (v := nI 8) hC dX8_letterOf_5 (by decide) ?_
  refine V_icmp_gt (tgt := 19) hC (by omega) (by omega) dX8_letterOf_7 (by decide) (fun c7 => ?_) (fun c7 => ?_)
  · exact False.elim (by omega)
  · refine V_iload_n hC dX8_letterOf_10 rfl 2 rfl ?_
    refine V_if_lt_F (tgt := 19) hC dX8_letterOf_11 (by decide) (nI_pos (by omega)) ?_
    refine V_iload_n hC dX8_letterOf_14 rfl 2 rfl ?_
    refine V_iconst (v := nI 3) hC dX8_letterOf_15 (by decide) ?_
    refine V_icmp_le_T (tgt := 21) hC dX8_letterOf_16 (by decide) (nI_le (by omega) (by omega)) ?_
    refine V_iload_n hC dX8_letterOf_21 rfl 2 rfl ?_
    refine V_if_ne_F (tgt := 37) hC dX8_letterOf_22 (by decide) ((congrArg nI (show 0 = 0 by omega)).trans nI_0) ?_
    refine V_aload_n hC dX8_letterOf_25 rfl 0 rfl ?_
    refine V_get (ci := 8) (v := .ref kc) hC in_X8 0 rfl cls_X8 1 (by decide) fl_X8_19 rfl dX8_letterOf_26 ?_
    refine V_getN (ci := 1) (v := .ref kco) hC in_X1 1 rfl cls_X1 0 (by decide) fn_X8_114 rfl dX8_letterOf_29 ?_
    refine V_iload_n hC dX8_letterOf_32 rfl 1 rfl ?_
    refine V_calliV (As := [.int (nI k)]) (rest := []) (wr := [(o, .inr (8, [.ref me, .ref kc, .ref tc, .ref rd, .ref tx, .ref tb, .ref hi])), (kc, .inr (1, [.ref kco, .ref ksp, .ref kbi, .ref kcs, .int (nI kz), .int (nI kw)]))]) hC (c_X2_countAt l D cI cQ kco kcr kT kH kp kb k kF (by omega)) mok_X2_countAt ml_X8_118 (q1 := 0) rfl cls_X2 rfl rfl rfl (by decide) (by decide) (by decide) (Nat.le_of_ble_eq_true rfl) [2, 3] [0, 1] rfl (by decide) rfl (by decide) (by decide) dX8_letterOf_33 rfl (fun r9 u9 h33 => ?_)
    obtain ⟨rfl, h33⟩ := h33
    clear h33
    refine V_perm (ws2 := [(o, .inr (8, [.ref me, .ref kc, .ref tc, .ref rd, .ref tx, .ref tb, .ref hi])), (kc, .inr (1, [.ref kco, .ref ksp, .ref kbi, .ref kcs, .int (nI kz), .int (nI kw)])), (kco, .inr (2, [.ref kcr, .int (nI kT), .int (nI kH), .int (nI kp), .int (nI kb)])), (kcr, .inl (cI, 9, .inl (fun j => nI (kF j))))]) [0, 1, 2, 3] rfl (by decide) ?_
    subst hQ
    exact V_iret hC hr hlk rfl (by decide) (by decide) dX8_letterOf_36 (()) [0, 1, 2, 3] rfl (by decide) (⟨rfl, trivial⟩)
abbrev rm_X8_letterOf_1 : Room := { frames := 1, cells := 0, slots := 0, locals := 23 }
set_option maxHeartbeats 4000000 in
set_option maxRecDepth 100000 in
theorem c_X8_letterOf_1 (l : Launch) (D : va_G) (cI cQ : ClassId) (o me kc tc rd tx tb hi kco kcr ksp kbi kbr kcs kz kw kT kH kp kb k : Nat) (kF : Nat → Nat) (hk : k ≤ 8) : MI l yX8_letterOf cX8_letterOf 3 (some .int) rm_X8_letterOf_1 D (TY cI cQ) [.ref o, .int (nI k), .int (nI 1)] [(o, .inr (8, [.ref me, .ref kc, .ref tc, .ref rd, .ref tx, .ref tb, .ref hi])), (kc, .inr (1, [.ref kco, .ref ksp, .ref kbi, .ref kcs, .int (nI kz), .int (nI kw)])), (kco, .inr (2, [.ref kcr, .int (nI kT), .int (nI kH), .int (nI kp), .int (nI kb)])), (kcr, .inl (cI, 9, .inl (fun j => nI (kF j))))] (fun (r9 : Int32) (u : Unit) => r9 = (nI (cB kF k)) ∧ (True)) (fun (u : Unit) => [(o, .inr (8, [.ref me, .ref kc, .ref tc, .ref rd, .ref tx, .ref tb, .ref hi])), (kc, .inr (1, [.ref kco, .ref ksp, .ref kbi, .ref kcs, .int (nI kz), .int (nI kw)])), (kco, .inr (2, [.ref kcr, .int (nI kT), .int (nI kH), .int (nI kp), .int (nI kb)])), (kcr, .inl (cI, 9, .inl (fun j => nI (kF j))))]) 0 0 := by
  refine MI.start (by decide) (Nat.le_of_ble_eq_true rfl) (lv0 := [(0, .ref o), (1, .int (nI k)), (2, .int (nI 1))]) rfl ?_
  intro pp9 ee9 ss9 mm9 args9 below9 meth9 co9 A9 Q9 hQ hC hr hlk hnm
  refine V_iload_n hC dX8_letterOf_0 rfl 1 rfl ?_
  refine V_if_lt_F (tgt := 19) hC dX8_letterOf_1 (by decide) (nI_pos (by omega)) ?_
  refine V_iload_n hC dX8_letterOf_4 rfl 1 rfl ?_
  refine V_bipush (v := nI 8) hC dX8_letterOf_5 (by decide) ?_
  refine V_icmp_gt (tgt := 19) hC (by omega) (by omega) dX8_letterOf_7 (by decide) (fun c7 => ?_) (fun c7 => ?_)
  · exact False.elim (by omega)
  · refine V_iload_n hC dX8_letterOf_10 rfl 2 rfl ?_
    refine V_if_lt_F (tgt := 19) hC dX8_letterOf_11 (by decide) (nI_pos (by omega)) ?_
    refine V_iload_n hC dX8_letterOf_14 rfl 2 rfl ?_
    refine V_iconst (v := nI 3) hC dX8_letterOf_15 (by decide) ?_
    refine V_icmp_le_T (tgt := 21) hC dX8_letterOf_16 (by decide) (nI_le (by omega) (by omega)) ?_
    refine V_iload_n hC dX8_letterOf_21 rfl 2 rfl ?_
    refine V_if_ne_T (tgt := 37) hC dX8_letterOf_22 (by decide) (nI_ne0 (by omega) (by omega)) ?_
    refine V_iload_n hC dX8_letterOf_37 rfl 2 rfl ?_
    refine V_iconst (v := nI 1) hC dX8_letterOf_38 (by decide) ?_
    refine V_icmp_ne_F (tgt := 54) hC dX8_letterOf_39 (by decide) (congrArg nI (show 1 = 1 by omega)) ?_
    refine V_aload_n hC dX8_letterOf_42 rfl 0 rfl ?_
    refine V_get (ci := 8) (v := .ref kc) hC in_X8 0 rfl cls_X8 1 (by decide) fl_X8_19 rfl dX8_letterOf_43 ?_
    refine V_getN (ci := 1) (v := .ref kco) hC in_X1 1 rfl cls_X1 0 (by decide) fn_X8_114 rfl dX8_letterOf_46 ?_
    refine V_iload_n hC dX8_letterOf_49 rfl 1 rfl ?_
    refine V_calliV (As := [.int (nI k)]) (rest := []) (wr := [(o, .inr (8, [.ref me, .ref kc, .ref tc, .ref rd, .ref tx, .ref tb, .ref hi])), (kc, .inr (1, [.ref kco, .ref ksp, .ref kbi, .ref kcs, .int (nI kz), .int (nI kw)]))]) hC (c_X2_below l D cI cQ kco kcr kT kH kp kb k kF (by omega)) mok_X2_below ml_X8_123 (q1 := 0) rfl cls_X2 rfl rfl rfl (by decide) (by decide) (by decide) (Nat.le_of_ble_eq_true rfl) [2, 3] [0, 1] rfl (by decide) rfl (by decide) (by decide) dX8_letterOf_50 rfl (fun r9 u9 h50 => ?_)
    obtain ⟨rfl, h50⟩ := h50
    clear h50
    refine V_perm (ws2 := [(o, .inr (8, [.ref me, .ref kc, .ref tc, .ref rd, .ref tx, .ref tb, .ref hi])), (kc, .inr (1, [.ref kco, .ref ksp, .ref kbi, .ref kcs, .int (nI kz), .int (nI kw)])), (kco, .inr (2, [.ref kcr, .int (nI kT), .int (nI kH), .int (nI kp), .int (nI kb)])), (kcr, .inl (cI, 9, .inl (fun j => nI (kF j))))]) [0, 1, 2, 3] rfl (by decide) ?_
    subst hQ
    exact V_iret hC hr hlk rfl (by decide) (by decide) dX8_letterOf_53 (()) [0, 1, 2, 3] rfl (by decide) (⟨rfl, trivial⟩)
abbrev rm_X8_letterOf_2 : Room := { frames := 2, cells := 0, slots := 0, locals := 44 }
set_option maxHeartbeats 4000000 in
set_option maxRecDepth 100000 in
theorem c_X8_letterOf_2 (l : Launch) (D : va_G) (cI cQ : ClassId) (o me kc tc rd tx tb hi ml n e p b k : Nat) (g : Nat → Nat) (hk : k ≤ 8) (hn : n ≤ 40) (hg : ∀ j, j < n → g j < 8) : MI l yX8_letterOf cX8_letterOf 3 (some .int) rm_X8_letterOf_2 D (TY cI cQ) [.ref o, .int (nI k), .int (nI 2)] [(o, .inr (8, [.ref me, .ref kc, .ref tc, .ref rd, .ref tx, .ref tb, .ref hi])), (me, .inr (4, [.ref ml, .int (nI n), .int (nI e), .int (nI p), .int (nI b)])), (ml, .inl (cI, 40, .inl (fun j => nI (g j))))] (fun (r9 : Int32) (u : Unit) => r9 = (nI (hO g k n)) ∧ (True)) (fun (u : Unit) => [(o, .inr (8, [.ref me, .ref kc, .ref tc, .ref rd, .ref tx, .ref tb, .ref hi])), (me, .inr (4, [.ref ml, .int (nI n), .int (nI e), .int (nI p), .int (nI b)])), (ml, .inl (cI, 40, .inl (fun j => nI (g j))))]) 0 0 := by
  refine MI.start (by decide) (Nat.le_of_ble_eq_true rfl) (lv0 := [(0, .ref o), (1, .int (nI k)), (2, .int (nI 2))]) rfl ?_
  intro pp9 ee9 ss9 mm9 args9 below9 meth9 co9 A9 Q9 hQ hC hr hlk hnm
  refine V_iload_n hC dX8_letterOf_0 rfl 1 rfl ?_
  refine V_if_lt_F (tgt := 19) hC dX8_letterOf_1 (by decide) (nI_pos (by omega)) ?_
  refine V_iload_n hC dX8_letterOf_4 rfl 1 rfl ?_
  refine V_bipush (v := nI 8) hC dX8_letterOf_5 (by decide) ?_
  refine V_icmp_gt (tgt := 19) hC (by omega) (by omega) dX8_letterOf_7 (by decide) (fun c7 => ?_) (fun c7 => ?_)
  · exact False.elim (by omega)
  · refine V_iload_n hC dX8_letterOf_10 rfl 2 rfl ?_
    refine V_if_lt_F (tgt := 19) hC dX8_letterOf_11 (by decide) (nI_pos (by omega)) ?_
    refine V_iload_n hC dX8_letterOf_14 rfl 2 rfl ?_
    refine V_iconst (v := nI 3) hC dX8_letterOf_15 (by decide) ?_
    refine V_icmp_le_T (tgt := 21) hC dX8_letterOf_16 (by decide) (nI_le (by omega) (by omega)) ?_
    refine V_iload_n hC dX8_letterOf_21 rfl 2 rfl ?_
    refine V_if_ne_T (tgt := 37) hC dX8_letterOf_22 (by decide) (nI_ne0 (by omega) (by omega)) ?_
    refine V_iload_n hC dX8_letterOf_37 rfl 2 rfl ?_
    refine V_iconst (v := nI 1) hC dX8_letterOf_38 (by decide) ?_
    refine V_icmp_ne_T (tgt := 54) hC dX8_letterOf_39 (by decide) (fun z => absurd ((nI_eq (by omega) (by omega)).mp z) (show ¬ 2 = 1 by omega)) ?_
    refine V_iload_n hC dX8_letterOf_54 rfl 2 rfl ?_
    refine V_iconst (v := nI 2) hC dX8_letterOf_55 (by decide) ?_
    refine V_icmp_ne_F (tgt := 68) hC dX8_letterOf_56 (by decide) (congrArg nI (show 2 = 2 by omega)) ?_
    refine V_aload_n hC dX8_letterOf_59 rfl 0 rfl ?_
    refine V_get (ci := 8) (v := .ref me) hC in_X8 0 rfl cls_X8 0 (by decide) fl_X8_12 rfl dX8_letterOf_60 ?_
    refine V_iload_n hC dX8_letterOf_63 rfl 1 rfl ?_
    refine V_calliV (As := [.int (nI k)]) (rest := []) (wr := [(o, .inr (8, [.ref me, .ref kc, .ref tc, .ref rd, .ref tx, .ref tb, .ref hi]))]) hC (c_X4_howOften l D cI cQ me ml n e p b k g (by omega) (by omega) (fun j hj => by have := hg j hj; omega)) mok_X4_howOften ml_X8_126 (q1 := 0) rfl cls_X4 rfl rfl rfl (by decide) (by decide) (by decide) (Nat.le_of_ble_eq_true rfl) [1, 2] [0] rfl (by decide) rfl (by decide) (by decide) dX8_letterOf_64 rfl (fun r9 u9 h64 => ?_)
    obtain ⟨rfl, h64⟩ := h64
    clear h64
    refine V_perm (ws2 := [(o, .inr (8, [.ref me, .ref kc, .ref tc, .ref rd, .ref tx, .ref tb, .ref hi])), (me, .inr (4, [.ref ml, .int (nI n), .int (nI e), .int (nI p), .int (nI b)])), (ml, .inl (cI, 40, .inl (fun j => nI (g j))))]) [0, 1, 2] rfl (by decide) ?_
    subst hQ
    exact V_iret hC hr hlk rfl (by decide) (by decide) dX8_letterOf_67 (()) [0, 1, 2] rfl (by decide) (⟨rfl, trivial⟩)
abbrev rm_X8_letterOf_3e : Room := { frames := 0, cells := 0, slots := 0, locals := 0 }
set_option maxHeartbeats 4000000 in
set_option maxRecDepth 100000 in
theorem c_X8_letterOf_3e (l : Launch) (D : va_G) (cI cQ : ClassId) (o me kc tc rd tx tb hi ml n e p b k : Nat) (g : Nat → Nat) (hk : k ≤ 8) (he : e = 1) : MI l yX8_letterOf cX8_letterOf 3 (some .int) rm_X8_letterOf_3e D (TY cI cQ) [.ref o, .int (nI k), .int (nI 3)] [(o, .inr (8, [.ref me, .ref kc, .ref tc, .ref rd, .ref tx, .ref tb, .ref hi])), (me, .inr (4, [.ref ml, .int (nI n), .int (nI e), .int (nI p), .int (nI b)])), (ml, .inl (cI, 40, .inl (fun j => nI (g j))))] (fun (r9 : Int32) (u : Unit) => r9 = (-2) ∧ (True)) (fun (u : Unit) => [(o, .inr (8, [.ref me, .ref kc, .ref tc, .ref rd, .ref tx, .ref tb, .ref hi])), (me, .inr (4, [.ref ml, .int (nI n), .int (nI e), .int (nI p), .int (nI b)])), (ml, .inl (cI, 40, .inl (fun j => nI (g j))))]) 0 0 := by
  refine MI.start (by decide) (Nat.le_of_ble_eq_true rfl) (lv0 := [(0, .ref o), (1, .int (nI k)), (2, .int (nI 3))]) rfl ?_
  intro pp9 ee9 ss9 mm9 args9 below9 meth9 co9 A9 Q9 hQ hC hr hlk hnm
  refine V_iload_n hC dX8_letterOf_0 rfl 1 rfl ?_
  refine V_if_lt_F (tgt := 19) hC dX8_letterOf_1 (by decide) (nI_pos (by omega)) ?_
  refine V_iload_n hC dX8_letterOf_4 rfl 1 rfl ?_
  refine V_bipush (v := nI 8) hC dX8_letterOf_5 (by decide) ?_
  refine V_icmp_gt (tgt := 19) hC (by omega) (by omega) dX8_letterOf_7 (by decide) (fun c7 => ?_) (fun c7 => ?_)
  · exact False.elim (by omega)
  · refine V_iload_n hC dX8_letterOf_10 rfl 2 rfl ?_
    refine V_if_lt_F (tgt := 19) hC dX8_letterOf_11 (by decide) (nI_pos (by omega)) ?_
    refine V_iload_n hC dX8_letterOf_14 rfl 2 rfl ?_
    refine V_iconst (v := nI 3) hC dX8_letterOf_15 (by decide) ?_
    refine V_icmp_le_T (tgt := 21) hC dX8_letterOf_16 (by decide) (nI_le (by omega) (by omega)) ?_
    refine V_iload_n hC dX8_letterOf_21 rfl 2 rfl ?_
    refine V_if_ne_T (tgt := 37) hC dX8_letterOf_22 (by decide) (nI_ne0 (by omega) (by omega)) ?_
    refine V_iload_n hC dX8_letterOf_37 rfl 2 rfl ?_
    refine V_iconst (v := nI 1) hC dX8_letterOf_38 (by decide) ?_
    refine V_icmp_ne_T (tgt := 54) hC dX8_letterOf_39 (by decide) (fun z => absurd ((nI_eq (by omega) (by omega)).mp z) (show ¬ 3 = 1 by omega)) ?_
    refine V_iload_n hC dX8_letterOf_54 rfl 2 rfl ?_
    refine V_iconst (v := nI 2) hC dX8_letterOf_55 (by decide) ?_
    refine V_icmp_ne_T (tgt := 68) hC dX8_letterOf_56 (by decide) (fun z => absurd ((nI_eq (by omega) (by omega)).mp z) (show ¬ 3 = 2 by omega)) ?_
    refine V_aload_n hC dX8_letterOf_68 rfl 0 rfl ?_
    refine V_get (ci := 8) (v := .ref me) hC in_X8 0 rfl cls_X8 0 (by decide) fl_X8_12 rfl dX8_letterOf_69 ?_
    refine V_getN (ci := 4) (v := .int (nI e)) hC in_X4 1 rfl cls_X4 2 (by decide) fn_X8_58 rfl dX8_letterOf_72 ?_
    refine V_if_eq (tgt := 83) hC (by omega) dX8_letterOf_75 (by decide) (fun c75 => ?_) (fun c75 => ?_)
    · exact False.elim (by omega)
    · refine V_bipush (v := -2) hC dX8_letterOf_78 (by decide) ?_
      refine V_goto (tgt := 88) hC dX8_letterOf_80 (by decide) ?_
      subst hQ
      exact V_iret hC hr hlk rfl (by decide) (by decide) dX8_letterOf_88 (()) [0, 1, 2] rfl (by decide) (⟨rfl, trivial⟩)
abbrev rm_X8_letterOf_3end : Room := { frames := 6, cells := 0, slots := 0, locals := 139 }
set_option maxHeartbeats 4000000 in
set_option maxRecDepth 100000 in
theorem c_X8_letterOf_3end (l : Launch) (D : va_G) (cI cQ : ClassId) (o me kc tc rd tx tb hi ml tco tcr tsp tbi tbr tcs tz tw tT tH tp tb2 tl tu tn n e p b : Nat) (g tF tg tcf : Nat → Nat) (hn : n ≤ 40) (hg : ∀ j, j < n → g j < 8) (hp : p ≤ 64) (hb : b ≤ 2000) (he : e = 0) : MI l yX8_letterOf cX8_letterOf 3 (some .int) rm_X8_letterOf_3end D (TY cI cQ) [.ref o, .int (nI 8), .int (nI 3)] [(o, .inr (8, [.ref me, .ref kc, .ref tc, .ref rd, .ref tx, .ref tb, .ref hi])), (me, .inr (4, [.ref ml, .int (nI n), .int (nI e), .int (nI p), .int (nI b)])), (ml, .inl (cI, 40, .inl (fun j => nI (g j)))), (tc, .inr (1, [.ref tco, .ref tsp, .ref tbi, .ref tcs, .int (nI tz), .int (nI tw)])), (tco, .inr (2, [.ref tcr, .int (nI tT), .int (nI tH), .int (nI tp), .int (nI tb2)])), (tcr, .inl (cI, 9, .inl (fun j => nI (tF j)))), (tsp, .inr (6, [.int (nI tl), .int (nI tu)])), (tbi, .inr (0, [.ref tbr, .int (nI tn)])), (tbr, .inl (cI, 658, .inl (fun j => nI (tg j)))), (tcs, .inl (cI, 40, .inl (fun j => nI (tcf j))))] (fun (r9 : Int32) (u : (Nat → Nat) × (Nat → Nat)) => r9 = (nI ((sB (cEnd (cR p b g n))).length - (sB (cR p b g n)).length)) ∧ (True)) (fun (u : (Nat → Nat) × (Nat → Nat)) => [(o, .inr (8, [.ref me, .ref kc, .ref tc, .ref rd, .ref tx, .ref tb, .ref hi])), (me, .inr (4, [.ref ml, .int (nI n), .int (nI e), .int (nI p), .int (nI b)])), (ml, .inl (cI, 40, .inl (fun j => nI (g j)))), (tc, .inr (1, [.ref tco, .ref tsp, .ref tbi, .ref tcs, .int (nI n), .int (nI (sW (cEnd (cR p b g n))))])), (tco, .inr (2, [.ref tcr, .int (nI (sT (cEnd (cR p b g n)))), .int (nI (sH (cEnd (cR p b g n)))), .int (nI p), .int (nI b)])), (tcr, .inl (cI, 9, .inl (fun j => nI ((sF (cEnd (cR p b g n))) j)))), (tsp, .inr (6, [.int (nI (sL (cEnd (cR p b g n)))), .int (nI (sU (cEnd (cR p b g n))))])), (tbi, .inr (0, [.ref tbr, .int (nI ((sB (cEnd (cR p b g n))).length))])), (tbr, .inl (cI, 658, .inl (fun j => nI (u.1 j)))), (tcs, .inl (cI, 40, .inl (fun j => nI (u.2 j))))]) 0 0 := by
  refine MI.start (by decide) (Nat.le_of_ble_eq_true rfl) (lv0 := [(0, .ref o), (1, .int (nI 8)), (2, .int (nI 3))]) rfl ?_
  intro pp9 ee9 ss9 mm9 args9 below9 meth9 co9 A9 Q9 hQ hC hr hlk hnm
  refine V_iload_n hC dX8_letterOf_0 rfl 1 rfl ?_
  refine V_if_lt_F (tgt := 19) hC dX8_letterOf_1 (by decide) (nI_pos (by omega)) ?_
  refine V_iload_n hC dX8_letterOf_4 rfl 1 rfl ?_
  refine V_bipush (v := nI 8) hC dX8_letterOf_5 (by decide) ?_
  refine V_icmp_gt_F (tgt := 19) hC dX8_letterOf_7 (by decide) (nI_nlt (by omega) (by omega)) ?_
  refine V_iload_n hC dX8_letterOf_10 rfl 2 rfl ?_
  refine V_if_lt_F (tgt := 19) hC dX8_letterOf_11 (by decide) (nI_pos (by omega)) ?_
  refine V_iload_n hC dX8_letterOf_14 rfl 2 rfl ?_
  refine V_iconst (v := nI 3) hC dX8_letterOf_15 (by decide) ?_
  refine V_icmp_le_T (tgt := 21) hC dX8_letterOf_16 (by decide) (nI_le (by omega) (by omega)) ?_
  refine V_iload_n hC dX8_letterOf_21 rfl 2 rfl ?_
  refine V_if_ne_T (tgt := 37) hC dX8_letterOf_22 (by decide) (nI_ne0 (by omega) (by omega)) ?_
  refine V_iload_n hC dX8_letterOf_37 rfl 2 rfl ?_
  refine V_iconst (v := nI 1) hC dX8_letterOf_38 (by decide) ?_
  refine V_icmp_ne_T (tgt := 54) hC dX8_letterOf_39 (by decide) (fun z => absurd ((nI_eq (by omega) (by omega)).mp z) (show ¬ 3 = 1 by omega)) ?_
  refine V_iload_n hC dX8_letterOf_54 rfl 2 rfl ?_
  refine V_iconst (v := nI 2) hC dX8_letterOf_55 (by decide) ?_
  refine V_icmp_ne_T (tgt := 68) hC dX8_letterOf_56 (by decide) (fun z => absurd ((nI_eq (by omega) (by omega)).mp z) (show ¬ 3 = 2 by omega)) ?_
  refine V_aload_n hC dX8_letterOf_68 rfl 0 rfl ?_
  refine V_get (ci := 8) (v := .ref me) hC in_X8 0 rfl cls_X8 0 (by decide) fl_X8_12 rfl dX8_letterOf_69 ?_
  refine V_getN (ci := 4) (v := .int (nI e)) hC in_X4 1 rfl cls_X4 2 (by decide) fn_X8_58 rfl dX8_letterOf_72 ?_
  refine V_if_eq (tgt := 83) hC (by omega) dX8_letterOf_75 (by decide) (fun c75 => ?_) (fun c75 => ?_)
  · refine V_aload_n hC dX8_letterOf_83 rfl 0 rfl ?_
    refine V_iload_n hC dX8_letterOf_84 rfl 1 rfl ?_
    refine V_calliV (As := [.int (nI 8)]) (rest := []) (wr := []) hC (c_X8_bitsMoreWith_end l D cI cQ o me kc tc rd tx tb hi ml tco tcr tsp tbi tbr tcs tz tw tT tH tp tb2 tl tu tn n e p b g tF tg tcf (by omega) (hg) (by omega) (by omega)) mok_X8_bitsMoreWith ml_X8_129 (q1 := 0) rfl cls_X8 rfl rfl rfl (by decide) (by decide) (by decide) (Nat.le_of_ble_eq_true rfl) [0, 1, 2, 3, 4, 5, 6, 7, 8, 9] [] rfl (by decide) rfl (by decide) (by decide) dX8_letterOf_85 rfl (fun r9 u9 h85 => ?_)
    obtain ⟨tg2_1, tcf2_2⟩ := u9
    obtain ⟨rfl, h85⟩ := h85
    clear h85
    refine V_perm (ws2 := [(o, .inr (8, [.ref me, .ref kc, .ref tc, .ref rd, .ref tx, .ref tb, .ref hi])), (me, .inr (4, [.ref ml, .int (nI n), .int (nI e), .int (nI p), .int (nI b)])), (ml, .inl (cI, 40, .inl (fun j => nI (g j)))), (tc, .inr (1, [.ref tco, .ref tsp, .ref tbi, .ref tcs, .int (nI n), .int (nI (sW (cEnd (cR p b g n))))])), (tco, .inr (2, [.ref tcr, .int (nI (sT (cEnd (cR p b g n)))), .int (nI (sH (cEnd (cR p b g n)))), .int (nI p), .int (nI b)])), (tcr, .inl (cI, 9, .inl (fun j => nI ((sF (cEnd (cR p b g n))) j)))), (tsp, .inr (6, [.int (nI (sL (cEnd (cR p b g n)))), .int (nI (sU (cEnd (cR p b g n))))])), (tbi, .inr (0, [.ref tbr, .int (nI ((sB (cEnd (cR p b g n))).length))])), (tbr, .inl (cI, 658, .inl (fun j => nI (tg2_1 j)))), (tcs, .inl (cI, 40, .inl (fun j => nI (tcf2_2 j))))]) [0, 1, 2, 3, 4, 5, 6, 7, 8, 9] rfl (by decide) ?_
    subst hQ
    exact V_iret hC hr hlk rfl (by decide) (by decide) dX8_letterOf_88 ((tg2_1, tcf2_2)) [0, 1, 2, 3, 4, 5, 6, 7, 8, 9] rfl (by decide) (⟨rfl, trivial⟩)
  · exact False.elim (by omega)
abbrev rm_X8_letterOf_3add : Room := { frames := 6, cells := 0, slots := 0, locals := 139 }
set_option maxHeartbeats 4000000 in
set_option maxRecDepth 100000 in
theorem c_X8_letterOf_3add (l : Launch) (D : va_G) (cI cQ : ClassId) (o me kc tc rd tx tb hi ml tco tcr tsp tbi tbr tcs tz tw tT tH tp tb2 tl tu tn n e p b k : Nat) (g tF tg tcf : Nat → Nat) (hn : n ≤ 40) (hg : ∀ j, j < n → g j < 8) (hp : p ≤ 64) (hb : b ≤ 2000) (he : e = 0) (hk : k < 8) (hz : n < 40) : MI l yX8_letterOf cX8_letterOf 3 (some .int) rm_X8_letterOf_3add D (TY cI cQ) [.ref o, .int (nI k), .int (nI 3)] [(o, .inr (8, [.ref me, .ref kc, .ref tc, .ref rd, .ref tx, .ref tb, .ref hi])), (me, .inr (4, [.ref ml, .int (nI n), .int (nI e), .int (nI p), .int (nI b)])), (ml, .inl (cI, 40, .inl (fun j => nI (g j)))), (tc, .inr (1, [.ref tco, .ref tsp, .ref tbi, .ref tcs, .int (nI tz), .int (nI tw)])), (tco, .inr (2, [.ref tcr, .int (nI tT), .int (nI tH), .int (nI tp), .int (nI tb2)])), (tcr, .inl (cI, 9, .inl (fun j => nI (tF j)))), (tsp, .inr (6, [.int (nI tl), .int (nI tu)])), (tbi, .inr (0, [.ref tbr, .int (nI tn)])), (tbr, .inl (cI, 658, .inl (fun j => nI (tg j)))), (tcs, .inl (cI, 40, .inl (fun j => nI (tcf j))))] (fun (r9 : Int32) (u : (Nat → Nat) × (Nat → Nat)) => r9 = (nI ((sB (cAdd p b (cR p b g n) k)).length - (sB (cR p b g n)).length)) ∧ (True)) (fun (u : (Nat → Nat) × (Nat → Nat)) => [(o, .inr (8, [.ref me, .ref kc, .ref tc, .ref rd, .ref tx, .ref tb, .ref hi])), (me, .inr (4, [.ref ml, .int (nI n), .int (nI e), .int (nI p), .int (nI b)])), (ml, .inl (cI, 40, .inl (fun j => nI (g j)))), (tc, .inr (1, [.ref tco, .ref tsp, .ref tbi, .ref tcs, .int (nI (n + 1)), .int (nI (sW (cAdd p b (cR p b g n) k)))])), (tco, .inr (2, [.ref tcr, .int (nI (sT (cAdd p b (cR p b g n) k))), .int (nI (sH (cAdd p b (cR p b g n) k))), .int (nI p), .int (nI b)])), (tcr, .inl (cI, 9, .inl (fun j => nI ((sF (cAdd p b (cR p b g n) k)) j)))), (tsp, .inr (6, [.int (nI (sL (cAdd p b (cR p b g n) k))), .int (nI (sU (cAdd p b (cR p b g n) k)))])), (tbi, .inr (0, [.ref tbr, .int (nI ((sB (cAdd p b (cR p b g n) k)).length))])), (tbr, .inl (cI, 658, .inl (fun j => nI (u.1 j)))), (tcs, .inl (cI, 40, .inl (fun j => nI (u.2 j))))]) 0 0 := by
  refine MI.start (by decide) (Nat.le_of_ble_eq_true rfl) (lv0 := [(0, .ref o), (1, .int (nI k)), (2, .int (nI 3))]) rfl ?_
  intro pp9 ee9 ss9 mm9 args9 below9 meth9 co9 A9 Q9 hQ hC hr hlk hnm
  refine V_iload_n hC dX8_letterOf_0 rfl 1 rfl ?_
  refine V_if_lt_F (tgt := 19) hC dX8_letterOf_1 (by decide) (nI_pos (by omega)) ?_
  refine V_iload_n hC dX8_letterOf_4 rfl 1 rfl ?_
  refine V_bipush (v := nI 8) hC dX8_letterOf_5 (by decide) ?_
  refine V_icmp_gt (tgt := 19) hC (by omega) (by omega) dX8_letterOf_7 (by decide) (fun c7 => ?_) (fun c7 => ?_)
  · exact False.elim (by omega)
  · refine V_iload_n hC dX8_letterOf_10 rfl 2 rfl ?_
    refine V_if_lt_F (tgt := 19) hC dX8_letterOf_11 (by decide) (nI_pos (by omega)) ?_
    refine V_iload_n hC dX8_letterOf_14 rfl 2 rfl ?_
    refine V_iconst (v := nI 3) hC dX8_letterOf_15 (by decide) ?_
    refine V_icmp_le_T (tgt := 21) hC dX8_letterOf_16 (by decide) (nI_le (by omega) (by omega)) ?_
    refine V_iload_n hC dX8_letterOf_21 rfl 2 rfl ?_
    refine V_if_ne_T (tgt := 37) hC dX8_letterOf_22 (by decide) (nI_ne0 (by omega) (by omega)) ?_
    refine V_iload_n hC dX8_letterOf_37 rfl 2 rfl ?_
    refine V_iconst (v := nI 1) hC dX8_letterOf_38 (by decide) ?_
    refine V_icmp_ne_T (tgt := 54) hC dX8_letterOf_39 (by decide) (fun z => absurd ((nI_eq (by omega) (by omega)).mp z) (show ¬ 3 = 1 by omega)) ?_
    refine V_iload_n hC dX8_letterOf_54 rfl 2 rfl ?_
    refine V_iconst (v := nI 2) hC dX8_letterOf_55 (by decide) ?_
    refine V_icmp_ne_T (tgt := 68) hC dX8_letterOf_56 (by decide) (fun z => absurd ((nI_eq (by omega) (by omega)).mp z) (show ¬ 3 = 2 by omega)) ?_
    refine V_aload_n hC dX8_letterOf_68 rfl 0 rfl ?_
    refine V_get (ci := 8) (v := .ref me) hC in_X8 0 rfl cls_X8 0 (by decide) fl_X8_12 rfl dX8_letterOf_69 ?_
    refine V_getN (ci := 4) (v := .int (nI e)) hC in_X4 1 rfl cls_X4 2 (by decide) fn_X8_58 rfl dX8_letterOf_72 ?_
    refine V_if_eq (tgt := 83) hC (by omega) dX8_letterOf_75 (by decide) (fun c75 => ?_) (fun c75 => ?_)
    · refine V_aload_n hC dX8_letterOf_83 rfl 0 rfl ?_
      refine V_iload_n hC dX8_letterOf_84 rfl 1 rfl ?_
      refine V_calliV (As := [.int (nI k)]) (rest := []) (wr := []) hC (c_X8_bitsMoreWith_add l D cI cQ o me kc tc rd tx tb hi ml tco tcr tsp tbi tbr tcs tz tw tT tH tp tb2 tl tu tn n e p b k g tF tg tcf (by omega) (hg) (by omega) (by omega) (by omega) (by omega)) mok_X8_bitsMoreWith ml_X8_129 (q1 := 0) rfl cls_X8 rfl rfl rfl (by decide) (by decide) (by decide) (Nat.le_of_ble_eq_true rfl) [0, 1, 2, 3, 4, 5, 6, 7, 8, 9] [] rfl (by decide) rfl (by decide) (by decide) dX8_letterOf_85 rfl (fun r9 u9 h85 => ?_)
      obtain ⟨tg2_1, tcf2_2⟩ := u9
      obtain ⟨rfl, h85⟩ := h85
      clear h85
      refine V_perm (ws2 := [(o, .inr (8, [.ref me, .ref kc, .ref tc, .ref rd, .ref tx, .ref tb, .ref hi])), (me, .inr (4, [.ref ml, .int (nI n), .int (nI e), .int (nI p), .int (nI b)])), (ml, .inl (cI, 40, .inl (fun j => nI (g j)))), (tc, .inr (1, [.ref tco, .ref tsp, .ref tbi, .ref tcs, .int (nI (n + 1)), .int (nI (sW (cAdd p b (cR p b g n) k)))])), (tco, .inr (2, [.ref tcr, .int (nI (sT (cAdd p b (cR p b g n) k))), .int (nI (sH (cAdd p b (cR p b g n) k))), .int (nI p), .int (nI b)])), (tcr, .inl (cI, 9, .inl (fun j => nI ((sF (cAdd p b (cR p b g n) k)) j)))), (tsp, .inr (6, [.int (nI (sL (cAdd p b (cR p b g n) k))), .int (nI (sU (cAdd p b (cR p b g n) k)))])), (tbi, .inr (0, [.ref tbr, .int (nI ((sB (cAdd p b (cR p b g n) k)).length))])), (tbr, .inl (cI, 658, .inl (fun j => nI (tg2_1 j)))), (tcs, .inl (cI, 40, .inl (fun j => nI (tcf2_2 j))))]) [0, 1, 2, 3, 4, 5, 6, 7, 8, 9] rfl (by decide) ?_
      subst hQ
      exact V_iret hC hr hlk rfl (by decide) (by decide) dX8_letterOf_88 ((tg2_1, tcf2_2)) [0, 1, 2, 3, 4, 5, 6, 7, 8, 9] rfl (by decide) (⟨rfl, trivial⟩)
    · exact False.elim (by omega)
abbrev rm_X8_letterOf_3full : Room := { frames := 6, cells := 0, slots := 0, locals := 139 }
set_option maxHeartbeats 4000000 in
set_option maxRecDepth 100000 in
theorem c_X8_letterOf_3full (l : Launch) (D : va_G) (cI cQ : ClassId) (o me kc tc rd tx tb hi ml tco tcr tsp tbi tbr tcs tz tw tT tH tp tb2 tl tu tn n e p b k : Nat) (g tF tg tcf : Nat → Nat) (hn : n ≤ 40) (hg : ∀ j, j < n → g j < 8) (hp : p ≤ 64) (hb : b ≤ 2000) (he : e = 0) (hk : k < 8) (hz : 40 ≤ n) : MI l yX8_letterOf cX8_letterOf 3 (some .int) rm_X8_letterOf_3full D (TY cI cQ) [.ref o, .int (nI k), .int (nI 3)] [(o, .inr (8, [.ref me, .ref kc, .ref tc, .ref rd, .ref tx, .ref tb, .ref hi])), (me, .inr (4, [.ref ml, .int (nI n), .int (nI e), .int (nI p), .int (nI b)])), (ml, .inl (cI, 40, .inl (fun j => nI (g j)))), (tc, .inr (1, [.ref tco, .ref tsp, .ref tbi, .ref tcs, .int (nI tz), .int (nI tw)])), (tco, .inr (2, [.ref tcr, .int (nI tT), .int (nI tH), .int (nI tp), .int (nI tb2)])), (tcr, .inl (cI, 9, .inl (fun j => nI (tF j)))), (tsp, .inr (6, [.int (nI tl), .int (nI tu)])), (tbi, .inr (0, [.ref tbr, .int (nI tn)])), (tbr, .inl (cI, 658, .inl (fun j => nI (tg j)))), (tcs, .inl (cI, 40, .inl (fun j => nI (tcf j))))] (fun (r9 : Int32) (u : (Nat → Nat) × (Nat → Nat)) => r9 = (nI ((sB (cAdd p b (cR p b g n) k)).length - (sB (cR p b g n)).length)) ∧ (True)) (fun (u : (Nat → Nat) × (Nat → Nat)) => [(o, .inr (8, [.ref me, .ref kc, .ref tc, .ref rd, .ref tx, .ref tb, .ref hi])), (me, .inr (4, [.ref ml, .int (nI n), .int (nI e), .int (nI p), .int (nI b)])), (ml, .inl (cI, 40, .inl (fun j => nI (g j)))), (tc, .inr (1, [.ref tco, .ref tsp, .ref tbi, .ref tcs, .int (nI n), .int (nI (sW (cAdd p b (cR p b g n) k)))])), (tco, .inr (2, [.ref tcr, .int (nI (sT (cAdd p b (cR p b g n) k))), .int (nI (sH (cAdd p b (cR p b g n) k))), .int (nI p), .int (nI b)])), (tcr, .inl (cI, 9, .inl (fun j => nI ((sF (cAdd p b (cR p b g n) k)) j)))), (tsp, .inr (6, [.int (nI (sL (cAdd p b (cR p b g n) k))), .int (nI (sU (cAdd p b (cR p b g n) k)))])), (tbi, .inr (0, [.ref tbr, .int (nI ((sB (cAdd p b (cR p b g n) k)).length))])), (tbr, .inl (cI, 658, .inl (fun j => nI (u.1 j)))), (tcs, .inl (cI, 40, .inl (fun j => nI (u.2 j))))]) 0 0 := by
  refine MI.start (by decide) (Nat.le_of_ble_eq_true rfl) (lv0 := [(0, .ref o), (1, .int (nI k)), (2, .int (nI 3))]) rfl ?_
  intro pp9 ee9 ss9 mm9 args9 below9 meth9 co9 A9 Q9 hQ hC hr hlk hnm
  refine V_iload_n hC dX8_letterOf_0 rfl 1 rfl ?_
  refine V_if_lt_F (tgt := 19) hC dX8_letterOf_1 (by decide) (nI_pos (by omega)) ?_
  refine V_iload_n hC dX8_letterOf_4 rfl 1 rfl ?_
  refine V_bipush (v := nI 8) hC dX8_letterOf_5 (by decide) ?_
  refine V_icmp_gt (tgt := 19) hC (by omega) (by omega) dX8_letterOf_7 (by decide) (fun c7 => ?_) (fun c7 => ?_)
  · exact False.elim (by omega)
  · refine V_iload_n hC dX8_letterOf_10 rfl 2 rfl ?_
    refine V_if_lt_F (tgt := 19) hC dX8_letterOf_11 (by decide) (nI_pos (by omega)) ?_
    refine V_iload_n hC dX8_letterOf_14 rfl 2 rfl ?_
    refine V_iconst (v := nI 3) hC dX8_letterOf_15 (by decide) ?_
    refine V_icmp_le_T (tgt := 21) hC dX8_letterOf_16 (by decide) (nI_le (by omega) (by omega)) ?_
    refine V_iload_n hC dX8_letterOf_21 rfl 2 rfl ?_
    refine V_if_ne_T (tgt := 37) hC dX8_letterOf_22 (by decide) (nI_ne0 (by omega) (by omega)) ?_
    refine V_iload_n hC dX8_letterOf_37 rfl 2 rfl ?_
    refine V_iconst (v := nI 1) hC dX8_letterOf_38 (by decide) ?_
    refine V_icmp_ne_T (tgt := 54) hC dX8_letterOf_39 (by decide) (fun z => absurd ((nI_eq (by omega) (by omega)).mp z) (show ¬ 3 = 1 by omega)) ?_
    refine V_iload_n hC dX8_letterOf_54 rfl 2 rfl ?_
    refine V_iconst (v := nI 2) hC dX8_letterOf_55 (by decide) ?_
    refine V_icmp_ne_T (tgt := 68) hC dX8_letterOf_56 (by decide) (fun z => absurd ((nI_eq (by omega) (by omega)).mp z) (show ¬ 3 = 2 by omega)) ?_
    refine V_aload_n hC dX8_letterOf_68 rfl 0 rfl ?_
    refine V_get (ci := 8) (v := .ref me) hC in_X8 0 rfl cls_X8 0 (by decide) fl_X8_12 rfl dX8_letterOf_69 ?_
    refine V_getN (ci := 4) (v := .int (nI e)) hC in_X4 1 rfl cls_X4 2 (by decide) fn_X8_58 rfl dX8_letterOf_72 ?_
    refine V_if_eq (tgt := 83) hC (by omega) dX8_letterOf_75 (by decide) (fun c75 => ?_) (fun c75 => ?_)
    · refine V_aload_n hC dX8_letterOf_83 rfl 0 rfl ?_
      refine V_iload_n hC dX8_letterOf_84 rfl 1 rfl ?_
      refine V_calliV (As := [.int (nI k)]) (rest := []) (wr := []) hC (c_X8_bitsMoreWith_full l D cI cQ o me kc tc rd tx tb hi ml tco tcr tsp tbi tbr tcs tz tw tT tH tp tb2 tl tu tn n e p b k g tF tg tcf (by omega) (hg) (by omega) (by omega) (by omega) (by omega)) mok_X8_bitsMoreWith ml_X8_129 (q1 := 0) rfl cls_X8 rfl rfl rfl (by decide) (by decide) (by decide) (Nat.le_of_ble_eq_true rfl) [0, 1, 2, 3, 4, 5, 6, 7, 8, 9] [] rfl (by decide) rfl (by decide) (by decide) dX8_letterOf_85 rfl (fun r9 u9 h85 => ?_)
      obtain ⟨tg2_1, tcf2_2⟩ := u9
      obtain ⟨rfl, h85⟩ := h85
      clear h85
      refine V_perm (ws2 := [(o, .inr (8, [.ref me, .ref kc, .ref tc, .ref rd, .ref tx, .ref tb, .ref hi])), (me, .inr (4, [.ref ml, .int (nI n), .int (nI e), .int (nI p), .int (nI b)])), (ml, .inl (cI, 40, .inl (fun j => nI (g j)))), (tc, .inr (1, [.ref tco, .ref tsp, .ref tbi, .ref tcs, .int (nI n), .int (nI (sW (cAdd p b (cR p b g n) k)))])), (tco, .inr (2, [.ref tcr, .int (nI (sT (cAdd p b (cR p b g n) k))), .int (nI (sH (cAdd p b (cR p b g n) k))), .int (nI p), .int (nI b)])), (tcr, .inl (cI, 9, .inl (fun j => nI ((sF (cAdd p b (cR p b g n) k)) j)))), (tsp, .inr (6, [.int (nI (sL (cAdd p b (cR p b g n) k))), .int (nI (sU (cAdd p b (cR p b g n) k)))])), (tbi, .inr (0, [.ref tbr, .int (nI ((sB (cAdd p b (cR p b g n) k)).length))])), (tbr, .inl (cI, 658, .inl (fun j => nI (tg2_1 j)))), (tcs, .inl (cI, 40, .inl (fun j => nI (tcf2_2 j))))]) [0, 1, 2, 3, 4, 5, 6, 7, 8, 9] rfl (by decide) ?_
      subst hQ
      exact V_iret hC hr hlk rfl (by decide) (by decide) dX8_letterOf_88 ((tg2_1, tcf2_2)) [0, 1, 2, 3, 4, 5, 6, 7, 8, 9] rfl (by decide) (⟨rfl, trivial⟩)
    · exact False.elim (by omega)
abbrev rm_X8_count_0 : Room := { frames := 0, cells := 0, slots := 0, locals := 0 }
set_option maxHeartbeats 4000000 in
set_option maxRecDepth 100000 in
theorem c_X8_count_0 (l : Launch) (D : va_G) (cI cQ : ClassId) (o me kc tc rd tx tb hi ml kco kcr ksp kbi kbr kcs hst txr n e p b kz kw kT kH kp kb kl ku kn sz xn : Nat) (g kF kg xf : Nat → Nat)  : MI l yX8_count cX8_count 2 (some .int) rm_X8_count_0 D (TY cI cQ) [.ref o, .int (nI 0)] [(o, .inr (8, [.ref me, .ref kc, .ref tc, .ref rd, .ref tx, .ref tb, .ref hi])), (me, .inr (4, [.ref ml, .int (nI n), .int (nI e), .int (nI p), .int (nI b)])), (ml, .inl (cI, 40, .inl (fun j => nI (g j))))] (fun (r9 : Int32) (u : Unit) => r9 = (nI n) ∧ (True)) (fun (u : Unit) => [(o, .inr (8, [.ref me, .ref kc, .ref tc, .ref rd, .ref tx, .ref tb, .ref hi])), (me, .inr (4, [.ref ml, .int (nI n), .int (nI e), .int (nI p), .int (nI b)])), (ml, .inl (cI, 40, .inl (fun j => nI (g j))))]) 0 0 := by
  refine MI.start (by decide) (Nat.le_of_ble_eq_true rfl) (lv0 := [(0, .ref o), (1, .int (nI 0))]) rfl ?_
  intro pp9 ee9 ss9 mm9 args9 below9 meth9 co9 A9 Q9 hQ hC hr hlk hnm
  refine V_iload_n hC dX8_count_0 rfl 1 rfl ?_
  refine V_tblIn (tgt := 68) hC dX8_count_1 (by decide) (by decide) rfl (by decide) ?_
  refine V_aload_n hC dX8_count_68 rfl 0 rfl ?_
  refine V_get (ci := 8) (v := .ref me) hC in_X8 0 rfl cls_X8 0 (by decide) fl_X8_12 rfl dX8_count_69 ?_
  refine V_getN (ci := 4) (v := .int (nI n)) hC in_X4 1 rfl cls_X4 1 (by decide) fn_X8_62 rfl dX8_count_72 ?_
  subst hQ
  exact V_iret hC hr hlk rfl (by decide) (by decide) dX8_count_75 (()) [0, 1, 2] rfl (by decide) (⟨rfl, trivial⟩)
abbrev rm_X8_count_1 : Room := { frames := 0, cells := 0, slots := 0, locals := 0 }
set_option maxHeartbeats 4000000 in
set_option maxRecDepth 100000 in
theorem c_X8_count_1 (l : Launch) (D : va_G) (cI cQ : ClassId) (o me kc tc rd tx tb hi ml kco kcr ksp kbi kbr kcs hst txr n e p b kz kw kT kH kp kb kl ku kn sz xn : Nat) (g kF kg xf : Nat → Nat)  : MI l yX8_count cX8_count 2 (some .int) rm_X8_count_1 D (TY cI cQ) [.ref o, .int (nI 1)] [(o, .inr (8, [.ref me, .ref kc, .ref tc, .ref rd, .ref tx, .ref tb, .ref hi])), (kc, .inr (1, [.ref kco, .ref ksp, .ref kbi, .ref kcs, .int (nI kz), .int (nI kw)])), (kbi, .inr (0, [.ref kbr, .int (nI kn)]))] (fun (r9 : Int32) (u : Unit) => r9 = (nI kn) ∧ (True)) (fun (u : Unit) => [(o, .inr (8, [.ref me, .ref kc, .ref tc, .ref rd, .ref tx, .ref tb, .ref hi])), (kc, .inr (1, [.ref kco, .ref ksp, .ref kbi, .ref kcs, .int (nI kz), .int (nI kw)])), (kbi, .inr (0, [.ref kbr, .int (nI kn)]))]) 0 0 := by
  refine MI.start (by decide) (Nat.le_of_ble_eq_true rfl) (lv0 := [(0, .ref o), (1, .int (nI 1))]) rfl ?_
  intro pp9 ee9 ss9 mm9 args9 below9 meth9 co9 A9 Q9 hQ hC hr hlk hnm
  refine V_iload_n hC dX8_count_0 rfl 1 rfl ?_
  refine V_tblIn (tgt := 76) hC dX8_count_1 (by decide) (by decide) rfl (by decide) ?_
  refine V_aload_n hC dX8_count_76 rfl 0 rfl ?_
  refine V_get (ci := 8) (v := .ref kc) hC in_X8 0 rfl cls_X8 1 (by decide) fl_X8_19 rfl dX8_count_77 ?_
  refine V_getN (ci := 1) (v := .ref kbi) hC in_X1 1 rfl cls_X1 2 (by decide) fn_X8_81 rfl dX8_count_80 ?_
  refine V_getN (ci := 0) (v := .int (nI kn)) hC in_X0 2 rfl cls_X0 1 (by decide) fn_X8_84 rfl dX8_count_83 ?_
  subst hQ
  exact V_iret hC hr hlk rfl (by decide) (by decide) dX8_count_86 (()) [0, 1, 2] rfl (by decide) (⟨rfl, trivial⟩)
abbrev rm_X8_count_2 : Room := { frames := 0, cells := 0, slots := 0, locals := 0 }
set_option maxHeartbeats 4000000 in
set_option maxRecDepth 100000 in
theorem c_X8_count_2 (l : Launch) (D : va_G) (cI cQ : ClassId) (o me kc tc rd tx tb hi ml kco kcr ksp kbi kbr kcs hst txr n e p b kz kw kT kH kp kb kl ku kn sz xn : Nat) (g kF kg xf : Nat → Nat)  : MI l yX8_count cX8_count 2 (some .int) rm_X8_count_2 D (TY cI cQ) [.ref o, .int (nI 2)] [(o, .inr (8, [.ref me, .ref kc, .ref tc, .ref rd, .ref tx, .ref tb, .ref hi])), (kc, .inr (1, [.ref kco, .ref ksp, .ref kbi, .ref kcs, .int (nI kz), .int (nI kw)]))] (fun (r9 : Int32) (u : Unit) => r9 = (nI kw) ∧ (True)) (fun (u : Unit) => [(o, .inr (8, [.ref me, .ref kc, .ref tc, .ref rd, .ref tx, .ref tb, .ref hi])), (kc, .inr (1, [.ref kco, .ref ksp, .ref kbi, .ref kcs, .int (nI kz), .int (nI kw)]))]) 0 0 := by
  refine MI.start (by decide) (Nat.le_of_ble_eq_true rfl) (lv0 := [(0, .ref o), (1, .int (nI 2))]) rfl ?_
  intro pp9 ee9 ss9 mm9 args9 below9 meth9 co9 A9 Q9 hQ hC hr hlk hnm
  refine V_iload_n hC dX8_count_0 rfl 1 rfl ?_
  refine V_tblIn (tgt := 87) hC dX8_count_1 (by decide) (by decide) rfl (by decide) ?_
  refine V_aload_n hC dX8_count_87 rfl 0 rfl ?_
  refine V_get (ci := 8) (v := .ref kc) hC in_X8 0 rfl cls_X8 1 (by decide) fl_X8_19 rfl dX8_count_88 ?_
  refine V_getN (ci := 1) (v := .int (nI kw)) hC in_X1 1 rfl cls_X1 5 (by decide) fn_X8_132 rfl dX8_count_91 ?_
  subst hQ
  exact V_iret hC hr hlk rfl (by decide) (by decide) dX8_count_94 (()) [0, 1] rfl (by decide) (⟨rfl, trivial⟩)
abbrev rm_X8_count_3 : Room := { frames := 0, cells := 0, slots := 0, locals := 0 }
set_option maxHeartbeats 4000000 in
set_option maxRecDepth 100000 in
theorem c_X8_count_3 (l : Launch) (D : va_G) (cI cQ : ClassId) (o me kc tc rd tx tb hi ml kco kcr ksp kbi kbr kcs hst txr n e p b kz kw kT kH kp kb kl ku kn sz xn : Nat) (g kF kg xf : Nat → Nat)  : MI l yX8_count cX8_count 2 (some .int) rm_X8_count_3 D (TY cI cQ) [.ref o, .int (nI 3)] [(o, .inr (8, [.ref me, .ref kc, .ref tc, .ref rd, .ref tx, .ref tb, .ref hi])), (kc, .inr (1, [.ref kco, .ref ksp, .ref kbi, .ref kcs, .int (nI kz), .int (nI kw)])), (ksp, .inr (6, [.int (nI kl), .int (nI ku)]))] (fun (r9 : Int32) (u : Unit) => r9 = (nI kl) ∧ (True)) (fun (u : Unit) => [(o, .inr (8, [.ref me, .ref kc, .ref tc, .ref rd, .ref tx, .ref tb, .ref hi])), (kc, .inr (1, [.ref kco, .ref ksp, .ref kbi, .ref kcs, .int (nI kz), .int (nI kw)])), (ksp, .inr (6, [.int (nI kl), .int (nI ku)]))]) 0 0 := by
  refine MI.start (by decide) (Nat.le_of_ble_eq_true rfl) (lv0 := [(0, .ref o), (1, .int (nI 3))]) rfl ?_
  intro pp9 ee9 ss9 mm9 args9 below9 meth9 co9 A9 Q9 hQ hC hr hlk hnm
  refine V_iload_n hC dX8_count_0 rfl 1 rfl ?_
  refine V_tblIn (tgt := 95) hC dX8_count_1 (by decide) (by decide) rfl (by decide) ?_
  refine V_aload_n hC dX8_count_95 rfl 0 rfl ?_
  refine V_get (ci := 8) (v := .ref kc) hC in_X8 0 rfl cls_X8 1 (by decide) fl_X8_19 rfl dX8_count_96 ?_
  refine V_getN (ci := 1) (v := .ref ksp) hC in_X1 1 rfl cls_X1 1 (by decide) fn_X8_135 rfl dX8_count_99 ?_
  refine V_getN (ci := 6) (v := .int (nI kl)) hC in_X6 2 rfl cls_X6 0 (by decide) fn_X8_139 rfl dX8_count_102 ?_
  subst hQ
  exact V_iret hC hr hlk rfl (by decide) (by decide) dX8_count_105 (()) [0, 1, 2] rfl (by decide) (⟨rfl, trivial⟩)
abbrev rm_X8_count_4 : Room := { frames := 0, cells := 0, slots := 0, locals := 0 }
set_option maxHeartbeats 4000000 in
set_option maxRecDepth 100000 in
theorem c_X8_count_4 (l : Launch) (D : va_G) (cI cQ : ClassId) (o me kc tc rd tx tb hi ml kco kcr ksp kbi kbr kcs hst txr n e p b kz kw kT kH kp kb kl ku kn sz xn : Nat) (g kF kg xf : Nat → Nat)  : MI l yX8_count cX8_count 2 (some .int) rm_X8_count_4 D (TY cI cQ) [.ref o, .int (nI 4)] [(o, .inr (8, [.ref me, .ref kc, .ref tc, .ref rd, .ref tx, .ref tb, .ref hi])), (kc, .inr (1, [.ref kco, .ref ksp, .ref kbi, .ref kcs, .int (nI kz), .int (nI kw)])), (ksp, .inr (6, [.int (nI kl), .int (nI ku)]))] (fun (r9 : Int32) (u : Unit) => r9 = (nI ku) ∧ (True)) (fun (u : Unit) => [(o, .inr (8, [.ref me, .ref kc, .ref tc, .ref rd, .ref tx, .ref tb, .ref hi])), (kc, .inr (1, [.ref kco, .ref ksp, .ref kbi, .ref kcs, .int (nI kz), .int (nI kw)])), (ksp, .inr (6, [.int (nI kl), .int (nI ku)]))]) 0 0 := by
  refine MI.start (by decide) (Nat.le_of_ble_eq_true rfl) (lv0 := [(0, .ref o), (1, .int (nI 4))]) rfl ?_
  intro pp9 ee9 ss9 mm9 args9 below9 meth9 co9 A9 Q9 hQ hC hr hlk hnm
  refine V_iload_n hC dX8_count_0 rfl 1 rfl ?_
  refine V_tblIn (tgt := 106) hC dX8_count_1 (by decide) (by decide) rfl (by decide) ?_
  refine V_aload_n hC dX8_count_106 rfl 0 rfl ?_
  refine V_get (ci := 8) (v := .ref kc) hC in_X8 0 rfl cls_X8 1 (by decide) fl_X8_19 rfl dX8_count_107 ?_
  refine V_getN (ci := 1) (v := .ref ksp) hC in_X1 1 rfl cls_X1 1 (by decide) fn_X8_135 rfl dX8_count_110 ?_
  refine V_getN (ci := 6) (v := .int (nI ku)) hC in_X6 2 rfl cls_X6 1 (by decide) fn_X8_144 rfl dX8_count_113 ?_
  subst hQ
  exact V_iret hC hr hlk rfl (by decide) (by decide) dX8_count_116 (()) [0, 1, 2] rfl (by decide) (⟨rfl, trivial⟩)
abbrev rm_X8_count_5 : Room := { frames := 0, cells := 0, slots := 0, locals := 0 }
set_option maxHeartbeats 4000000 in
set_option maxRecDepth 100000 in
theorem c_X8_count_5 (l : Launch) (D : va_G) (cI cQ : ClassId) (o me kc tc rd tx tb hi ml kco kcr ksp kbi kbr kcs hst txr n e p b kz kw kT kH kp kb kl ku kn sz xn : Nat) (g kF kg xf : Nat → Nat)  : MI l yX8_count cX8_count 2 (some .int) rm_X8_count_5 D (TY cI cQ) [.ref o, .int (nI 5)] [(o, .inr (8, [.ref me, .ref kc, .ref tc, .ref rd, .ref tx, .ref tb, .ref hi])), (kc, .inr (1, [.ref kco, .ref ksp, .ref kbi, .ref kcs, .int (nI kz), .int (nI kw)])), (kco, .inr (2, [.ref kcr, .int (nI kT), .int (nI kH), .int (nI kp), .int (nI kb)])), (kcr, .inl (cI, 9, .inl (fun j => nI (kF j))))] (fun (r9 : Int32) (u : Unit) => r9 = (nI kT) ∧ (True)) (fun (u : Unit) => [(o, .inr (8, [.ref me, .ref kc, .ref tc, .ref rd, .ref tx, .ref tb, .ref hi])), (kc, .inr (1, [.ref kco, .ref ksp, .ref kbi, .ref kcs, .int (nI kz), .int (nI kw)])), (kco, .inr (2, [.ref kcr, .int (nI kT), .int (nI kH), .int (nI kp), .int (nI kb)])), (kcr, .inl (cI, 9, .inl (fun j => nI (kF j))))]) 0 0 := by
  refine MI.start (by decide) (Nat.le_of_ble_eq_true rfl) (lv0 := [(0, .ref o), (1, .int (nI 5))]) rfl ?_
  intro pp9 ee9 ss9 mm9 args9 below9 meth9 co9 A9 Q9 hQ hC hr hlk hnm
  refine V_iload_n hC dX8_count_0 rfl 1 rfl ?_
  refine V_tblIn (tgt := 117) hC dX8_count_1 (by decide) (by decide) rfl (by decide) ?_
  refine V_aload_n hC dX8_count_117 rfl 0 rfl ?_
  refine V_get (ci := 8) (v := .ref kc) hC in_X8 0 rfl cls_X8 1 (by decide) fl_X8_19 rfl dX8_count_118 ?_
  refine V_getN (ci := 1) (v := .ref kco) hC in_X1 1 rfl cls_X1 0 (by decide) fn_X8_114 rfl dX8_count_121 ?_
  refine V_getN (ci := 2) (v := .int (nI kT)) hC in_X2 2 rfl cls_X2 1 (by decide) fn_X8_147 rfl dX8_count_124 ?_
  subst hQ
  exact V_iret hC hr hlk rfl (by decide) (by decide) dX8_count_127 (()) [0, 1, 2, 3] rfl (by decide) (⟨rfl, trivial⟩)
abbrev rm_X8_count_6 : Room := { frames := 0, cells := 0, slots := 0, locals := 0 }
set_option maxHeartbeats 4000000 in
set_option maxRecDepth 100000 in
theorem c_X8_count_6 (l : Launch) (D : va_G) (cI cQ : ClassId) (o me kc tc rd tx tb hi ml kco kcr ksp kbi kbr kcs hst txr n e p b kz kw kT kH kp kb kl ku kn sz xn : Nat) (g kF kg xf : Nat → Nat)  : MI l yX8_count cX8_count 2 (some .int) rm_X8_count_6 D (TY cI cQ) [.ref o, .int (nI 6)] [(o, .inr (8, [.ref me, .ref kc, .ref tc, .ref rd, .ref tx, .ref tb, .ref hi])), (kc, .inr (1, [.ref kco, .ref ksp, .ref kbi, .ref kcs, .int (nI kz), .int (nI kw)])), (kco, .inr (2, [.ref kcr, .int (nI kT), .int (nI kH), .int (nI kp), .int (nI kb)])), (kcr, .inl (cI, 9, .inl (fun j => nI (kF j))))] (fun (r9 : Int32) (u : Unit) => r9 = (nI kH) ∧ (True)) (fun (u : Unit) => [(o, .inr (8, [.ref me, .ref kc, .ref tc, .ref rd, .ref tx, .ref tb, .ref hi])), (kc, .inr (1, [.ref kco, .ref ksp, .ref kbi, .ref kcs, .int (nI kz), .int (nI kw)])), (kco, .inr (2, [.ref kcr, .int (nI kT), .int (nI kH), .int (nI kp), .int (nI kb)])), (kcr, .inl (cI, 9, .inl (fun j => nI (kF j))))]) 0 0 := by
  refine MI.start (by decide) (Nat.le_of_ble_eq_true rfl) (lv0 := [(0, .ref o), (1, .int (nI 6))]) rfl ?_
  intro pp9 ee9 ss9 mm9 args9 below9 meth9 co9 A9 Q9 hQ hC hr hlk hnm
  refine V_iload_n hC dX8_count_0 rfl 1 rfl ?_
  refine V_tblIn (tgt := 128) hC dX8_count_1 (by decide) (by decide) rfl (by decide) ?_
  refine V_aload_n hC dX8_count_128 rfl 0 rfl ?_
  refine V_get (ci := 8) (v := .ref kc) hC in_X8 0 rfl cls_X8 1 (by decide) fl_X8_19 rfl dX8_count_129 ?_
  refine V_getN (ci := 1) (v := .ref kco) hC in_X1 1 rfl cls_X1 0 (by decide) fn_X8_114 rfl dX8_count_132 ?_
  refine V_getN (ci := 2) (v := .int (nI kH)) hC in_X2 2 rfl cls_X2 2 (by decide) fn_X8_150 rfl dX8_count_135 ?_
  subst hQ
  exact V_iret hC hr hlk rfl (by decide) (by decide) dX8_count_138 (()) [0, 1, 2, 3] rfl (by decide) (⟨rfl, trivial⟩)
abbrev rm_X8_count_8 : Room := { frames := 0, cells := 0, slots := 0, locals := 0 }
set_option maxHeartbeats 4000000 in
set_option maxRecDepth 100000 in
theorem c_X8_count_8 (l : Launch) (D : va_G) (cI cQ : ClassId) (o me kc tc rd tx tb hi ml kco kcr ksp kbi kbr kcs hst txr n e p b kz kw kT kH kp kb kl ku kn sz xn : Nat) (g kF kg xf : Nat → Nat)  : MI l yX8_count cX8_count 2 (some .int) rm_X8_count_8 D (TY cI cQ) [.ref o, .int (nI 8)] [(o, .inr (8, [.ref me, .ref kc, .ref tc, .ref rd, .ref tx, .ref tb, .ref hi])), (hi, .inr (3, [.ref hst, .int (nI sz)]))] (fun (r9 : Int32) (u : Unit) => r9 = (nI sz) ∧ (True)) (fun (u : Unit) => [(o, .inr (8, [.ref me, .ref kc, .ref tc, .ref rd, .ref tx, .ref tb, .ref hi])), (hi, .inr (3, [.ref hst, .int (nI sz)]))]) 0 0 := by
  refine MI.start (by decide) (Nat.le_of_ble_eq_true rfl) (lv0 := [(0, .ref o), (1, .int (nI 8))]) rfl ?_
  intro pp9 ee9 ss9 mm9 args9 below9 meth9 co9 A9 Q9 hQ hC hr hlk hnm
  refine V_iload_n hC dX8_count_0 rfl 1 rfl ?_
  refine V_tblIn (tgt := 155) hC dX8_count_1 (by decide) (by decide) rfl (by decide) ?_
  refine V_aload_n hC dX8_count_155 rfl 0 rfl ?_
  refine V_get (ci := 8) (v := .ref hi) hC in_X8 0 rfl cls_X8 6 (by decide) fl_X8_50 rfl dX8_count_156 ?_
  refine V_getN (ci := 3) (v := .int (nI sz)) hC in_X3 1 rfl cls_X3 1 (by decide) fn_X8_153 rfl dX8_count_159 ?_
  subst hQ
  exact V_iret hC hr hlk rfl (by decide) (by decide) dX8_count_162 (()) [0, 1] rfl (by decide) (⟨rfl, trivial⟩)
abbrev rm_X8_count_9 : Room := { frames := 0, cells := 0, slots := 0, locals := 0 }
set_option maxHeartbeats 4000000 in
set_option maxRecDepth 100000 in
theorem c_X8_count_9 (l : Launch) (D : va_G) (cI cQ : ClassId) (o me kc tc rd tx tb hi ml kco kcr ksp kbi kbr kcs hst txr n e p b kz kw kT kH kp kb kl ku kn sz xn : Nat) (g kF kg xf : Nat → Nat)  : MI l yX8_count cX8_count 2 (some .int) rm_X8_count_9 D (TY cI cQ) [.ref o, .int (nI 9)] [(o, .inr (8, [.ref me, .ref kc, .ref tc, .ref rd, .ref tx, .ref tb, .ref hi])), (tx, .inr (7, [.ref txr, .int (nI xn)])), (txr, .inl (cI, 120, .inl (fun j => nI (xf j))))] (fun (r9 : Int32) (u : Unit) => r9 = (nI xn) ∧ (True)) (fun (u : Unit) => [(o, .inr (8, [.ref me, .ref kc, .ref tc, .ref rd, .ref tx, .ref tb, .ref hi])), (tx, .inr (7, [.ref txr, .int (nI xn)])), (txr, .inl (cI, 120, .inl (fun j => nI (xf j))))]) 0 0 := by
  refine MI.start (by decide) (Nat.le_of_ble_eq_true rfl) (lv0 := [(0, .ref o), (1, .int (nI 9))]) rfl ?_
  intro pp9 ee9 ss9 mm9 args9 below9 meth9 co9 A9 Q9 hQ hC hr hlk hnm
  refine V_iload_n hC dX8_count_0 rfl 1 rfl ?_
  refine V_tblIn (tgt := 163) hC dX8_count_1 (by decide) (by decide) rfl (by decide) ?_
  refine V_aload_n hC dX8_count_163 rfl 0 rfl ?_
  refine V_get (ci := 8) (v := .ref tx) hC in_X8 0 rfl cls_X8 4 (by decide) fl_X8_36 rfl dX8_count_164 ?_
  refine V_getN (ci := 7) (v := .int (nI xn)) hC in_X7 1 rfl cls_X7 1 (by decide) fn_X8_154 rfl dX8_count_167 ?_
  subst hQ
  exact V_iret hC hr hlk rfl (by decide) (by decide) dX8_count_170 (()) [0, 1, 2] rfl (by decide) (⟨rfl, trivial⟩)
abbrev rm_X8_count_10 : Room := { frames := 0, cells := 0, slots := 0, locals := 0 }
set_option maxHeartbeats 4000000 in
set_option maxRecDepth 100000 in
theorem c_X8_count_10 (l : Launch) (D : va_G) (cI cQ : ClassId) (o me kc tc rd tx tb hi ml kco kcr ksp kbi kbr kcs hst txr n e p b kz kw kT kH kp kb kl ku kn sz xn : Nat) (g kF kg xf : Nat → Nat)  : MI l yX8_count cX8_count 2 (some .int) rm_X8_count_10 D (TY cI cQ) [.ref o, .int (nI 10)] [(o, .inr (8, [.ref me, .ref kc, .ref tc, .ref rd, .ref tx, .ref tb, .ref hi])), (me, .inr (4, [.ref ml, .int (nI n), .int (nI e), .int (nI p), .int (nI b)])), (ml, .inl (cI, 40, .inl (fun j => nI (g j))))] (fun (r9 : Int32) (u : Unit) => r9 = (nI p) ∧ (True)) (fun (u : Unit) => [(o, .inr (8, [.ref me, .ref kc, .ref tc, .ref rd, .ref tx, .ref tb, .ref hi])), (me, .inr (4, [.ref ml, .int (nI n), .int (nI e), .int (nI p), .int (nI b)])), (ml, .inl (cI, 40, .inl (fun j => nI (g j))))]) 0 0 := by
  refine MI.start (by decide) (Nat.le_of_ble_eq_true rfl) (lv0 := [(0, .ref o), (1, .int (nI 10))]) rfl ?_
  intro pp9 ee9 ss9 mm9 args9 below9 meth9 co9 A9 Q9 hQ hC hr hlk hnm
  refine V_iload_n hC dX8_count_0 rfl 1 rfl ?_
  refine V_tblIn (tgt := 171) hC dX8_count_1 (by decide) (by decide) rfl (by decide) ?_
  refine V_aload_n hC dX8_count_171 rfl 0 rfl ?_
  refine V_get (ci := 8) (v := .ref me) hC in_X8 0 rfl cls_X8 0 (by decide) fl_X8_12 rfl dX8_count_172 ?_
  refine V_getN (ci := 4) (v := .int (nI p)) hC in_X4 1 rfl cls_X4 3 (by decide) fn_X8_102 rfl dX8_count_175 ?_
  subst hQ
  exact V_iret hC hr hlk rfl (by decide) (by decide) dX8_count_178 (()) [0, 1, 2] rfl (by decide) (⟨rfl, trivial⟩)
abbrev rm_X8_count_11 : Room := { frames := 0, cells := 0, slots := 0, locals := 0 }
set_option maxHeartbeats 4000000 in
set_option maxRecDepth 100000 in
theorem c_X8_count_11 (l : Launch) (D : va_G) (cI cQ : ClassId) (o me kc tc rd tx tb hi ml kco kcr ksp kbi kbr kcs hst txr n e p b kz kw kT kH kp kb kl ku kn sz xn : Nat) (g kF kg xf : Nat → Nat)  : MI l yX8_count cX8_count 2 (some .int) rm_X8_count_11 D (TY cI cQ) [.ref o, .int (nI 11)] [(o, .inr (8, [.ref me, .ref kc, .ref tc, .ref rd, .ref tx, .ref tb, .ref hi])), (me, .inr (4, [.ref ml, .int (nI n), .int (nI e), .int (nI p), .int (nI b)])), (ml, .inl (cI, 40, .inl (fun j => nI (g j))))] (fun (r9 : Int32) (u : Unit) => r9 = (nI b) ∧ (True)) (fun (u : Unit) => [(o, .inr (8, [.ref me, .ref kc, .ref tc, .ref rd, .ref tx, .ref tb, .ref hi])), (me, .inr (4, [.ref ml, .int (nI n), .int (nI e), .int (nI p), .int (nI b)])), (ml, .inl (cI, 40, .inl (fun j => nI (g j))))]) 0 0 := by
  refine MI.start (by decide) (Nat.le_of_ble_eq_true rfl) (lv0 := [(0, .ref o), (1, .int (nI 11))]) rfl ?_
  intro pp9 ee9 ss9 mm9 args9 below9 meth9 co9 A9 Q9 hQ hC hr hlk hnm
  refine V_iload_n hC dX8_count_0 rfl 1 rfl ?_
  refine V_tblIn (tgt := 179) hC dX8_count_1 (by decide) (by decide) rfl (by decide) ?_
  refine V_aload_n hC dX8_count_179 rfl 0 rfl ?_
  refine V_get (ci := 8) (v := .ref me) hC in_X8 0 rfl cls_X8 0 (by decide) fl_X8_12 rfl dX8_count_180 ?_
  refine V_getN (ci := 4) (v := .int (nI b)) hC in_X4 1 rfl cls_X4 4 (by decide) fn_X8_105 rfl dX8_count_183 ?_
  subst hQ
  exact V_iret hC hr hlk rfl (by decide) (by decide) dX8_count_186 (()) [0, 1, 2] rfl (by decide) (⟨rfl, trivial⟩)
abbrev rm_X8_count_7 : Room := { frames := 0, cells := 0, slots := 0, locals := 0 }
set_option maxHeartbeats 4000000 in
set_option maxRecDepth 100000 in
theorem c_X8_count_7 (l : Launch) (D : va_G) (cI cQ : ClassId) (o me kc tc rd tx tb hi ml n e p b : Nat) (g : Nat → Nat) (he : e < 2) : MI l yX8_count cX8_count 2 (some .int) rm_X8_count_7 D (TY cI cQ) [.ref o, .int (nI 7)] [(o, .inr (8, [.ref me, .ref kc, .ref tc, .ref rd, .ref tx, .ref tb, .ref hi])), (me, .inr (4, [.ref ml, .int (nI n), .int (nI e), .int (nI p), .int (nI b)])), (ml, .inl (cI, 40, .inl (fun j => nI (g j))))] (fun (r9 : Int32) (u : Unit) => r9 = (nI e) ∧ (True)) (fun (u : Unit) => [(o, .inr (8, [.ref me, .ref kc, .ref tc, .ref rd, .ref tx, .ref tb, .ref hi])), (me, .inr (4, [.ref ml, .int (nI n), .int (nI e), .int (nI p), .int (nI b)])), (ml, .inl (cI, 40, .inl (fun j => nI (g j))))]) 0 0 := by
  refine MI.start (by decide) (Nat.le_of_ble_eq_true rfl) (lv0 := [(0, .ref o), (1, .int (nI 7))]) rfl ?_
  intro pp9 ee9 ss9 mm9 args9 below9 meth9 co9 A9 Q9 hQ hC hr hlk hnm
  refine V_iload_n hC dX8_count_0 rfl 1 rfl ?_
  refine V_tblIn (tgt := 139) hC dX8_count_1 (by decide) (by decide) rfl (by decide) ?_
  refine V_aload_n hC dX8_count_139 rfl 0 rfl ?_
  refine V_get (ci := 8) (v := .ref me) hC in_X8 0 rfl cls_X8 0 (by decide) fl_X8_12 rfl dX8_count_140 ?_
  refine V_getN (ci := 4) (v := .int (nI e)) hC in_X4 1 rfl cls_X4 2 (by decide) fn_X8_58 rfl dX8_count_143 ?_
  refine V_if_eq (tgt := 153) hC (by omega) dX8_count_146 (by decide) (fun c146 => ?_) (fun c146 => ?_)
  · refine V_iconst (v := nI 0) hC dX8_count_153 (by decide) ?_
    refine V_st (st2 := [.int (nI e)]) (by rw [show (0) = (e) from (by omega)]) ?_
    subst hQ
    exact V_iret hC hr hlk rfl (by decide) (by decide) dX8_count_154 (()) [0, 1, 2] rfl (by decide) (⟨rfl, trivial⟩)
  · refine V_iconst (v := nI 1) hC dX8_count_149 (by decide) ?_
    refine V_goto (tgt := 154) hC dX8_count_150 (by decide) ?_
    refine V_st (st2 := [.int (nI e)]) (by rw [show (1) = (e) from (by omega)]) ?_
    subst hQ
    exact V_iret hC hr hlk rfl (by decide) (by decide) dX8_count_154 (()) [0, 1, 2] rfl (by decide) (⟨rfl, trivial⟩)
abbrev rm_X8_count_12 : Room := { frames := 2, cells := 0, slots := 0, locals := 43 }
set_option maxHeartbeats 4000000 in
set_option maxRecDepth 100000 in
theorem c_X8_count_12 (l : Launch) (D : va_G) (cI cQ : ClassId) (o me kc tc rd tx tb hi kco kcr ksp kbi kbr kcs kz kw : Nat) (kcf : Nat → Nat) (hz : kz ≤ 40) (hcf : ∀ j, j < kz → kcf j < 100000) : MI l yX8_count cX8_count 2 (some .int) rm_X8_count_12 D (TY cI cQ) [.ref o, .int (nI 12)] [(o, .inr (8, [.ref me, .ref kc, .ref tc, .ref rd, .ref tx, .ref tb, .ref hi])), (kc, .inr (1, [.ref kco, .ref ksp, .ref kbi, .ref kcs, .int (nI kz), .int (nI kw)])), (kcs, .inl (cI, 40, .inl (fun j => nI (kcf j))))] (fun (r9 : Int32) (u : Unit) => r9 = (nI (mxF kcf kz)) ∧ (True)) (fun (u : Unit) => [(o, .inr (8, [.ref me, .ref kc, .ref tc, .ref rd, .ref tx, .ref tb, .ref hi])), (kc, .inr (1, [.ref kco, .ref ksp, .ref kbi, .ref kcs, .int (nI kz), .int (nI kw)])), (kcs, .inl (cI, 40, .inl (fun j => nI (kcf j))))]) 0 0 := by
  refine MI.start (by decide) (Nat.le_of_ble_eq_true rfl) (lv0 := [(0, .ref o), (1, .int (nI 12))]) rfl ?_
  intro pp9 ee9 ss9 mm9 args9 below9 meth9 co9 A9 Q9 hQ hC hr hlk hnm
  refine V_iload_n hC dX8_count_0 rfl 1 rfl ?_
  refine V_tblIn (tgt := 187) hC dX8_count_1 (by decide) (by decide) rfl (by decide) ?_
  refine V_aload_n hC dX8_count_187 rfl 0 rfl ?_
  refine V_get (ci := 8) (v := .ref kc) hC in_X8 0 rfl cls_X8 1 (by decide) fl_X8_19 rfl dX8_count_188 ?_
  refine V_calliV (As := []) (rest := []) (wr := [(o, .inr (8, [.ref me, .ref kc, .ref tc, .ref rd, .ref tx, .ref tb, .ref hi]))]) hC (c_X1_dearest l D cI cQ kc kco ksp kbi kcs kz kw kcf (by omega) (hcf)) mok_X1_dearest ml_X8_155 (q1 := 0) rfl cls_X1 rfl rfl rfl (by decide) (by decide) (by decide) (Nat.le_of_ble_eq_true rfl) [1, 2] [0] rfl (by decide) rfl (by decide) (by decide) dX8_count_191 rfl (fun r9 u9 h191 => ?_)
  obtain ⟨rfl, h191⟩ := h191
  clear h191
  refine V_perm (ws2 := [(o, .inr (8, [.ref me, .ref kc, .ref tc, .ref rd, .ref tx, .ref tb, .ref hi])), (kc, .inr (1, [.ref kco, .ref ksp, .ref kbi, .ref kcs, .int (nI kz), .int (nI kw)])), (kcs, .inl (cI, 40, .inl (fun j => nI (kcf j))))]) [0, 1, 2] rfl (by decide) ?_
  subst hQ
  exact V_iret hC hr hlk rfl (by decide) (by decide) dX8_count_194 (()) [0, 1, 2] rfl (by decide) (⟨rfl, trivial⟩)
abbrev rm_X8_count_neg : Room := { frames := 0, cells := 0, slots := 0, locals := 0 }
set_option maxHeartbeats 4000000 in
set_option maxRecDepth 100000 in
theorem c_X8_count_neg (l : Launch) (D : va_G) (cI cQ : ClassId) (o me kc tc rd tx tb hi : Nat) (x : Int32) (hx : x.toInt < 0) : MI l yX8_count cX8_count 2 (some .int) rm_X8_count_neg D (TY cI cQ) [.ref o, .int (x)] [(o, .inr (8, [.ref me, .ref kc, .ref tc, .ref rd, .ref tx, .ref tb, .ref hi]))] (fun (r9 : Int32) (u : Unit) => r9 = (-1) ∧ (True)) (fun (u : Unit) => [(o, .inr (8, [.ref me, .ref kc, .ref tc, .ref rd, .ref tx, .ref tb, .ref hi]))]) 0 0 := by
  refine MI.start (by decide) (Nat.le_of_ble_eq_true rfl) (lv0 := [(0, .ref o), (1, .int (x))]) rfl ?_
  intro pp9 ee9 ss9 mm9 args9 below9 meth9 co9 A9 Q9 hQ hC hr hlk hnm
  refine V_iload_n hC dX8_count_0 rfl 1 rfl ?_
  refine V_tblOut (tgt := 195) hC dX8_count_1 (Or.inl hx) (by decide) ?_
  refine V_iconst (v := -1) hC dX8_count_195 (by decide) ?_
  subst hQ
  exact V_iret hC hr hlk rfl (by decide) (by decide) dX8_count_196 (()) [0] rfl (by decide) (⟨rfl, trivial⟩)
abbrev rm_X8_count_bad : Room := { frames := 0, cells := 0, slots := 0, locals := 0 }
set_option maxHeartbeats 4000000 in
set_option maxRecDepth 100000 in
theorem c_X8_count_bad (l : Launch) (D : va_G) (cI cQ : ClassId) (o me kc tc rd tx tb hi x : Nat) (hx : 13 ≤ x ∧ x < 2147483648) : MI l yX8_count cX8_count 2 (some .int) rm_X8_count_bad D (TY cI cQ) [.ref o, .int (nI x)] [(o, .inr (8, [.ref me, .ref kc, .ref tc, .ref rd, .ref tx, .ref tb, .ref hi]))] (fun (r9 : Int32) (u : Unit) => r9 = (-1) ∧ (True)) (fun (u : Unit) => [(o, .inr (8, [.ref me, .ref kc, .ref tc, .ref rd, .ref tx, .ref tb, .ref hi]))]) 0 0 := by
  refine MI.start (by decide) (Nat.le_of_ble_eq_true rfl) (lv0 := [(0, .ref o), (1, .int (nI x))]) rfl ?_
  intro pp9 ee9 ss9 mm9 args9 below9 meth9 co9 A9 Q9 hQ hC hr hlk hnm
  refine V_iload_n hC dX8_count_0 rfl 1 rfl ?_
  refine V_tblOut (tgt := 195) hC dX8_count_1 (Or.inr (by rw [nI_toInt (by omega)]; omega)) (by decide) ?_
  refine V_iconst (v := -1) hC dX8_count_195 (by decide) ?_
  subst hQ
  exact V_iret hC hr hlk rfl (by decide) (by decide) dX8_count_196 (()) [0] rfl (by decide) (⟨rfl, trivial⟩)
abbrev rm_X8_cost_neg : Room := { frames := 0, cells := 0, slots := 0, locals := 0 }
set_option maxHeartbeats 4000000 in
set_option maxRecDepth 100000 in
theorem c_X8_cost_neg (l : Launch) (D : va_G) (cI cQ : ClassId) (o me kc tc rd tx tb hi : Nat) (x : Int32) (hx : x.toInt < 0) : MI l yX8_cost cX8_cost 2 (some .int) rm_X8_cost_neg D (TY cI cQ) [.ref o, .int (x)] [(o, .inr (8, [.ref me, .ref kc, .ref tc, .ref rd, .ref tx, .ref tb, .ref hi]))] (fun (r9 : Int32) (u : Unit) => r9 = (-1) ∧ (True)) (fun (u : Unit) => [(o, .inr (8, [.ref me, .ref kc, .ref tc, .ref rd, .ref tx, .ref tb, .ref hi]))]) 0 0 := by
  refine MI.start (by decide) (Nat.le_of_ble_eq_true rfl) (lv0 := [(0, .ref o), (1, .int (x))]) rfl ?_
  intro pp9 ee9 ss9 mm9 args9 below9 meth9 co9 A9 Q9 hQ hC hr hlk hnm
  refine V_iload_n hC dX8_cost_0 rfl 1 rfl ?_
  refine V_if_ge_F (tgt := 6) hC dX8_cost_1 (by decide) (Int32.not_le.mpr (Int32.lt_iff_toInt_lt.mpr hx)) ?_
  refine V_iconst (v := -1) hC dX8_cost_4 (by decide) ?_
  subst hQ
  exact V_iret hC hr hlk rfl (by decide) (by decide) dX8_cost_5 (()) [0] rfl (by decide) (⟨rfl, trivial⟩)
abbrev rm_X8_cost_ok : Room := { frames := 1, cells := 0, slots := 0, locals := 21 }
set_option maxHeartbeats 4000000 in
set_option maxRecDepth 100000 in
theorem c_X8_cost_ok (l : Launch) (D : va_G) (cI cQ : ClassId) (o me kc tc rd tx tb hi ml kco kcr ksp kbi kbr kcs kz kw n e p b i : Nat) (g kcf : Nat → Nat) (hi9 : i < n) (hn : n ≤ 40) : MI l yX8_cost cX8_cost 2 (some .int) rm_X8_cost_ok D (TY cI cQ) [.ref o, .int (nI i)] [(o, .inr (8, [.ref me, .ref kc, .ref tc, .ref rd, .ref tx, .ref tb, .ref hi])), (me, .inr (4, [.ref ml, .int (nI n), .int (nI e), .int (nI p), .int (nI b)])), (ml, .inl (cI, 40, .inl (fun j => nI (g j)))), (kc, .inr (1, [.ref kco, .ref ksp, .ref kbi, .ref kcs, .int (nI kz), .int (nI kw)])), (kcs, .inl (cI, 40, .inl (fun j => nI (kcf j))))] (fun (r9 : Int32) (u : Unit) => r9 = (nI (kcf i)) ∧ (True)) (fun (u : Unit) => [(o, .inr (8, [.ref me, .ref kc, .ref tc, .ref rd, .ref tx, .ref tb, .ref hi])), (me, .inr (4, [.ref ml, .int (nI n), .int (nI e), .int (nI p), .int (nI b)])), (ml, .inl (cI, 40, .inl (fun j => nI (g j)))), (kc, .inr (1, [.ref kco, .ref ksp, .ref kbi, .ref kcs, .int (nI kz), .int (nI kw)])), (kcs, .inl (cI, 40, .inl (fun j => nI (kcf j))))]) 0 0 := by
  refine MI.start (by decide) (Nat.le_of_ble_eq_true rfl) (lv0 := [(0, .ref o), (1, .int (nI i))]) rfl ?_
  intro pp9 ee9 ss9 mm9 args9 below9 meth9 co9 A9 Q9 hQ hC hr hlk hnm
  refine V_iload_n hC dX8_cost_0 rfl 1 rfl ?_
  refine V_if_ge_T (tgt := 6) hC dX8_cost_1 (by decide) (nI_pos' (by omega)) ?_
  refine V_iload_n hC dX8_cost_6 rfl 1 rfl ?_
  refine V_aload_n hC dX8_cost_7 rfl 0 rfl ?_
  refine V_get (ci := 8) (v := .ref me) hC in_X8 0 rfl cls_X8 0 (by decide) fl_X8_12 rfl dX8_cost_8 ?_
  refine V_getN (ci := 4) (v := .int (nI n)) hC in_X4 1 rfl cls_X4 1 (by decide) fn_X8_62 rfl dX8_cost_11 ?_
  refine V_icmp_ge (tgt := 28) hC (by omega) (by omega) dX8_cost_14 (by decide) (fun c14 => ?_) (fun c14 => ?_)
  · exact False.elim (by omega)
  · refine V_aload_n hC dX8_cost_17 rfl 0 rfl ?_
    refine V_get (ci := 8) (v := .ref kc) hC in_X8 0 rfl cls_X8 1 (by decide) fl_X8_19 rfl dX8_cost_18 ?_
    refine V_iload_n hC dX8_cost_21 rfl 1 rfl ?_
    refine V_calliV (As := [.int (nI i)]) (rest := []) (wr := [(o, .inr (8, [.ref me, .ref kc, .ref tc, .ref rd, .ref tx, .ref tb, .ref hi])), (me, .inr (4, [.ref ml, .int (nI n), .int (nI e), .int (nI p), .int (nI b)])), (ml, .inl (cI, 40, .inl (fun j => nI (g j))))]) hC (c_X1_costAt l D cI cQ kc kco ksp kbi kcs kz kw i kcf (by omega)) mok_X1_costAt ml_X8_159 (q1 := 0) rfl cls_X1 rfl rfl rfl (by decide) (by decide) (by decide) (Nat.le_of_ble_eq_true rfl) [3, 4] [0, 1, 2] rfl (by decide) rfl (by decide) (by decide) dX8_cost_22 rfl (fun r9 u9 h22 => ?_)
    obtain ⟨rfl, h22⟩ := h22
    clear h22
    refine V_perm (ws2 := [(o, .inr (8, [.ref me, .ref kc, .ref tc, .ref rd, .ref tx, .ref tb, .ref hi])), (me, .inr (4, [.ref ml, .int (nI n), .int (nI e), .int (nI p), .int (nI b)])), (ml, .inl (cI, 40, .inl (fun j => nI (g j)))), (kc, .inr (1, [.ref kco, .ref ksp, .ref kbi, .ref kcs, .int (nI kz), .int (nI kw)])), (kcs, .inl (cI, 40, .inl (fun j => nI (kcf j))))]) [0, 1, 2, 3, 4] rfl (by decide) ?_
    refine V_goto (tgt := 30) hC dX8_cost_25 (by decide) ?_
    subst hQ
    exact V_iret hC hr hlk rfl (by decide) (by decide) dX8_cost_30 (()) [0, 1, 2, 3, 4] rfl (by decide) (⟨rfl, trivial⟩)
abbrev rm_X8_cost_no : Room := { frames := 0, cells := 0, slots := 0, locals := 0 }
set_option maxHeartbeats 4000000 in
set_option maxRecDepth 100000 in
theorem c_X8_cost_no (l : Launch) (D : va_G) (cI cQ : ClassId) (o me kc tc rd tx tb hi ml kco kcr ksp kbi kbr kcs kz kw n e p b i : Nat) (g kcf : Nat → Nat) (hi9 : n ≤ i ∧ i < 2147483648) : MI l yX8_cost cX8_cost 2 (some .int) rm_X8_cost_no D (TY cI cQ) [.ref o, .int (nI i)] [(o, .inr (8, [.ref me, .ref kc, .ref tc, .ref rd, .ref tx, .ref tb, .ref hi])), (me, .inr (4, [.ref ml, .int (nI n), .int (nI e), .int (nI p), .int (nI b)])), (ml, .inl (cI, 40, .inl (fun j => nI (g j)))), (kc, .inr (1, [.ref kco, .ref ksp, .ref kbi, .ref kcs, .int (nI kz), .int (nI kw)])), (kcs, .inl (cI, 40, .inl (fun j => nI (kcf j))))] (fun (r9 : Int32) (u : Unit) => r9 = (-4) ∧ (True)) (fun (u : Unit) => [(o, .inr (8, [.ref me, .ref kc, .ref tc, .ref rd, .ref tx, .ref tb, .ref hi])), (me, .inr (4, [.ref ml, .int (nI n), .int (nI e), .int (nI p), .int (nI b)])), (ml, .inl (cI, 40, .inl (fun j => nI (g j)))), (kc, .inr (1, [.ref kco, .ref ksp, .ref kbi, .ref kcs, .int (nI kz), .int (nI kw)])), (kcs, .inl (cI, 40, .inl (fun j => nI (kcf j))))]) 0 0 := by
  refine MI.start (by decide) (Nat.le_of_ble_eq_true rfl) (lv0 := [(0, .ref o), (1, .int (nI i))]) rfl ?_
  intro pp9 ee9 ss9 mm9 args9 below9 meth9 co9 A9 Q9 hQ hC hr hlk hnm
  refine V_iload_n hC dX8_cost_0 rfl 1 rfl ?_
  refine V_if_ge_T (tgt := 6) hC dX8_cost_1 (by decide) (nI_pos' (by omega)) ?_
  refine V_iload_n hC dX8_cost_6 rfl 1 rfl ?_
  refine V_aload_n hC dX8_cost_7 rfl 0 rfl ?_
  refine V_get (ci := 8) (v := .ref me) hC in_X8 0 rfl cls_X8 0 (by decide) fl_X8_12 rfl dX8_cost_8 ?_
  refine V_getN (ci := 4) (v := .int (nI n)) hC in_X4 1 rfl cls_X4 1 (by decide) fn_X8_62 rfl dX8_cost_11 ?_
  refine V_icmp_ge (tgt := 28) hC (by omega) (by omega) dX8_cost_14 (by decide) (fun c14 => ?_) (fun c14 => ?_)
  · refine V_bipush (v := -4) hC dX8_cost_28 (by decide) ?_
    subst hQ
    exact V_iret hC hr hlk rfl (by decide) (by decide) dX8_cost_30 (()) [0, 1, 2, 3, 4] rfl (by decide) (⟨rfl, trivial⟩)
  · exact False.elim (by omega)
abbrev rm_X8_bitsBy_neg : Room := { frames := 1, cells := 0, slots := 0, locals := 20 }
set_option maxHeartbeats 4000000 in
set_option maxRecDepth 100000 in
theorem c_X8_bitsBy_neg (l : Launch) (D : va_G) (cI cQ : ClassId) (o me kc tc rd tx tb hi : Nat) (x : Int32) (hx : x.toInt < 0) : MI l yX8_bitsBy cX8_bitsBy 2 (some .int) rm_X8_bitsBy_neg D (TY cI cQ) [.ref o, .int (x)] [(o, .inr (8, [.ref me, .ref kc, .ref tc, .ref rd, .ref tx, .ref tb, .ref hi]))] (fun (r9 : Int32) (u : Unit) => r9 = (-1) ∧ (True)) (fun (u : Unit) => [(o, .inr (8, [.ref me, .ref kc, .ref tc, .ref rd, .ref tx, .ref tb, .ref hi]))]) 0 0 := by
  refine MI.start (by decide) (Nat.le_of_ble_eq_true rfl) (lv0 := [(0, .ref o), (1, .int (x))]) rfl ?_
  intro pp9 ee9 ss9 mm9 args9 below9 meth9 co9 A9 Q9 hQ hC hr hlk hnm
  refine V_iload_n hC dX8_bitsBy_0 rfl 1 rfl ?_
  refine V_calliS (As := [.int (x)]) (rest := []) (wr := [(o, .inr (8, [.ref me, .ref kc, .ref tc, .ref rd, .ref tx, .ref tb, .ref hi]))]) hC (c_X8_isPace_neg l D cI cQ x (hx)) mok_X8_isPace ml_X8_162 rfl rfl rfl (by decide) (by decide) (by decide) (Nat.le_of_ble_eq_true rfl) [] [0] rfl (by decide) rfl (by decide) (by decide) dX8_bitsBy_1 rfl (fun r9 u9 h1 => ?_)
  obtain ⟨rfl, h1⟩ := h1
  clear h1
  refine V_perm (ws2 := [(o, .inr (8, [.ref me, .ref kc, .ref tc, .ref rd, .ref tx, .ref tb, .ref hi]))]) [0] rfl (by decide) ?_
  refine V_if_ne_F (tgt := 9) hC dX8_bitsBy_4 (by decide) ((congrArg nI (show 0 = 0 by omega)).trans nI_0) ?_
  refine V_iconst (v := -1) hC dX8_bitsBy_7 (by decide) ?_
  subst hQ
  exact V_iret hC hr hlk rfl (by decide) (by decide) dX8_bitsBy_8 (()) [0] rfl (by decide) (⟨rfl, trivial⟩)
abbrev rm_X8_bitsBy_bad : Room := { frames := 1, cells := 0, slots := 0, locals := 20 }
set_option maxHeartbeats 4000000 in
set_option maxRecDepth 100000 in
theorem c_X8_bitsBy_bad (l : Launch) (D : va_G) (cI cQ : ClassId) (o me kc tc rd tx tb hi q : Nat) (hq9 : (q < 1 ∨ 64 < q) ∧ q < 2147483648) : MI l yX8_bitsBy cX8_bitsBy 2 (some .int) rm_X8_bitsBy_bad D (TY cI cQ) [.ref o, .int (nI q)] [(o, .inr (8, [.ref me, .ref kc, .ref tc, .ref rd, .ref tx, .ref tb, .ref hi]))] (fun (r9 : Int32) (u : Unit) => r9 = (-1) ∧ (True)) (fun (u : Unit) => [(o, .inr (8, [.ref me, .ref kc, .ref tc, .ref rd, .ref tx, .ref tb, .ref hi]))]) 0 0 := by
  refine MI.start (by decide) (Nat.le_of_ble_eq_true rfl) (lv0 := [(0, .ref o), (1, .int (nI q))]) rfl ?_
  intro pp9 ee9 ss9 mm9 args9 below9 meth9 co9 A9 Q9 hQ hC hr hlk hnm
  refine V_iload_n hC dX8_bitsBy_0 rfl 1 rfl ?_
  refine V_calliS (As := [.int (nI q)]) (rest := []) (wr := [(o, .inr (8, [.ref me, .ref kc, .ref tc, .ref rd, .ref tx, .ref tb, .ref hi]))]) hC (c_X8_isPace l D cI cQ q (by omega)) mok_X8_isPace ml_X8_162 rfl rfl rfl (by decide) (by decide) (by decide) (Nat.le_of_ble_eq_true rfl) [] [0] rfl (by decide) rfl (by decide) (by decide) dX8_bitsBy_1 rfl (fun r9 u9 h1 => ?_)
  obtain ⟨u_1, rfl⟩ : ∃ z, z = u9 := ⟨_, rfl⟩
  obtain ⟨rfl, h1⟩ := h1
  have h1 : (u_1 = 1 ∧ 1 ≤ q ∧ q ≤ 64) ∨ (u_1 = 0 ∧ (q < 1 ∨ 64 < q)) := h1
  refine V_perm (ws2 := [(o, .inr (8, [.ref me, .ref kc, .ref tc, .ref rd, .ref tx, .ref tb, .ref hi]))]) [0] rfl (by decide) ?_
  refine V_if_ne (tgt := 9) hC (by omega) dX8_bitsBy_4 (by decide) (fun c4 => ?_) (fun c4 => ?_)
  · exact False.elim (by omega)
  · refine V_iconst (v := -1) hC dX8_bitsBy_7 (by decide) ?_
    subst hQ
    exact V_iret hC hr hlk rfl (by decide) (by decide) dX8_bitsBy_8 (()) [0] rfl (by decide) (⟨rfl, trivial⟩)
abbrev rm_X8_bitsBy_ok : Room := { frames := 6, cells := 0, slots := 0, locals := 138 }
set_option maxHeartbeats 4000000 in
set_option maxRecDepth 100000 in
theorem c_X8_bitsBy_ok (l : Launch) (D : va_G) (cI cQ : ClassId) (o me kc tc rd tx tb hi ml tco tcr tsp tbi tbr tcs tz tw tT tH tp tb2 tl tu tn n e p b q : Nat) (g tF tg tcf : Nat → Nat) (hq9 : 1 ≤ q ∧ q ≤ 64) (hn : n ≤ 40) (hg : ∀ j, j < n → g j < 8) (hb : b ≤ 2000) : MI l yX8_bitsBy cX8_bitsBy 2 (some .int) rm_X8_bitsBy_ok D (TY cI cQ) [.ref o, .int (nI q)] [(o, .inr (8, [.ref me, .ref kc, .ref tc, .ref rd, .ref tx, .ref tb, .ref hi])), (me, .inr (4, [.ref ml, .int (nI n), .int (nI e), .int (nI p), .int (nI b)])), (ml, .inl (cI, 40, .inl (fun j => nI (g j)))), (tc, .inr (1, [.ref tco, .ref tsp, .ref tbi, .ref tcs, .int (nI tz), .int (nI tw)])), (tco, .inr (2, [.ref tcr, .int (nI tT), .int (nI tH), .int (nI tp), .int (nI tb2)])), (tcr, .inl (cI, 9, .inl (fun j => nI (tF j)))), (tsp, .inr (6, [.int (nI tl), .int (nI tu)])), (tbi, .inr (0, [.ref tbr, .int (nI tn)])), (tbr, .inl (cI, 658, .inl (fun j => nI (tg j)))), (tcs, .inl (cI, 40, .inl (fun j => nI (tcf j))))] (fun (r9 : Int32) (u : (Nat) × (Nat) × (Nat → Nat) × (Nat) × (Nat) × (Nat) × (Nat) × (Nat) × (Nat) × (Nat) × (Nat → Nat) × (Nat → Nat)) => r9 = (nI (bE q b g n)) ∧ (True)) (fun (u : (Nat) × (Nat) × (Nat → Nat) × (Nat) × (Nat) × (Nat) × (Nat) × (Nat) × (Nat) × (Nat) × (Nat → Nat) × (Nat → Nat)) => [(o, .inr (8, [.ref me, .ref kc, .ref tc, .ref rd, .ref tx, .ref tb, .ref hi])), (me, .inr (4, [.ref ml, .int (nI n), .int (nI e), .int (nI p), .int (nI b)])), (ml, .inl (cI, 40, .inl (fun j => nI (g j)))), (tc, .inr (1, [.ref tco, .ref tsp, .ref tbi, .ref tcs, .int (nI (u.1)), .int (nI (u.2.1))])), (tco, .inr (2, [.ref tcr, .int (nI (u.2.2.2.1)), .int (nI (u.2.2.2.2.1)), .int (nI (u.2.2.2.2.2.1)), .int (nI (u.2.2.2.2.2.2.1))])), (tcr, .inl (cI, 9, .inl (fun j => nI (u.2.2.1 j)))), (tsp, .inr (6, [.int (nI (u.2.2.2.2.2.2.2.1)), .int (nI (u.2.2.2.2.2.2.2.2.1))])), (tbi, .inr (0, [.ref tbr, .int (nI (u.2.2.2.2.2.2.2.2.2.1))])), (tbr, .inl (cI, 658, .inl (fun j => nI (u.2.2.2.2.2.2.2.2.2.2.1 j)))), (tcs, .inl (cI, 40, .inl (fun j => nI (u.2.2.2.2.2.2.2.2.2.2.2 j))))]) 0 0 := by
  refine MI.start (by decide) (Nat.le_of_ble_eq_true rfl) (lv0 := [(0, .ref o), (1, .int (nI q))]) rfl ?_
  intro pp9 ee9 ss9 mm9 args9 below9 meth9 co9 A9 Q9 hQ hC hr hlk hnm
  refine V_iload_n hC dX8_bitsBy_0 rfl 1 rfl ?_
  refine V_calliS (As := [.int (nI q)]) (rest := []) (wr := [(o, .inr (8, [.ref me, .ref kc, .ref tc, .ref rd, .ref tx, .ref tb, .ref hi])), (me, .inr (4, [.ref ml, .int (nI n), .int (nI e), .int (nI p), .int (nI b)])), (ml, .inl (cI, 40, .inl (fun j => nI (g j)))), (tc, .inr (1, [.ref tco, .ref tsp, .ref tbi, .ref tcs, .int (nI tz), .int (nI tw)])), (tco, .inr (2, [.ref tcr, .int (nI tT), .int (nI tH), .int (nI tp), .int (nI tb2)])), (tcr, .inl (cI, 9, .inl (fun j => nI (tF j)))), (tsp, .inr (6, [.int (nI tl), .int (nI tu)])), (tbi, .inr (0, [.ref tbr, .int (nI tn)])), (tbr, .inl (cI, 658, .inl (fun j => nI (tg j)))), (tcs, .inl (cI, 40, .inl (fun j => nI (tcf j))))]) hC (c_X8_isPace l D cI cQ q (by omega)) mok_X8_isPace ml_X8_162 rfl rfl rfl (by decide) (by decide) (by decide) (Nat.le_of_ble_eq_true rfl) [] [0, 1, 2, 3, 4, 5, 6, 7, 8, 9] rfl (by decide) rfl (by decide) (by decide) dX8_bitsBy_1 rfl (fun r9 u9 h1 => ?_)
  obtain ⟨u_1, rfl⟩ : ∃ z, z = u9 := ⟨_, rfl⟩
  obtain ⟨rfl, h1⟩ := h1
  have h1 : (u_1 = 1 ∧ 1 ≤ q ∧ q ≤ 64) ∨ (u_1 = 0 ∧ (q < 1 ∨ 64 < q)) := h1
  refine V_perm (ws2 := [(o, .inr (8, [.ref me, .ref kc, .ref tc, .ref rd, .ref tx, .ref tb, .ref hi])), (me, .inr (4, [.ref ml, .int (nI n), .int (nI e), .int (nI p), .int (nI b)])), (ml, .inl (cI, 40, .inl (fun j => nI (g j)))), (tc, .inr (1, [.ref tco, .ref tsp, .ref tbi, .ref tcs, .int (nI tz), .int (nI tw)])), (tco, .inr (2, [.ref tcr, .int (nI tT), .int (nI tH), .int (nI tp), .int (nI tb2)])), (tcr, .inl (cI, 9, .inl (fun j => nI (tF j)))), (tsp, .inr (6, [.int (nI tl), .int (nI tu)])), (tbi, .inr (0, [.ref tbr, .int (nI tn)])), (tbr, .inl (cI, 658, .inl (fun j => nI (tg j)))), (tcs, .inl (cI, 40, .inl (fun j => nI (tcf j))))]) [0, 1, 2, 3, 4, 5, 6, 7, 8, 9] rfl (by decide) ?_
  refine V_if_ne (tgt := 9) hC (by omega) dX8_bitsBy_4 (by decide) (fun c4 => ?_) (fun c4 => ?_)
  · refine V_aload_n hC dX8_bitsBy_9 rfl 0 rfl ?_
    refine V_iload_n hC dX8_bitsBy_10 rfl 1 rfl ?_
    refine V_calliV (As := [.int (nI q)]) (rest := []) (wr := []) hC (c_X8_bitsEnded l D cI cQ o me kc tc rd tx tb hi ml tco tcr tsp tbi tbr tcs tz tw tT tH tp tb2 tl tu tn n e p b q g tF tg tcf (by omega) (hg) (by omega) (by omega)) mok_X8_bitsEnded ml_X8_165 (q1 := 0) rfl cls_X8 rfl rfl rfl (by decide) (by decide) (by decide) (Nat.le_of_ble_eq_true rfl) [0, 1, 2, 3, 4, 5, 6, 7, 8, 9] [] rfl (by decide) rfl (by decide) (by decide) dX8_bitsBy_11 rfl (fun r9 u9 h11 => ?_)
    obtain ⟨tg2_2, tcf2_3⟩ := u9
    obtain ⟨rfl, h11⟩ := h11
    clear h11
    refine V_perm (ws2 := [(o, .inr (8, [.ref me, .ref kc, .ref tc, .ref rd, .ref tx, .ref tb, .ref hi])), (me, .inr (4, [.ref ml, .int (nI n), .int (nI e), .int (nI p), .int (nI b)])), (ml, .inl (cI, 40, .inl (fun j => nI (g j)))), (tc, .inr (1, [.ref tco, .ref tsp, .ref tbi, .ref tcs, .int (nI n), .int (nI (sW (cEnd (cR q b g n))))])), (tco, .inr (2, [.ref tcr, .int (nI (sT (cEnd (cR q b g n)))), .int (nI (sH (cEnd (cR q b g n)))), .int (nI q), .int (nI b)])), (tcr, .inl (cI, 9, .inl (fun j => nI ((sF (cEnd (cR q b g n))) j)))), (tsp, .inr (6, [.int (nI (sL (cEnd (cR q b g n)))), .int (nI (sU (cEnd (cR q b g n))))])), (tbi, .inr (0, [.ref tbr, .int (nI ((sB (cEnd (cR q b g n))).length))])), (tbr, .inl (cI, 658, .inl (fun j => nI (tg2_2 j)))), (tcs, .inl (cI, 40, .inl (fun j => nI (tcf2_3 j))))]) [0, 1, 2, 3, 4, 5, 6, 7, 8, 9] rfl (by decide) ?_
    subst hQ
    exact V_iret hC hr hlk rfl (by decide) (by decide) dX8_bitsBy_14 ((n, sW (cEnd (cR q b g n)), sF (cEnd (cR q b g n)), sT (cEnd (cR q b g n)), sH (cEnd (cR q b g n)), q, b, sL (cEnd (cR q b g n)), sU (cEnd (cR q b g n)), (sB (cEnd (cR q b g n))).length, tg2_2, tcf2_3)) [0, 1, 2, 3, 4, 5, 6, 7, 8, 9] rfl (by decide) (⟨rfl, trivial⟩)
  · exact False.elim (by omega)
abbrev rm_X8_bestPace : Room := { frames := 6, cells := 0, slots := 0, locals := 138 }
set_option maxHeartbeats 4000000 in
set_option maxRecDepth 100000 in
theorem c_X8_bestPace (l : Launch) (D : va_G) (cI cQ : ClassId) (o me kc tc rd tx tb hi ml tco tcr tsp tbi tbr tcs tz tw tT tH tp tb2 tl tu tn n e p b : Nat) (g tF tg tcf : Nat → Nat) (hn : n ≤ 40) (hg : ∀ j, j < n → g j < 8) (hb : b ≤ 2000) : MI l yX8_bestPace cX8_bestPace 5 (some .int) rm_X8_bestPace D (TY cI cQ) [.ref o] [(o, .inr (8, [.ref me, .ref kc, .ref tc, .ref rd, .ref tx, .ref tb, .ref hi])), (me, .inr (4, [.ref ml, .int (nI n), .int (nI e), .int (nI p), .int (nI b)])), (ml, .inl (cI, 40, .inl (fun j => nI (g j)))), (tc, .inr (1, [.ref tco, .ref tsp, .ref tbi, .ref tcs, .int (nI tz), .int (nI tw)])), (tco, .inr (2, [.ref tcr, .int (nI tT), .int (nI tH), .int (nI tp), .int (nI tb2)])), (tcr, .inl (cI, 9, .inl (fun j => nI (tF j)))), (tsp, .inr (6, [.int (nI tl), .int (nI tu)])), (tbi, .inr (0, [.ref tbr, .int (nI tn)])), (tbr, .inl (cI, 658, .inl (fun j => nI (tg j)))), (tcs, .inl (cI, 40, .inl (fun j => nI (tcf j))))] (fun (r9 : Int32) (u : (Nat) × (Nat) × (Nat → Nat) × (Nat) × (Nat) × (Nat) × (Nat) × (Nat) × (Nat) × (Nat) × (Nat → Nat) × (Nat → Nat)) => r9 = (nI ((bp (fun q => bE q b g n) 63).1)) ∧ (True)) (fun (u : (Nat) × (Nat) × (Nat → Nat) × (Nat) × (Nat) × (Nat) × (Nat) × (Nat) × (Nat) × (Nat) × (Nat → Nat) × (Nat → Nat)) => [(o, .inr (8, [.ref me, .ref kc, .ref tc, .ref rd, .ref tx, .ref tb, .ref hi])), (me, .inr (4, [.ref ml, .int (nI n), .int (nI e), .int (nI p), .int (nI b)])), (ml, .inl (cI, 40, .inl (fun j => nI (g j)))), (tc, .inr (1, [.ref tco, .ref tsp, .ref tbi, .ref tcs, .int (nI (u.1)), .int (nI (u.2.1))])), (tco, .inr (2, [.ref tcr, .int (nI (u.2.2.2.1)), .int (nI (u.2.2.2.2.1)), .int (nI (u.2.2.2.2.2.1)), .int (nI (u.2.2.2.2.2.2.1))])), (tcr, .inl (cI, 9, .inl (fun j => nI (u.2.2.1 j)))), (tsp, .inr (6, [.int (nI (u.2.2.2.2.2.2.2.1)), .int (nI (u.2.2.2.2.2.2.2.2.1))])), (tbi, .inr (0, [.ref tbr, .int (nI (u.2.2.2.2.2.2.2.2.2.1))])), (tbr, .inl (cI, 658, .inl (fun j => nI (u.2.2.2.2.2.2.2.2.2.2.1 j)))), (tcs, .inl (cI, 40, .inl (fun j => nI (u.2.2.2.2.2.2.2.2.2.2.2 j))))]) 0 0 := by
  refine MI.start (by decide) (Nat.le_of_ble_eq_true rfl) (lv0 := [(0, .ref o)]) rfl ?_
  intro pp9 ee9 ss9 mm9 args9 below9 meth9 co9 A9 Q9 hQ hC hr hlk hnm
  have hbe : ∀ q, bE q b g n ≤ 658 := fun q => bE_le q b g hn
  refine V_iconst (v := nI 1) hC dX8_bestPace_0 (by decide) ?_
  refine V_istore_n (lv2 := [(0, .ref o), (1, .int (nI 1))]) hC dX8_bestPace_1 rfl (by decide) [1, 0] rfl ?_
  refine V_aload_n hC dX8_bestPace_2 rfl 0 rfl ?_
  refine V_iload_n hC dX8_bestPace_3 rfl 1 rfl ?_
  refine V_calliV (As := [.int (nI 1)]) (rest := []) (wr := []) hC (c_X8_bitsEnded l D cI cQ o me kc tc rd tx tb hi ml tco tcr tsp tbi tbr tcs tz tw tT tH tp tb2 tl tu tn n e p b 1 g tF tg tcf (by omega) (hg) (by omega) (by omega)) mok_X8_bitsEnded ml_X8_165 (q1 := 0) rfl cls_X8 rfl rfl rfl (by decide) (by decide) (by decide) (Nat.le_of_ble_eq_true rfl) [0, 1, 2, 3, 4, 5, 6, 7, 8, 9] [] rfl (by decide) rfl (by decide) (by decide) dX8_bestPace_4 rfl (fun r9 u9 h4 => ?_)
  obtain ⟨tg2_1, tcf2_2⟩ := u9
  obtain ⟨rfl, h4⟩ := h4
  clear h4
  refine V_perm (ws2 := [(o, .inr (8, [.ref me, .ref kc, .ref tc, .ref rd, .ref tx, .ref tb, .ref hi])), (me, .inr (4, [.ref ml, .int (nI n), .int (nI e), .int (nI p), .int (nI b)])), (ml, .inl (cI, 40, .inl (fun j => nI (g j)))), (tc, .inr (1, [.ref tco, .ref tsp, .ref tbi, .ref tcs, .int (nI n), .int (nI (sW (cEnd (cR 1 b g n))))])), (tco, .inr (2, [.ref tcr, .int (nI (sT (cEnd (cR 1 b g n)))), .int (nI (sH (cEnd (cR 1 b g n)))), .int (nI 1), .int (nI b)])), (tcr, .inl (cI, 9, .inl (fun j => nI ((sF (cEnd (cR 1 b g n))) j)))), (tsp, .inr (6, [.int (nI (sL (cEnd (cR 1 b g n)))), .int (nI (sU (cEnd (cR 1 b g n))))])), (tbi, .inr (0, [.ref tbr, .int (nI ((sB (cEnd (cR 1 b g n))).length))])), (tbr, .inl (cI, 658, .inl (fun j => nI (tg2_1 j)))), (tcs, .inl (cI, 40, .inl (fun j => nI (tcf2_2 j))))]) [0, 1, 2, 3, 4, 5, 6, 7, 8, 9] rfl (by decide) ?_
  refine V_istore_n (lv2 := [(0, .ref o), (1, .int (nI 1)), (2, .int (nI (bE 1 b g n)))]) hC dX8_bestPace_7 rfl (by decide) [1, 2, 0] rfl ?_
  refine V_iconst (v := nI 2) hC dX8_bestPace_8 (by decide) ?_
  refine V_istore_n (lv2 := [(0, .ref o), (1, .int (nI 1)), (2, .int (nI (bE 1 b g n))), (3, .int (nI 2))]) hC dX8_bestPace_9 rfl (by decide) [1, 2, 3, 0] rfl ?_
  have L10 : ∀ (n9 : Nat) (i : Nat) (be : Nat) (fe : Nat) (tz2 : Nat) (tw2 : Nat) (tF2 : Nat → Nat) (tT2 : Nat) (tH2 : Nat) (tp2 : Nat) (tb3 : Nat) (tl2 : Nat) (tu2 : Nat) (tn2 : Nat) (tg2 : Nat → Nat) (tcf2 : Nat → Nat), (2 ≤ i ∧ i ≤ 65) → ((be, fe) = bp (fun q => bE q b g n) (i - 2)) → (be ≤ 64 ∧ fe ≤ 658) → 65 - i < n9 → V pp9 l ee9 rm_X8_bestPace ss9 mm9 args9 below9 meth9 co9 D A9 ss9.heap 5 Q9 [(o, .inr (8, [.ref me, .ref kc, .ref tc, .ref rd, .ref tx, .ref tb, .ref hi])), (me, .inr (4, [.ref ml, .int (nI n), .int (nI e), .int (nI p), .int (nI b)])), (ml, .inl (cI, 40, .inl (fun j => nI (g j)))), (tc, .inr (1, [.ref tco, .ref tsp, .ref tbi, .ref tcs, .int (nI tz2), .int (nI tw2)])), (tco, .inr (2, [.ref tcr, .int (nI tT2), .int (nI tH2), .int (nI tp2), .int (nI tb3)])), (tcr, .inl (cI, 9, .inl (fun j => nI (tF2 j)))), (tsp, .inr (6, [.int (nI tl2), .int (nI tu2)])), (tbi, .inr (0, [.ref tbr, .int (nI tn2)])), (tbr, .inl (cI, 658, .inl (fun j => nI (tg2 j)))), (tcs, .inl (cI, 40, .inl (fun j => nI (tcf2 j))))] [(0, .ref o), (1, .int (nI be)), (2, .int (nI fe)), (3, .int (nI i))] 0 0 10 [] := by
    intro n9
    induction n9 with
    | zero => intro i be fe tz2 tw2 tF2 tT2 tH2 tp2 tb3 tl2 tu2 tn2 tg2 tcf2 h1 h2 h3 h9; exact absurd h9 (Nat.not_lt_zero _)
    | succ n9 ih10 =>
      intro i be fe tz2 tw2 tF2 tT2 tH2 tp2 tb3 tl2 tu2 tn2 tg2 tcf2 h1 h2 h3 h9
      refine V_iload_n hC dX8_bestPace_10 rfl 3 rfl ?_
      refine V_bipush (v := nI 64) hC dX8_bestPace_11 (by decide) ?_
      refine V_icmp_gt (tgt := 40) hC (by omega) (by omega) dX8_bestPace_13 (by decide) (fun c13 => ?_) (fun c13 => ?_)
      · refine V_iload_n hC dX8_bestPace_40 rfl 1 rfl ?_
        subst hQ
        exact V_iret hC hr hlk rfl (by decide) (by decide) dX8_bestPace_41 ((tz2, tw2, tF2, tT2, tH2, tp2, tb3, tl2, tu2, tn2, tg2, tcf2)) [0, 1, 2, 3, 4, 5, 6, 7, 8, 9] rfl (by decide) (⟨by rw [show i - 2 = 63 by omega] at h2; rw [← h2], trivial⟩)
      · refine V_aload_n hC dX8_bestPace_16 rfl 0 rfl ?_
        refine V_iload_n hC dX8_bestPace_17 rfl 3 rfl ?_
        refine V_calliV (As := [.int (nI i)]) (rest := []) (wr := []) hC (c_X8_bitsEnded l D cI cQ o me kc tc rd tx tb hi ml tco tcr tsp tbi tbr tcs tz2 tw2 tT2 tH2 tp2 tb3 tl2 tu2 tn2 n e p b i g tF2 tg2 tcf2 (by omega) (hg) (by omega) (by omega)) mok_X8_bitsEnded ml_X8_165 (q1 := 0) rfl cls_X8 rfl rfl rfl (by decide) (by decide) (by decide) (Nat.le_of_ble_eq_true rfl) [0, 1, 2, 3, 4, 5, 6, 7, 8, 9] [] rfl (by decide) rfl (by decide) (by decide) dX8_bestPace_18 rfl (fun r9 u9 h18 => ?_)
        obtain ⟨tg2_3, tcf2_4⟩ := u9
        obtain ⟨rfl, h18⟩ := h18
        clear h18
        refine V_perm (ws2 := [(o, .inr (8, [.ref me, .ref kc, .ref tc, .ref rd, .ref tx, .ref tb, .ref hi])), (me, .inr (4, [.ref ml, .int (nI n), .int (nI e), .int (nI p), .int (nI b)])), (ml, .inl (cI, 40, .inl (fun j => nI (g j)))), (tc, .inr (1, [.ref tco, .ref tsp, .ref tbi, .ref tcs, .int (nI n), .int (nI (sW (cEnd (cR i b g n))))])), (tco, .inr (2, [.ref tcr, .int (nI (sT (cEnd (cR i b g n)))), .int (nI (sH (cEnd (cR i b g n)))), .int (nI i), .int (nI b)])), (tcr, .inl (cI, 9, .inl (fun j => nI ((sF (cEnd (cR i b g n))) j)))), (tsp, .inr (6, [.int (nI (sL (cEnd (cR i b g n)))), .int (nI (sU (cEnd (cR i b g n))))])), (tbi, .inr (0, [.ref tbr, .int (nI ((sB (cEnd (cR i b g n))).length))])), (tbr, .inl (cI, 658, .inl (fun j => nI (tg2_3 j)))), (tcs, .inl (cI, 40, .inl (fun j => nI (tcf2_4 j))))]) [0, 1, 2, 3, 4, 5, 6, 7, 8, 9] rfl (by decide) ?_
        have hb3 := hbe i
        refine V_istore (lv2 := [(0, .ref o), (1, .int (nI be)), (2, .int (nI fe)), (3, .int (nI i)), (4, .int (nI (bE i b g n)))]) hC dX8_bestPace_21 (by decide) [1, 2, 3, 4, 0] rfl ?_
        refine V_iload hC dX8_bestPace_23 4 rfl ?_
        refine V_iload_n hC dX8_bestPace_25 rfl 2 rfl ?_
        refine V_icmp_ge (tgt := 34) hC (by omega) (by omega) dX8_bestPace_26 (by decide) (fun c26 => ?_) (fun c26 => ?_)
        · refine V_iinc (v := (nI (i + 1))) (lv2 := [(0, .ref o), (1, .int (nI be)), (2, .int (nI fe)), (3, .int (nI (i + 1))), (4, .int (nI (bE i b g n)))]) (q := 3) hC dX8_bestPace_34 rfl (nI_add _ _) (by decide) [1, 2, 3, 0, 4] rfl ?_
          refine V_goto (tgt := 10) hC dX8_bestPace_37 (by decide) ?_
          refine V_pick (lv2 := [(0, .ref o), (1, .int (nI be)), (2, .int (nI fe)), (3, .int (nI ((i + 1))))]) [0, 1, 2, 3] rfl ?_
          exact ih10 (i + 1) be fe n (sW (cEnd (cR i b g n))) (sF (cEnd (cR i b g n))) (sT (cEnd (cR i b g n))) (sH (cEnd (cR i b g n))) i b (sL (cEnd (cR i b g n))) (sU (cEnd (cR i b g n))) ((sB (cEnd (cR i b g n))).length) tg2_3 tcf2_4 (by omega) (by rw [show i + 1 - 2 = (i - 2) + 1 by omega, bp, ← h2, show i - 2 + 2 = i by omega, if_neg (show ¬ bE i b g n < fe by omega)]) (by omega) (by omega)
        · refine V_iload hC dX8_bestPace_29 4 rfl ?_
          refine V_istore_n (lv2 := [(0, .ref o), (1, .int (nI be)), (2, .int (nI (bE i b g n))), (3, .int (nI i)), (4, .int (nI (bE i b g n)))]) hC dX8_bestPace_31 rfl (by decide) [1, 2, 0, 3, 4] rfl ?_
          refine V_iload_n hC dX8_bestPace_32 rfl 3 rfl ?_
          refine V_istore_n (lv2 := [(0, .ref o), (1, .int (nI i)), (2, .int (nI (bE i b g n))), (3, .int (nI i)), (4, .int (nI (bE i b g n)))]) hC dX8_bestPace_33 rfl (by decide) [1, 0, 2, 3, 4] rfl ?_
          refine V_iinc (v := (nI (i + 1))) (lv2 := [(0, .ref o), (1, .int (nI i)), (2, .int (nI (bE i b g n))), (3, .int (nI (i + 1))), (4, .int (nI (bE i b g n)))]) (q := 3) hC dX8_bestPace_34 rfl (nI_add _ _) (by decide) [1, 2, 3, 0, 4] rfl ?_
          refine V_goto (tgt := 10) hC dX8_bestPace_37 (by decide) ?_
          refine V_pick (lv2 := [(0, .ref o), (1, .int (nI i)), (2, .int (nI ((bE i b g n)))), (3, .int (nI ((i + 1))))]) [0, 1, 2, 3] rfl ?_
          exact ih10 (i + 1) i (bE i b g n) n (sW (cEnd (cR i b g n))) (sF (cEnd (cR i b g n))) (sT (cEnd (cR i b g n))) (sH (cEnd (cR i b g n))) i b (sL (cEnd (cR i b g n))) (sU (cEnd (cR i b g n))) ((sB (cEnd (cR i b g n))).length) tg2_3 tcf2_4 (by omega) (by rw [show i + 1 - 2 = (i - 2) + 1 by omega, bp, ← h2, show i - 2 + 2 = i by omega, if_pos c26]) (by omega) (by omega)
  exact L10 _ 2 1 (bE 1 b g n) n (sW (cEnd (cR 1 b g n))) (sF (cEnd (cR 1 b g n))) (sT (cEnd (cR 1 b g n))) (sH (cEnd (cR 1 b g n))) 1 b (sL (cEnd (cR 1 b g n))) (sU (cEnd (cR 1 b g n))) ((sB (cEnd (cR 1 b g n))).length) tg2_1 tcf2_2 (by omega) (rfl) (⟨by decide, hbe 1⟩) (Nat.lt_succ_self _)
abbrev rm_X8_readBack_neg : Room := { frames := 0, cells := 0, slots := 0, locals := 0 }
set_option maxHeartbeats 4000000 in
set_option maxRecDepth 100000 in
theorem c_X8_readBack_neg (l : Launch) (D : va_G) (cI cQ : ClassId) (o me kc tc rd tx tb hi : Nat) (x : Int32) (hx : x.toInt < 0) : MI l yX8_readBack cX8_readBack 2 (some .int) rm_X8_readBack_neg D (TY cI cQ) [.ref o, .int (x)] [(o, .inr (8, [.ref me, .ref kc, .ref tc, .ref rd, .ref tx, .ref tb, .ref hi]))] (fun (r9 : Int32) (u : Unit) => r9 = (-1) ∧ (True)) (fun (u : Unit) => [(o, .inr (8, [.ref me, .ref kc, .ref tc, .ref rd, .ref tx, .ref tb, .ref hi]))]) 0 0 := by
  refine MI.start (by decide) (Nat.le_of_ble_eq_true rfl) (lv0 := [(0, .ref o), (1, .int (x))]) rfl ?_
  intro pp9 ee9 ss9 mm9 args9 below9 meth9 co9 A9 Q9 hQ hC hr hlk hnm
  refine V_iload_n hC dX8_readBack_0 rfl 1 rfl ?_
  refine V_if_lt_T (tgt := 9) hC dX8_readBack_1 (by decide) (Int32.lt_iff_toInt_lt.mpr hx) ?_
  refine V_iconst (v := -1) hC dX8_readBack_9 (by decide) ?_
  subst hQ
  exact V_iret hC hr hlk rfl (by decide) (by decide) dX8_readBack_10 (()) [0] rfl (by decide) (⟨rfl, trivial⟩)
abbrev rm_X8_readBack_bad : Room := { frames := 0, cells := 0, slots := 0, locals := 0 }
set_option maxHeartbeats 4000000 in
set_option maxRecDepth 100000 in
theorem c_X8_readBack_bad (l : Launch) (D : va_G) (cI cQ : ClassId) (o me kc tc rd tx tb hi x : Nat) (hx : 2 < x ∧ x < 2147483648) : MI l yX8_readBack cX8_readBack 2 (some .int) rm_X8_readBack_bad D (TY cI cQ) [.ref o, .int (nI x)] [(o, .inr (8, [.ref me, .ref kc, .ref tc, .ref rd, .ref tx, .ref tb, .ref hi]))] (fun (r9 : Int32) (u : Unit) => r9 = (-1) ∧ (True)) (fun (u : Unit) => [(o, .inr (8, [.ref me, .ref kc, .ref tc, .ref rd, .ref tx, .ref tb, .ref hi]))]) 0 0 := by
  refine MI.start (by decide) (Nat.le_of_ble_eq_true rfl) (lv0 := [(0, .ref o), (1, .int (nI x))]) rfl ?_
  intro pp9 ee9 ss9 mm9 args9 below9 meth9 co9 A9 Q9 hQ hC hr hlk hnm
  refine V_iload_n hC dX8_readBack_0 rfl 1 rfl ?_
  refine V_if_lt_F (tgt := 9) hC dX8_readBack_1 (by decide) (nI_pos (by omega)) ?_
  refine V_iload_n hC dX8_readBack_4 rfl 1 rfl ?_
  refine V_iconst (v := nI 2) hC dX8_readBack_5 (by decide) ?_
  refine V_icmp_le (tgt := 11) hC (by omega) (by omega) dX8_readBack_6 (by decide) (fun c6 => ?_) (fun c6 => ?_)
  · exact False.elim (by omega)
  · refine V_iconst (v := -1) hC dX8_readBack_9 (by decide) ?_
    subst hQ
    exact V_iret hC hr hlk rfl (by decide) (by decide) dX8_readBack_10 (()) [0] rfl (by decide) (⟨rfl, trivial⟩)
abbrev rm_X8_readBack_0 : Room := { frames := 5, cells := 0, slots := 0, locals := 119 }
set_option maxHeartbeats 4000000 in
set_option maxRecDepth 100000 in
theorem c_X8_readBack_0 (l : Launch) (D : va_G) (cI cQ : ClassId) (o me kc tc rd tx tb hi ml kco kcr ksp kbi kbr kcs rco rcr rsp rle kz kw rz rv rk ro rT rH rp rb rl ru n e p b : Nat) (g kg rF rlf : Nat → Nat) (bs : List Nat) (hp : p ≤ 64) (hb : b ≤ 2000) (hl : bs.length ≤ 658) (hr9 : rep kg bs) (h01 : bits01 bs) : MI l yX8_readBack cX8_readBack 2 (some .int) rm_X8_readBack_0 D (TY cI cQ) [.ref o, .int (nI 0)] [(o, .inr (8, [.ref me, .ref kc, .ref tc, .ref rd, .ref tx, .ref tb, .ref hi])), (me, .inr (4, [.ref ml, .int (nI n), .int (nI e), .int (nI p), .int (nI b)])), (ml, .inl (cI, 40, .inl (fun j => nI (g j)))), (kc, .inr (1, [.ref kco, .ref ksp, .ref kbi, .ref kcs, .int (nI kz), .int (nI kw)])), (kbi, .inr (0, [.ref kbr, .int (nI (bs.length))])), (kbr, .inl (cI, 658, .inl (fun j => nI (kg j)))), (rd, .inr (5, [.ref rco, .ref rsp, .ref rle, .int (nI rz), .int (nI rv), .int (nI rk), .int (nI ro)])), (rco, .inr (2, [.ref rcr, .int (nI rT), .int (nI rH), .int (nI rp), .int (nI rb)])), (rcr, .inl (cI, 9, .inl (fun j => nI (rF j)))), (rsp, .inr (6, [.int (nI rl), .int (nI ru)])), (rle, .inl (cI, 40, .inl (fun j => nI (rlf j))))] (fun (r9 : Int32) (u : (Nat → Nat)) => r9 = (nI ((qR (rdF p b (βl bs)).2).length)) ∧ (True)) (fun (u : (Nat → Nat)) => [(o, .inr (8, [.ref me, .ref kc, .ref tc, .ref rd, .ref tx, .ref tb, .ref hi])), (me, .inr (4, [.ref ml, .int (nI n), .int (nI e), .int (nI p), .int (nI b)])), (ml, .inl (cI, 40, .inl (fun j => nI (g j)))), (kc, .inr (1, [.ref kco, .ref ksp, .ref kbi, .ref kcs, .int (nI kz), .int (nI kw)])), (kbi, .inr (0, [.ref kbr, .int (nI (bs.length))])), (kbr, .inl (cI, 658, .inl (fun j => nI (kg j)))), (rd, .inr (5, [.ref rco, .ref rsp, .ref rle, .int (nI ((qR ((rdF p b (βl bs)).2)).length)), .int (nI (qV ((rdF p b (βl bs)).2))), .int (nI (qK ((rdF p b (βl bs)).2))), .int (nI ((rdF p b (βl bs)).1))])), (rco, .inr (2, [.ref rcr, .int (nI (qT ((rdF p b (βl bs)).2))), .int (nI (qH ((rdF p b (βl bs)).2))), .int (nI p), .int (nI b)])), (rcr, .inl (cI, 9, .inl (fun j => nI ((qF ((rdF p b (βl bs)).2)) j)))), (rsp, .inr (6, [.int (nI (qL ((rdF p b (βl bs)).2))), .int (nI (qU ((rdF p b (βl bs)).2)))])), (rle, .inl (cI, 40, .inl (fun j => nI (u j))))]) 0 0 := by
  refine MI.start (by decide) (Nat.le_of_ble_eq_true rfl) (lv0 := [(0, .ref o), (1, .int (nI 0))]) rfl ?_
  intro pp9 ee9 ss9 mm9 args9 below9 meth9 co9 A9 Q9 hQ hC hr hlk hnm
  refine V_iload_n hC dX8_readBack_0 rfl 1 rfl ?_
  refine V_if_lt_F (tgt := 9) hC dX8_readBack_1 (by decide) (nI_pos (by omega)) ?_
  refine V_iload_n hC dX8_readBack_4 rfl 1 rfl ?_
  refine V_iconst (v := nI 2) hC dX8_readBack_5 (by decide) ?_
  refine V_icmp_le_T (tgt := 11) hC dX8_readBack_6 (by decide) (nI_le (by omega) (by omega)) ?_
  refine V_aload_n hC dX8_readBack_11 rfl 0 rfl ?_
  refine V_get (ci := 8) (v := .ref rd) hC in_X8 0 rfl cls_X8 3 (by decide) fl_X8_29 rfl dX8_readBack_12 ?_
  refine V_aload_n hC dX8_readBack_15 rfl 0 rfl ?_
  refine V_get (ci := 8) (v := .ref kc) hC in_X8 0 rfl cls_X8 1 (by decide) fl_X8_19 rfl dX8_readBack_16 ?_
  refine V_getN (ci := 1) (v := .ref kbi) hC in_X1 3 rfl cls_X1 2 (by decide) fn_X8_81 rfl dX8_readBack_19 ?_
  refine V_aload_n hC dX8_readBack_22 rfl 0 rfl ?_
  refine V_get (ci := 8) (v := .ref me) hC in_X8 0 rfl cls_X8 0 (by decide) fl_X8_12 rfl dX8_readBack_23 ?_
  refine V_getN (ci := 4) (v := .int (nI p)) hC in_X4 1 rfl cls_X4 3 (by decide) fn_X8_102 rfl dX8_readBack_26 ?_
  refine V_aload_n hC dX8_readBack_29 rfl 0 rfl ?_
  refine V_get (ci := 8) (v := .ref me) hC in_X8 0 rfl cls_X8 0 (by decide) fl_X8_12 rfl dX8_readBack_30 ?_
  refine V_getN (ci := 4) (v := .int (nI b)) hC in_X4 1 rfl cls_X4 4 (by decide) fn_X8_105 rfl dX8_readBack_33 ?_
  refine V_callvV (As := [.ref kbi, .int (nI p), .int (nI b)]) (rest := []) (wr := [(o, .inr (8, [.ref me, .ref kc, .ref tc, .ref rd, .ref tx, .ref tb, .ref hi])), (me, .inr (4, [.ref ml, .int (nI n), .int (nI e), .int (nI p), .int (nI b)])), (ml, .inl (cI, 40, .inl (fun j => nI (g j)))), (kc, .inr (1, [.ref kco, .ref ksp, .ref kbi, .ref kcs, .int (nI kz), .int (nI kw)]))]) hC (c_X5_read l D cI cQ rd rco rsp rle rz rv rk ro rcr rT rH rp rb rl ru kbi kbr bs.length p b rF rlf kg (βl bs) (hl) (rep_β hr9) (β2 h01) (hp) (hb)) mok_X5_read ml_X8_168 (q1 := 0) rfl cls_X5 rfl rfl rfl (by decide) (by decide) (by decide) (Nat.le_of_ble_eq_true rfl) [6, 7, 8, 9, 10, 4, 5] [0, 1, 2, 3] rfl (by decide) rfl (by decide) (by decide) dX8_readBack_36 rfl (fun u9 h36 => ?_)
  obtain ⟨lf2_1, rfl⟩ : ∃ z, z = u9 := ⟨_, rfl⟩
  have h36 : rep lf2_1 (qR (rdF p b (βl bs)).2) := h36
  refine V_perm (ws2 := [(o, .inr (8, [.ref me, .ref kc, .ref tc, .ref rd, .ref tx, .ref tb, .ref hi])), (me, .inr (4, [.ref ml, .int (nI n), .int (nI e), .int (nI p), .int (nI b)])), (ml, .inl (cI, 40, .inl (fun j => nI (g j)))), (kc, .inr (1, [.ref kco, .ref ksp, .ref kbi, .ref kcs, .int (nI kz), .int (nI kw)])), (kbi, .inr (0, [.ref kbr, .int (nI (bs.length))])), (kbr, .inl (cI, 658, .inl (fun j => nI (kg j)))), (rd, .inr (5, [.ref rco, .ref rsp, .ref rle, .int (nI ((qR ((rdF p b (βl bs)).2)).length)), .int (nI (qV ((rdF p b (βl bs)).2))), .int (nI (qK ((rdF p b (βl bs)).2))), .int (nI ((rdF p b (βl bs)).1))])), (rco, .inr (2, [.ref rcr, .int (nI (qT ((rdF p b (βl bs)).2))), .int (nI (qH ((rdF p b (βl bs)).2))), .int (nI p), .int (nI b)])), (rcr, .inl (cI, 9, .inl (fun j => nI ((qF ((rdF p b (βl bs)).2)) j)))), (rsp, .inr (6, [.int (nI (qL ((rdF p b (βl bs)).2))), .int (nI (qU ((rdF p b (βl bs)).2)))])), (rle, .inl (cI, 40, .inl (fun j => nI (lf2_1 j))))]) [0, 1, 2, 3, 9, 10, 4, 5, 6, 7, 8] rfl (by decide) ?_
  refine V_iload_n hC dX8_readBack_39 rfl 1 rfl ?_
  refine V_if_ne_F (tgt := 51) hC dX8_readBack_40 (by decide) ((congrArg nI (show 0 = 0 by omega)).trans nI_0) ?_
  refine V_aload_n hC dX8_readBack_43 rfl 0 rfl ?_
  refine V_get (ci := 8) (v := .ref rd) hC in_X8 0 rfl cls_X8 3 (by decide) fl_X8_29 rfl dX8_readBack_44 ?_
  refine V_getN (ci := 5) (v := .int (nI ((qR ((rdF p b (βl bs)).2)).length))) hC in_X5 6 rfl cls_X5 3 (by decide) fn_X8_172 rfl dX8_readBack_47 ?_
  subst hQ
  exact V_iret hC hr hlk rfl (by decide) (by decide) dX8_readBack_50 (lf2_1) [0, 1, 2, 3, 4, 5, 6, 7, 8, 9, 10] rfl (by decide) (⟨rfl, trivial⟩)
abbrev rm_X8_readBack_1 : Room := { frames := 5, cells := 0, slots := 0, locals := 119 }
set_option maxHeartbeats 4000000 in
set_option maxRecDepth 100000 in
theorem c_X8_readBack_1 (l : Launch) (D : va_G) (cI cQ : ClassId) (o me kc tc rd tx tb hi ml kco kcr ksp kbi kbr kcs rco rcr rsp rle kz kw rz rv rk ro rT rH rp rb rl ru n e p b : Nat) (g kg rF rlf : Nat → Nat) (bs : List Nat) (hp : p ≤ 64) (hb : b ≤ 2000) (hl : bs.length ≤ 658) (hr9 : rep kg bs) (h01 : bits01 bs) : MI l yX8_readBack cX8_readBack 2 (some .int) rm_X8_readBack_1 D (TY cI cQ) [.ref o, .int (nI 1)] [(o, .inr (8, [.ref me, .ref kc, .ref tc, .ref rd, .ref tx, .ref tb, .ref hi])), (me, .inr (4, [.ref ml, .int (nI n), .int (nI e), .int (nI p), .int (nI b)])), (ml, .inl (cI, 40, .inl (fun j => nI (g j)))), (kc, .inr (1, [.ref kco, .ref ksp, .ref kbi, .ref kcs, .int (nI kz), .int (nI kw)])), (kbi, .inr (0, [.ref kbr, .int (nI (bs.length))])), (kbr, .inl (cI, 658, .inl (fun j => nI (kg j)))), (rd, .inr (5, [.ref rco, .ref rsp, .ref rle, .int (nI rz), .int (nI rv), .int (nI rk), .int (nI ro)])), (rco, .inr (2, [.ref rcr, .int (nI rT), .int (nI rH), .int (nI rp), .int (nI rb)])), (rcr, .inl (cI, 9, .inl (fun j => nI (rF j)))), (rsp, .inr (6, [.int (nI rl), .int (nI ru)])), (rle, .inl (cI, 40, .inl (fun j => nI (rlf j))))] (fun (r9 : Int32) (u : (Nat → Nat)) => r9 = (nI ((rdF p b (βl bs)).1)) ∧ (True)) (fun (u : (Nat → Nat)) => [(o, .inr (8, [.ref me, .ref kc, .ref tc, .ref rd, .ref tx, .ref tb, .ref hi])), (me, .inr (4, [.ref ml, .int (nI n), .int (nI e), .int (nI p), .int (nI b)])), (ml, .inl (cI, 40, .inl (fun j => nI (g j)))), (kc, .inr (1, [.ref kco, .ref ksp, .ref kbi, .ref kcs, .int (nI kz), .int (nI kw)])), (kbi, .inr (0, [.ref kbr, .int (nI (bs.length))])), (kbr, .inl (cI, 658, .inl (fun j => nI (kg j)))), (rd, .inr (5, [.ref rco, .ref rsp, .ref rle, .int (nI ((qR ((rdF p b (βl bs)).2)).length)), .int (nI (qV ((rdF p b (βl bs)).2))), .int (nI (qK ((rdF p b (βl bs)).2))), .int (nI ((rdF p b (βl bs)).1))])), (rco, .inr (2, [.ref rcr, .int (nI (qT ((rdF p b (βl bs)).2))), .int (nI (qH ((rdF p b (βl bs)).2))), .int (nI p), .int (nI b)])), (rcr, .inl (cI, 9, .inl (fun j => nI ((qF ((rdF p b (βl bs)).2)) j)))), (rsp, .inr (6, [.int (nI (qL ((rdF p b (βl bs)).2))), .int (nI (qU ((rdF p b (βl bs)).2)))])), (rle, .inl (cI, 40, .inl (fun j => nI (u j))))]) 0 0 := by
  refine MI.start (by decide) (Nat.le_of_ble_eq_true rfl) (lv0 := [(0, .ref o), (1, .int (nI 1))]) rfl ?_
  intro pp9 ee9 ss9 mm9 args9 below9 meth9 co9 A9 Q9 hQ hC hr hlk hnm
  have hok := rdd_ok (β2 h01) hp hb 41 (rd0 (βl bs)) (okR_0 (β2 h01))
  have hov : (rdF p b (βl bs)).1 < 2 := hok.2
  have hqr : (qR (rdF p b (βl bs)).2).length ≤ 40 := hok.1.2.2.2.2.2.2
  have hq9 := rdd_lt (β2 h01) hp hb 41 (rd0 (βl bs)) (okR_0 (β2 h01)) (fun x hx => absurd hx List.not_mem_nil)
  refine V_iload_n hC dX8_readBack_0 rfl 1 rfl ?_
  refine V_if_lt_F (tgt := 9) hC dX8_readBack_1 (by decide) (nI_pos (by omega)) ?_
  refine V_iload_n hC dX8_readBack_4 rfl 1 rfl ?_
  refine V_iconst (v := nI 2) hC dX8_readBack_5 (by decide) ?_
  refine V_icmp_le_T (tgt := 11) hC dX8_readBack_6 (by decide) (nI_le (by omega) (by omega)) ?_
  refine V_aload_n hC dX8_readBack_11 rfl 0 rfl ?_
  refine V_get (ci := 8) (v := .ref rd) hC in_X8 0 rfl cls_X8 3 (by decide) fl_X8_29 rfl dX8_readBack_12 ?_
  refine V_aload_n hC dX8_readBack_15 rfl 0 rfl ?_
  refine V_get (ci := 8) (v := .ref kc) hC in_X8 0 rfl cls_X8 1 (by decide) fl_X8_19 rfl dX8_readBack_16 ?_
  refine V_getN (ci := 1) (v := .ref kbi) hC in_X1 3 rfl cls_X1 2 (by decide) fn_X8_81 rfl dX8_readBack_19 ?_
  refine V_aload_n hC dX8_readBack_22 rfl 0 rfl ?_
  refine V_get (ci := 8) (v := .ref me) hC in_X8 0 rfl cls_X8 0 (by decide) fl_X8_12 rfl dX8_readBack_23 ?_
  refine V_getN (ci := 4) (v := .int (nI p)) hC in_X4 1 rfl cls_X4 3 (by decide) fn_X8_102 rfl dX8_readBack_26 ?_
  refine V_aload_n hC dX8_readBack_29 rfl 0 rfl ?_
  refine V_get (ci := 8) (v := .ref me) hC in_X8 0 rfl cls_X8 0 (by decide) fl_X8_12 rfl dX8_readBack_30 ?_
  refine V_getN (ci := 4) (v := .int (nI b)) hC in_X4 1 rfl cls_X4 4 (by decide) fn_X8_105 rfl dX8_readBack_33 ?_
  refine V_callvV (As := [.ref kbi, .int (nI p), .int (nI b)]) (rest := []) (wr := [(o, .inr (8, [.ref me, .ref kc, .ref tc, .ref rd, .ref tx, .ref tb, .ref hi])), (me, .inr (4, [.ref ml, .int (nI n), .int (nI e), .int (nI p), .int (nI b)])), (ml, .inl (cI, 40, .inl (fun j => nI (g j)))), (kc, .inr (1, [.ref kco, .ref ksp, .ref kbi, .ref kcs, .int (nI kz), .int (nI kw)]))]) hC (c_X5_read l D cI cQ rd rco rsp rle rz rv rk ro rcr rT rH rp rb rl ru kbi kbr bs.length p b rF rlf kg (βl bs) (hl) (rep_β hr9) (β2 h01) (hp) (hb)) mok_X5_read ml_X8_168 (q1 := 0) rfl cls_X5 rfl rfl rfl (by decide) (by decide) (by decide) (Nat.le_of_ble_eq_true rfl) [6, 7, 8, 9, 10, 4, 5] [0, 1, 2, 3] rfl (by decide) rfl (by decide) (by decide) dX8_readBack_36 rfl (fun u9 h36 => ?_)
  obtain ⟨lf2_1, rfl⟩ : ∃ z, z = u9 := ⟨_, rfl⟩
  have h36 : rep lf2_1 (qR (rdF p b (βl bs)).2) := h36
  refine V_perm (ws2 := [(o, .inr (8, [.ref me, .ref kc, .ref tc, .ref rd, .ref tx, .ref tb, .ref hi])), (me, .inr (4, [.ref ml, .int (nI n), .int (nI e), .int (nI p), .int (nI b)])), (ml, .inl (cI, 40, .inl (fun j => nI (g j)))), (kc, .inr (1, [.ref kco, .ref ksp, .ref kbi, .ref kcs, .int (nI kz), .int (nI kw)])), (kbi, .inr (0, [.ref kbr, .int (nI (bs.length))])), (kbr, .inl (cI, 658, .inl (fun j => nI (kg j)))), (rd, .inr (5, [.ref rco, .ref rsp, .ref rle, .int (nI ((qR ((rdF p b (βl bs)).2)).length)), .int (nI (qV ((rdF p b (βl bs)).2))), .int (nI (qK ((rdF p b (βl bs)).2))), .int (nI ((rdF p b (βl bs)).1))])), (rco, .inr (2, [.ref rcr, .int (nI (qT ((rdF p b (βl bs)).2))), .int (nI (qH ((rdF p b (βl bs)).2))), .int (nI p), .int (nI b)])), (rcr, .inl (cI, 9, .inl (fun j => nI ((qF ((rdF p b (βl bs)).2)) j)))), (rsp, .inr (6, [.int (nI (qL ((rdF p b (βl bs)).2))), .int (nI (qU ((rdF p b (βl bs)).2)))])), (rle, .inl (cI, 40, .inl (fun j => nI (lf2_1 j))))]) [0, 1, 2, 3, 9, 10, 4, 5, 6, 7, 8] rfl (by decide) ?_
  refine V_iload_n hC dX8_readBack_39 rfl 1 rfl ?_
  refine V_if_ne_T (tgt := 51) hC dX8_readBack_40 (by decide) (nI_ne0 (by omega) (by omega)) ?_
  refine V_iload_n hC dX8_readBack_51 rfl 1 rfl ?_
  refine V_iconst (v := nI 1) hC dX8_readBack_52 (by decide) ?_
  refine V_icmp_ne_F (tgt := 72) hC dX8_readBack_53 (by decide) (congrArg nI (show 1 = 1 by omega)) ?_
  refine V_aload_n hC dX8_readBack_56 rfl 0 rfl ?_
  refine V_get (ci := 8) (v := .ref rd) hC in_X8 0 rfl cls_X8 3 (by decide) fl_X8_29 rfl dX8_readBack_57 ?_
  refine V_getN (ci := 5) (v := .int (nI ((rdF p b (βl bs)).1))) hC in_X5 6 rfl cls_X5 6 (by decide) fn_X8_173 rfl dX8_readBack_60 ?_
  refine V_if_eq (tgt := 70) hC (by omega) dX8_readBack_63 (by decide) (fun c63 => ?_) (fun c63 => ?_)
  · refine V_iconst (v := nI 0) hC dX8_readBack_70 (by decide) ?_
    refine V_st (st2 := [.int (nI ((rdF p b (βl bs)).1))]) (by rw [show (0) = ((rdF p b (βl bs)).1) from (by omega)]) ?_
    subst hQ
    exact V_iret hC hr hlk rfl (by decide) (by decide) dX8_readBack_71 (lf2_1) [0, 1, 2, 3, 4, 5, 6, 7, 8, 9, 10] rfl (by decide) (⟨rfl, trivial⟩)
  · refine V_iconst (v := nI 1) hC dX8_readBack_66 (by decide) ?_
    refine V_goto (tgt := 71) hC dX8_readBack_67 (by decide) ?_
    refine V_st (st2 := [.int (nI ((rdF p b (βl bs)).1))]) (by rw [show (1) = ((rdF p b (βl bs)).1) from (by omega)]) ?_
    subst hQ
    exact V_iret hC hr hlk rfl (by decide) (by decide) dX8_readBack_71 (lf2_1) [0, 1, 2, 3, 4, 5, 6, 7, 8, 9, 10] rfl (by decide) (⟨rfl, trivial⟩)
abbrev rm_X8_readBack_2 : Room := { frames := 5, cells := 0, slots := 0, locals := 119 }
set_option maxHeartbeats 4000000 in
set_option maxRecDepth 100000 in
theorem c_X8_readBack_2 (l : Launch) (D : va_G) (cI cQ : ClassId) (o me kc tc rd tx tb hi ml kco kcr ksp kbi kbr kcs rco rcr rsp rle kz kw rz rv rk ro rT rH rp rb rl ru n e p b : Nat) (g kg rF rlf : Nat → Nat) (bs : List Nat) (hp : p ≤ 64) (hb : b ≤ 2000) (hl : bs.length ≤ 658) (hr9 : rep kg bs) (h01 : bits01 bs) (hn : n ≤ 40) (hg : ∀ j, j < n → g j < 8) : MI l yX8_readBack cX8_readBack 2 (some .int) rm_X8_readBack_2 D (TY cI cQ) [.ref o, .int (nI 2)] [(o, .inr (8, [.ref me, .ref kc, .ref tc, .ref rd, .ref tx, .ref tb, .ref hi])), (me, .inr (4, [.ref ml, .int (nI n), .int (nI e), .int (nI p), .int (nI b)])), (ml, .inl (cI, 40, .inl (fun j => nI (g j)))), (kc, .inr (1, [.ref kco, .ref ksp, .ref kbi, .ref kcs, .int (nI kz), .int (nI kw)])), (kbi, .inr (0, [.ref kbr, .int (nI (bs.length))])), (kbr, .inl (cI, 658, .inl (fun j => nI (kg j)))), (rd, .inr (5, [.ref rco, .ref rsp, .ref rle, .int (nI rz), .int (nI rv), .int (nI rk), .int (nI ro)])), (rco, .inr (2, [.ref rcr, .int (nI rT), .int (nI rH), .int (nI rp), .int (nI rb)])), (rcr, .inl (cI, 9, .inl (fun j => nI (rF j)))), (rsp, .inr (6, [.int (nI rl), .int (nI ru)])), (rle, .inl (cI, 40, .inl (fun j => nI (rlf j))))] (fun (r9 : Int32) (u : (Nat → Nat)) => r9 = (nI (alk (βl (qR (rdF p b (βl bs)).2)) g (min (qR (rdF p b (βl bs)).2).length n))) ∧ (True)) (fun (u : (Nat → Nat)) => [(o, .inr (8, [.ref me, .ref kc, .ref tc, .ref rd, .ref tx, .ref tb, .ref hi])), (me, .inr (4, [.ref ml, .int (nI n), .int (nI e), .int (nI p), .int (nI b)])), (ml, .inl (cI, 40, .inl (fun j => nI (g j)))), (kc, .inr (1, [.ref kco, .ref ksp, .ref kbi, .ref kcs, .int (nI kz), .int (nI kw)])), (kbi, .inr (0, [.ref kbr, .int (nI (bs.length))])), (kbr, .inl (cI, 658, .inl (fun j => nI (kg j)))), (rd, .inr (5, [.ref rco, .ref rsp, .ref rle, .int (nI ((qR ((rdF p b (βl bs)).2)).length)), .int (nI (qV ((rdF p b (βl bs)).2))), .int (nI (qK ((rdF p b (βl bs)).2))), .int (nI ((rdF p b (βl bs)).1))])), (rco, .inr (2, [.ref rcr, .int (nI (qT ((rdF p b (βl bs)).2))), .int (nI (qH ((rdF p b (βl bs)).2))), .int (nI p), .int (nI b)])), (rcr, .inl (cI, 9, .inl (fun j => nI ((qF ((rdF p b (βl bs)).2)) j)))), (rsp, .inr (6, [.int (nI (qL ((rdF p b (βl bs)).2))), .int (nI (qU ((rdF p b (βl bs)).2)))])), (rle, .inl (cI, 40, .inl (fun j => nI (u j))))]) 0 0 := by
  refine MI.start (by decide) (Nat.le_of_ble_eq_true rfl) (lv0 := [(0, .ref o), (1, .int (nI 2))]) rfl ?_
  intro pp9 ee9 ss9 mm9 args9 below9 meth9 co9 A9 Q9 hQ hC hr hlk hnm
  have hok := rdd_ok (β2 h01) hp hb 41 (rd0 (βl bs)) (okR_0 (β2 h01))
  have hov : (rdF p b (βl bs)).1 < 2 := hok.2
  have hqr : (qR (rdF p b (βl bs)).2).length ≤ 40 := hok.1.2.2.2.2.2.2
  have hq9 := rdd_lt (β2 h01) hp hb 41 (rd0 (βl bs)) (okR_0 (β2 h01)) (fun x hx => absurd hx List.not_mem_nil)
  refine V_iload_n hC dX8_readBack_0 rfl 1 rfl ?_
  refine V_if_lt_F (tgt := 9) hC dX8_readBack_1 (by decide) (nI_pos (by omega)) ?_
  refine V_iload_n hC dX8_readBack_4 rfl 1 rfl ?_
  refine V_iconst (v := nI 2) hC dX8_readBack_5 (by decide) ?_
  refine V_icmp_le_T (tgt := 11) hC dX8_readBack_6 (by decide) (nI_le (by omega) (by omega)) ?_
  refine V_aload_n hC dX8_readBack_11 rfl 0 rfl ?_
  refine V_get (ci := 8) (v := .ref rd) hC in_X8 0 rfl cls_X8 3 (by decide) fl_X8_29 rfl dX8_readBack_12 ?_
  refine V_aload_n hC dX8_readBack_15 rfl 0 rfl ?_
  refine V_get (ci := 8) (v := .ref kc) hC in_X8 0 rfl cls_X8 1 (by decide) fl_X8_19 rfl dX8_readBack_16 ?_
  refine V_getN (ci := 1) (v := .ref kbi) hC in_X1 3 rfl cls_X1 2 (by decide) fn_X8_81 rfl dX8_readBack_19 ?_
  refine V_aload_n hC dX8_readBack_22 rfl 0 rfl ?_
  refine V_get (ci := 8) (v := .ref me) hC in_X8 0 rfl cls_X8 0 (by decide) fl_X8_12 rfl dX8_readBack_23 ?_
  refine V_getN (ci := 4) (v := .int (nI p)) hC in_X4 1 rfl cls_X4 3 (by decide) fn_X8_102 rfl dX8_readBack_26 ?_
  refine V_aload_n hC dX8_readBack_29 rfl 0 rfl ?_
  refine V_get (ci := 8) (v := .ref me) hC in_X8 0 rfl cls_X8 0 (by decide) fl_X8_12 rfl dX8_readBack_30 ?_
  refine V_getN (ci := 4) (v := .int (nI b)) hC in_X4 1 rfl cls_X4 4 (by decide) fn_X8_105 rfl dX8_readBack_33 ?_
  refine V_callvV (As := [.ref kbi, .int (nI p), .int (nI b)]) (rest := []) (wr := [(o, .inr (8, [.ref me, .ref kc, .ref tc, .ref rd, .ref tx, .ref tb, .ref hi])), (me, .inr (4, [.ref ml, .int (nI n), .int (nI e), .int (nI p), .int (nI b)])), (ml, .inl (cI, 40, .inl (fun j => nI (g j)))), (kc, .inr (1, [.ref kco, .ref ksp, .ref kbi, .ref kcs, .int (nI kz), .int (nI kw)]))]) hC (c_X5_read l D cI cQ rd rco rsp rle rz rv rk ro rcr rT rH rp rb rl ru kbi kbr bs.length p b rF rlf kg (βl bs) (hl) (rep_β hr9) (β2 h01) (hp) (hb)) mok_X5_read ml_X8_168 (q1 := 0) rfl cls_X5 rfl rfl rfl (by decide) (by decide) (by decide) (Nat.le_of_ble_eq_true rfl) [6, 7, 8, 9, 10, 4, 5] [0, 1, 2, 3] rfl (by decide) rfl (by decide) (by decide) dX8_readBack_36 rfl (fun u9 h36 => ?_)
  obtain ⟨lf2_1, rfl⟩ : ∃ z, z = u9 := ⟨_, rfl⟩
  have h36 : rep lf2_1 (qR (rdF p b (βl bs)).2) := h36
  refine V_perm (ws2 := [(o, .inr (8, [.ref me, .ref kc, .ref tc, .ref rd, .ref tx, .ref tb, .ref hi])), (me, .inr (4, [.ref ml, .int (nI n), .int (nI e), .int (nI p), .int (nI b)])), (ml, .inl (cI, 40, .inl (fun j => nI (g j)))), (kc, .inr (1, [.ref kco, .ref ksp, .ref kbi, .ref kcs, .int (nI kz), .int (nI kw)])), (kbi, .inr (0, [.ref kbr, .int (nI (bs.length))])), (kbr, .inl (cI, 658, .inl (fun j => nI (kg j)))), (rd, .inr (5, [.ref rco, .ref rsp, .ref rle, .int (nI ((qR ((rdF p b (βl bs)).2)).length)), .int (nI (qV ((rdF p b (βl bs)).2))), .int (nI (qK ((rdF p b (βl bs)).2))), .int (nI ((rdF p b (βl bs)).1))])), (rco, .inr (2, [.ref rcr, .int (nI (qT ((rdF p b (βl bs)).2))), .int (nI (qH ((rdF p b (βl bs)).2))), .int (nI p), .int (nI b)])), (rcr, .inl (cI, 9, .inl (fun j => nI ((qF ((rdF p b (βl bs)).2)) j)))), (rsp, .inr (6, [.int (nI (qL ((rdF p b (βl bs)).2))), .int (nI (qU ((rdF p b (βl bs)).2)))])), (rle, .inl (cI, 40, .inl (fun j => nI (lf2_1 j))))]) [0, 1, 2, 3, 9, 10, 4, 5, 6, 7, 8] rfl (by decide) ?_
  refine V_iload_n hC dX8_readBack_39 rfl 1 rfl ?_
  refine V_if_ne_T (tgt := 51) hC dX8_readBack_40 (by decide) (nI_ne0 (by omega) (by omega)) ?_
  refine V_iload_n hC dX8_readBack_51 rfl 1 rfl ?_
  refine V_iconst (v := nI 1) hC dX8_readBack_52 (by decide) ?_
  refine V_icmp_ne_T (tgt := 72) hC dX8_readBack_53 (by decide) (fun z => absurd ((nI_eq (by omega) (by omega)).mp z) (show ¬ 2 = 1 by omega)) ?_
  refine V_aload_n hC dX8_readBack_72 rfl 0 rfl ?_
  refine V_calliV (As := []) (rest := []) (wr := [(kc, .inr (1, [.ref kco, .ref ksp, .ref kbi, .ref kcs, .int (nI kz), .int (nI kw)])), (kbi, .inr (0, [.ref kbr, .int (nI (bs.length))])), (kbr, .inl (cI, 658, .inl (fun j => nI (kg j)))), (rco, .inr (2, [.ref rcr, .int (nI (qT ((rdF p b (βl bs)).2))), .int (nI (qH ((rdF p b (βl bs)).2))), .int (nI p), .int (nI b)])), (rcr, .inl (cI, 9, .inl (fun j => nI ((qF ((rdF p b (βl bs)).2)) j)))), (rsp, .inr (6, [.int (nI (qL ((rdF p b (βl bs)).2))), .int (nI (qU ((rdF p b (βl bs)).2)))]))]) hC (c_X8_alikeFromFirst l D cI cQ o me kc tc rd tx tb hi ml rco rsp rle ((qR ((rdF p b (βl bs)).2)).length) (qV ((rdF p b (βl bs)).2)) (qK ((rdF p b (βl bs)).2)) ((rdF p b (βl bs)).1) n e p b g lf2_1 (by omega) (by omega) (fun j hj => by have := hg j hj; omega) (fun j hj => by rw [h36 j hj]; exact Nat.lt_of_lt_of_le (getD_lt hq9 (by decide) j) (by decide))) mok_X8_alikeFromFirst ml_X8_176 (q1 := 0) rfl cls_X8 rfl rfl rfl (by decide) (by decide) (by decide) (Nat.le_of_ble_eq_true rfl) [0, 1, 2, 6, 10] [3, 4, 5, 7, 8, 9] rfl (by decide) rfl (by decide) (by decide) dX8_readBack_73 rfl (fun r9 u9 h73 => ?_)
  obtain ⟨rfl, h73⟩ := h73
  clear h73
  refine V_perm (ws2 := [(o, .inr (8, [.ref me, .ref kc, .ref tc, .ref rd, .ref tx, .ref tb, .ref hi])), (me, .inr (4, [.ref ml, .int (nI n), .int (nI e), .int (nI p), .int (nI b)])), (ml, .inl (cI, 40, .inl (fun j => nI (g j)))), (kc, .inr (1, [.ref kco, .ref ksp, .ref kbi, .ref kcs, .int (nI kz), .int (nI kw)])), (kbi, .inr (0, [.ref kbr, .int (nI (bs.length))])), (kbr, .inl (cI, 658, .inl (fun j => nI (kg j)))), (rd, .inr (5, [.ref rco, .ref rsp, .ref rle, .int (nI (((qR ((rdF p b (βl bs)).2)).length))), .int (nI ((qV ((rdF p b (βl bs)).2)))), .int (nI ((qK ((rdF p b (βl bs)).2)))), .int (nI (((rdF p b (βl bs)).1)))])), (rco, .inr (2, [.ref rcr, .int (nI (qT ((rdF p b (βl bs)).2))), .int (nI (qH ((rdF p b (βl bs)).2))), .int (nI p), .int (nI b)])), (rcr, .inl (cI, 9, .inl (fun j => nI ((qF ((rdF p b (βl bs)).2)) j)))), (rsp, .inr (6, [.int (nI (qL ((rdF p b (βl bs)).2))), .int (nI (qU ((rdF p b (βl bs)).2)))])), (rle, .inl (cI, 40, .inl (fun j => nI (lf2_1 j))))]) [6, 7, 8, 0, 1, 2, 9, 3, 4, 5, 10] rfl (by decide) ?_
  refine V_st (st2 := [.int (nI (alk (βl (qR (rdF p b (βl bs)).2)) g (min (qR (rdF p b (βl bs)).2).length n)))]) (by rw [show (alk lf2_1 g (min ((qR ((rdF p b (βl bs)).2)).length) n)) = (alk (βl (qR (rdF p b (βl bs)).2)) g (min (qR (rdF p b (βl bs)).2).length n)) from alk_cong (fun j hj => h36 j (by omega)) (fun j _ => rfl)]) ?_
  subst hQ
  exact V_iret hC hr hlk rfl (by decide) (by decide) dX8_readBack_76 (lf2_1) [0, 1, 2, 3, 4, 5, 6, 7, 8, 9, 10] rfl (by decide) (⟨rfl, trivial⟩)
abbrev rm_X8_type_neg : Room := { frames := 0, cells := 0, slots := 0, locals := 0 }
set_option maxHeartbeats 4000000 in
set_option maxRecDepth 100000 in
theorem c_X8_type_neg (l : Launch) (D : va_G) (cI cQ : ClassId) (o me kc tc rd tx tb hi : Nat) (x : Int32) (hx : x.toInt < 0) : MI l yX8_type cX8_type 2 (some .int) rm_X8_type_neg D (TY cI cQ) [.ref o, .int (x)] [(o, .inr (8, [.ref me, .ref kc, .ref tc, .ref rd, .ref tx, .ref tb, .ref hi]))] (fun (r9 : Int32) (u : Unit) => r9 = (-1) ∧ (True)) (fun (u : Unit) => [(o, .inr (8, [.ref me, .ref kc, .ref tc, .ref rd, .ref tx, .ref tb, .ref hi]))]) 0 0 := by
  refine MI.start (by decide) (Nat.le_of_ble_eq_true rfl) (lv0 := [(0, .ref o), (1, .int (x))]) rfl ?_
  intro pp9 ee9 ss9 mm9 args9 below9 meth9 co9 A9 Q9 hQ hC hr hlk hnm
  refine V_iload_n hC dX8_type_0 rfl 1 rfl ?_
  refine V_bipush (v := nI 32) hC dX8_type_1 (by decide) ?_
  refine V_icmp_lt_T (tgt := 12) hC dX8_type_3 (by decide) (neg_lt hx (by omega)) ?_
  refine V_iconst (v := -1) hC dX8_type_12 (by decide) ?_
  subst hQ
  exact V_iret hC hr hlk rfl (by decide) (by decide) dX8_type_13 (()) [0] rfl (by decide) (⟨rfl, trivial⟩)
abbrev rm_X8_type_bad : Room := { frames := 0, cells := 0, slots := 0, locals := 0 }
set_option maxHeartbeats 4000000 in
set_option maxRecDepth 100000 in
theorem c_X8_type_bad (l : Launch) (D : va_G) (cI cQ : ClassId) (o me kc tc rd tx tb hi x : Nat) (hx : (x < 32 ∨ 126 < x) ∧ x < 2147483648) : MI l yX8_type cX8_type 2 (some .int) rm_X8_type_bad D (TY cI cQ) [.ref o, .int (nI x)] [(o, .inr (8, [.ref me, .ref kc, .ref tc, .ref rd, .ref tx, .ref tb, .ref hi]))] (fun (r9 : Int32) (u : Unit) => r9 = (-1) ∧ (True)) (fun (u : Unit) => [(o, .inr (8, [.ref me, .ref kc, .ref tc, .ref rd, .ref tx, .ref tb, .ref hi]))]) 0 0 := by
  refine MI.start (by decide) (Nat.le_of_ble_eq_true rfl) (lv0 := [(0, .ref o), (1, .int (nI x))]) rfl ?_
  intro pp9 ee9 ss9 mm9 args9 below9 meth9 co9 A9 Q9 hQ hC hr hlk hnm
  refine V_iload_n hC dX8_type_0 rfl 1 rfl ?_
  refine V_bipush (v := nI 32) hC dX8_type_1 (by decide) ?_
  refine V_icmp_lt (tgt := 12) hC (by omega) (by omega) dX8_type_3 (by decide) (fun c3 => ?_) (fun c3 => ?_)
  · refine V_iconst (v := -1) hC dX8_type_12 (by decide) ?_
    subst hQ
    exact V_iret hC hr hlk rfl (by decide) (by decide) dX8_type_13 (()) [0] rfl (by decide) (⟨rfl, trivial⟩)
  · refine V_iload_n hC dX8_type_6 rfl 1 rfl ?_
    refine V_bipush (v := nI 126) hC dX8_type_7 (by decide) ?_
    refine V_icmp_le (tgt := 14) hC (by omega) (by omega) dX8_type_9 (by decide) (fun c9 => ?_) (fun c9 => ?_)
    · exact False.elim (by omega)
    · refine V_iconst (v := -1) hC dX8_type_12 (by decide) ?_
      subst hQ
      exact V_iret hC hr hlk rfl (by decide) (by decide) dX8_type_13 (()) [0] rfl (by decide) (⟨rfl, trivial⟩)
abbrev rm_X8_type_full : Room := { frames := 0, cells := 0, slots := 0, locals := 0 }
set_option maxHeartbeats 4000000 in
set_option maxRecDepth 100000 in
theorem c_X8_type_full (l : Launch) (D : va_G) (cI cQ : ClassId) (o me kc tc rd tx tb hi txr xn x : Nat) (xf : Nat → Nat) (hx : 32 ≤ x ∧ x ≤ 126) (hn : 120 ≤ xn ∧ xn < 1000) : MI l yX8_type cX8_type 2 (some .int) rm_X8_type_full D (TY cI cQ) [.ref o, .int (nI x)] [(o, .inr (8, [.ref me, .ref kc, .ref tc, .ref rd, .ref tx, .ref tb, .ref hi])), (tx, .inr (7, [.ref txr, .int (nI xn)])), (txr, .inl (cI, 120, .inl (fun j => nI (xf j))))] (fun (r9 : Int32) (u : Unit) => r9 = (-3) ∧ (True)) (fun (u : Unit) => [(o, .inr (8, [.ref me, .ref kc, .ref tc, .ref rd, .ref tx, .ref tb, .ref hi])), (tx, .inr (7, [.ref txr, .int (nI xn)])), (txr, .inl (cI, 120, .inl (fun j => nI (xf j))))]) 0 0 := by
  refine MI.start (by decide) (Nat.le_of_ble_eq_true rfl) (lv0 := [(0, .ref o), (1, .int (nI x))]) rfl ?_
  intro pp9 ee9 ss9 mm9 args9 below9 meth9 co9 A9 Q9 hQ hC hr hlk hnm
  refine V_iload_n hC dX8_type_0 rfl 1 rfl ?_
  refine V_bipush (v := nI 32) hC dX8_type_1 (by decide) ?_
  refine V_icmp_lt (tgt := 12) hC (by omega) (by omega) dX8_type_3 (by decide) (fun c3 => ?_) (fun c3 => ?_)
  · exact False.elim (by omega)
  · refine V_iload_n hC dX8_type_6 rfl 1 rfl ?_
    refine V_bipush (v := nI 126) hC dX8_type_7 (by decide) ?_
    refine V_icmp_le (tgt := 14) hC (by omega) (by omega) dX8_type_9 (by decide) (fun c9 => ?_) (fun c9 => ?_)
    · refine V_aload_n hC dX8_type_14 rfl 0 rfl ?_
      refine V_get (ci := 8) (v := .ref tx) hC in_X8 0 rfl cls_X8 4 (by decide) fl_X8_36 rfl dX8_type_15 ?_
      refine V_getN (ci := 7) (v := .int (nI xn)) hC in_X7 1 rfl cls_X7 1 (by decide) fn_X8_154 rfl dX8_type_18 ?_
      refine V_bipush (v := nI 120) hC dX8_type_21 (by decide) ?_
      refine V_icmp_lt (tgt := 29) hC (by omega) (by omega) dX8_type_23 (by decide) (fun c23 => ?_) (fun c23 => ?_)
      · exact False.elim (by omega)
      · refine V_bipush (v := -3) hC dX8_type_26 (by decide) ?_
        subst hQ
        exact V_iret hC hr hlk rfl (by decide) (by decide) dX8_type_28 (()) [0, 1, 2] rfl (by decide) (⟨rfl, trivial⟩)
    · exact False.elim (by omega)
abbrev rm_X8_type_ok : Room := { frames := 1, cells := 0, slots := 0, locals := 21 }
set_option maxHeartbeats 4000000 in
set_option maxRecDepth 100000 in
theorem c_X8_type_ok (l : Launch) (D : va_G) (cI cQ : ClassId) (o me kc tc rd tx tb hi txr xn x : Nat) (xf : Nat → Nat) (hx : 32 ≤ x ∧ x ≤ 126) (hn : xn < 120) : MI l yX8_type cX8_type 2 (some .int) rm_X8_type_ok D (TY cI cQ) [.ref o, .int (nI x)] [(o, .inr (8, [.ref me, .ref kc, .ref tc, .ref rd, .ref tx, .ref tb, .ref hi])), (tx, .inr (7, [.ref txr, .int (nI xn)])), (txr, .inl (cI, 120, .inl (fun j => nI (xf j))))] (fun (r9 : Int32) (u : Unit) => r9 = (nI (xn + 1)) ∧ (True)) (fun (u : Unit) => [(o, .inr (8, [.ref me, .ref kc, .ref tc, .ref rd, .ref tx, .ref tb, .ref hi])), (tx, .inr (7, [.ref txr, .int (nI (xn + 1))])), (txr, .inl (cI, 120, .inl (fun j => nI ((va_up xf xn x) j))))]) 0 0 := by
  refine MI.start (by decide) (Nat.le_of_ble_eq_true rfl) (lv0 := [(0, .ref o), (1, .int (nI x))]) rfl ?_
  intro pp9 ee9 ss9 mm9 args9 below9 meth9 co9 A9 Q9 hQ hC hr hlk hnm
  refine V_iload_n hC dX8_type_0 rfl 1 rfl ?_
  refine V_bipush (v := nI 32) hC dX8_type_1 (by decide) ?_
  refine V_icmp_lt (tgt := 12) hC (by omega) (by omega) dX8_type_3 (by decide) (fun c3 => ?_) (fun c3 => ?_)
  · exact False.elim (by omega)
  · refine V_iload_n hC dX8_type_6 rfl 1 rfl ?_
    refine V_bipush (v := nI 126) hC dX8_type_7 (by decide) ?_
    refine V_icmp_le (tgt := 14) hC (by omega) (by omega) dX8_type_9 (by decide) (fun c9 => ?_) (fun c9 => ?_)
    · refine V_aload_n hC dX8_type_14 rfl 0 rfl ?_
      refine V_get (ci := 8) (v := .ref tx) hC in_X8 0 rfl cls_X8 4 (by decide) fl_X8_36 rfl dX8_type_15 ?_
      refine V_getN (ci := 7) (v := .int (nI xn)) hC in_X7 1 rfl cls_X7 1 (by decide) fn_X8_154 rfl dX8_type_18 ?_
      refine V_bipush (v := nI 120) hC dX8_type_21 (by decide) ?_
      refine V_icmp_lt (tgt := 29) hC (by omega) (by omega) dX8_type_23 (by decide) (fun c23 => ?_) (fun c23 => ?_)
      · refine V_aload_n hC dX8_type_29 rfl 0 rfl ?_
        refine V_get (ci := 8) (v := .ref tx) hC in_X8 0 rfl cls_X8 4 (by decide) fl_X8_36 rfl dX8_type_30 ?_
        refine V_iload_n hC dX8_type_33 rfl 1 rfl ?_
        refine V_callvV (As := [.int (nI x)]) (rest := []) (wr := [(o, .inr (8, [.ref me, .ref kc, .ref tc, .ref rd, .ref tx, .ref tb, .ref hi]))]) hC (c_X7_append l D cI cQ tx txr xn x xf (by omega)) mok_X7_append ml_X8_182 (q1 := 0) rfl cls_X7 rfl rfl rfl (by decide) (by decide) (by decide) (Nat.le_of_ble_eq_true rfl) [1, 2] [0] rfl (by decide) rfl (by decide) (by decide) dX8_type_34 rfl (fun u9 h34 => ?_)
        clear h34
        refine V_perm (ws2 := [(o, .inr (8, [.ref me, .ref kc, .ref tc, .ref rd, .ref tx, .ref tb, .ref hi])), (tx, .inr (7, [.ref txr, .int (nI (xn + 1))])), (txr, .inl (cI, 120, .inl (fun j => nI ((va_up xf xn x) j))))]) [0, 1, 2] rfl (by decide) ?_
        refine V_aload_n hC dX8_type_37 rfl 0 rfl ?_
        refine V_get (ci := 8) (v := .ref tx) hC in_X8 0 rfl cls_X8 4 (by decide) fl_X8_36 rfl dX8_type_38 ?_
        refine V_getN (ci := 7) (v := .int (nI (xn + 1))) hC in_X7 1 rfl cls_X7 1 (by decide) fn_X8_154 rfl dX8_type_41 ?_
        subst hQ
        exact V_iret hC hr hlk rfl (by decide) (by decide) dX8_type_44 (()) [0, 1, 2] rfl (by decide) (⟨rfl, trivial⟩)
      · exact False.elim (by omega)
    · exact False.elim (by omega)
abbrev rm_X8_clearText : Room := { frames := 1, cells := 0, slots := 0, locals := 20 }
set_option maxHeartbeats 4000000 in
set_option maxRecDepth 100000 in
theorem c_X8_clearText (l : Launch) (D : va_G) (cI cQ : ClassId) (o me kc tc rd tx tb hi txr xn : Nat) (xf : Nat → Nat)  : MI l yX8_clearText cX8_clearText 2 (some .int) rm_X8_clearText D (TY cI cQ) [.ref o] [(o, .inr (8, [.ref me, .ref kc, .ref tc, .ref rd, .ref tx, .ref tb, .ref hi])), (tx, .inr (7, [.ref txr, .int (nI xn)])), (txr, .inl (cI, 120, .inl (fun j => nI (xf j))))] (fun (r9 : Int32) (u : Unit) => r9 = (nI xn) ∧ (True)) (fun (u : Unit) => [(o, .inr (8, [.ref me, .ref kc, .ref tc, .ref rd, .ref tx, .ref tb, .ref hi])), (tx, .inr (7, [.ref txr, .int (nI 0)])), (txr, .inl (cI, 120, .inl (fun j => nI (xf j))))]) 0 0 := by
  refine MI.start (by decide) (Nat.le_of_ble_eq_true rfl) (lv0 := [(0, .ref o)]) rfl ?_
  intro pp9 ee9 ss9 mm9 args9 below9 meth9 co9 A9 Q9 hQ hC hr hlk hnm
  refine V_aload_n hC dX8_clearText_0 rfl 0 rfl ?_
  refine V_get (ci := 8) (v := .ref tx) hC in_X8 0 rfl cls_X8 4 (by decide) fl_X8_36 rfl dX8_clearText_1 ?_
  refine V_getN (ci := 7) (v := .int (nI xn)) hC in_X7 1 rfl cls_X7 1 (by decide) fn_X8_154 rfl dX8_clearText_4 ?_
  refine V_istore_n (lv2 := [(0, .ref o), (1, .int (nI xn))]) hC dX8_clearText_7 rfl (by decide) [1, 0] rfl ?_
  refine V_aload_n hC dX8_clearText_8 rfl 0 rfl ?_
  refine V_get (ci := 8) (v := .ref tx) hC in_X8 0 rfl cls_X8 4 (by decide) fl_X8_36 rfl dX8_clearText_9 ?_
  refine V_callvV (As := []) (rest := []) (wr := [(o, .inr (8, [.ref me, .ref kc, .ref tc, .ref rd, .ref tx, .ref tb, .ref hi])), (txr, .inl (cI, 120, .inl (fun j => nI (xf j))))]) hC (c_X7_empty l D cI cQ tx txr xn ) mok_X7_empty ml_X8_183 (q1 := 0) rfl cls_X7 rfl rfl rfl (by decide) (by decide) (by decide) (Nat.le_of_ble_eq_true rfl) [1] [0, 2] rfl (by decide) rfl (by decide) (by decide) dX8_clearText_12 rfl (fun u9 h12 => ?_)
  clear h12
  refine V_perm (ws2 := [(o, .inr (8, [.ref me, .ref kc, .ref tc, .ref rd, .ref tx, .ref tb, .ref hi])), (tx, .inr (7, [.ref txr, .int (nI 0)])), (txr, .inl (cI, 120, .inl (fun j => nI (xf j))))]) [0, 2, 1] rfl (by decide) ?_
  refine V_iload_n hC dX8_clearText_15 rfl 1 rfl ?_
  subst hQ
  exact V_iret hC hr hlk rfl (by decide) (by decide) dX8_clearText_16 (()) [0, 1, 2] rfl (by decide) (⟨rfl, trivial⟩)
abbrev rm_X8_write_long : Room := { frames := 0, cells := 0, slots := 0, locals := 0 }
set_option maxHeartbeats 4000000 in
set_option maxRecDepth 100000 in
theorem c_X8_write_long (l : Launch) (D : va_G) (cI cQ : ClassId) (o me kc tc rd tx tb hi kco kcr ksp kbi kbr kcs txr kz kw xn : Nat) (kg xf : Nat → Nat) (bs : List Nat) (hl : 120 < bs.length ∧ bs.length ≤ 658) : MI l yX8_write cX8_write 1 (some .int) rm_X8_write_long D (TY cI cQ) [.ref o] [(o, .inr (8, [.ref me, .ref kc, .ref tc, .ref rd, .ref tx, .ref tb, .ref hi])), (kc, .inr (1, [.ref kco, .ref ksp, .ref kbi, .ref kcs, .int (nI kz), .int (nI kw)])), (kbi, .inr (0, [.ref kbr, .int (nI (bs.length))])), (kbr, .inl (cI, 658, .inl (fun j => nI (kg j)))), (tx, .inr (7, [.ref txr, .int (nI xn)])), (txr, .inl (cI, 120, .inl (fun j => nI (xf j))))] (fun (r9 : Int32) (u : Unit) => r9 = (-3) ∧ (True)) (fun (u : Unit) => [(o, .inr (8, [.ref me, .ref kc, .ref tc, .ref rd, .ref tx, .ref tb, .ref hi])), (kc, .inr (1, [.ref kco, .ref ksp, .ref kbi, .ref kcs, .int (nI kz), .int (nI kw)])), (kbi, .inr (0, [.ref kbr, .int (nI (bs.length))])), (kbr, .inl (cI, 658, .inl (fun j => nI (kg j)))), (tx, .inr (7, [.ref txr, .int (nI xn)])), (txr, .inl (cI, 120, .inl (fun j => nI (xf j))))]) 0 0 := by
  refine MI.start (by decide) (Nat.le_of_ble_eq_true rfl) (lv0 := [(0, .ref o)]) rfl ?_
  intro pp9 ee9 ss9 mm9 args9 below9 meth9 co9 A9 Q9 hQ hC hr hlk hnm
  refine V_aload_n hC dX8_write_0 rfl 0 rfl ?_
  refine V_get (ci := 8) (v := .ref kc) hC in_X8 0 rfl cls_X8 1 (by decide) fl_X8_19 rfl dX8_write_1 ?_
  refine V_getN (ci := 1) (v := .ref kbi) hC in_X1 1 rfl cls_X1 2 (by decide) fn_X8_81 rfl dX8_write_4 ?_
  refine V_getN (ci := 0) (v := .int (nI (bs.length))) hC in_X0 2 rfl cls_X0 1 (by decide) fn_X8_84 rfl dX8_write_7 ?_
  refine V_bipush (v := nI 120) hC dX8_write_10 (by decide) ?_
  refine V_icmp_le (tgt := 18) hC (by omega) (by omega) dX8_write_12 (by decide) (fun c12 => ?_) (fun c12 => ?_)
  · exact False.elim (by omega)
  · refine V_bipush (v := -3) hC dX8_write_15 (by decide) ?_
    subst hQ
    exact V_iret hC hr hlk rfl (by decide) (by decide) dX8_write_17 (()) [0, 1, 2, 3, 4, 5] rfl (by decide) (⟨rfl, trivial⟩)
abbrev rm_X8_write_ok : Room := { frames := 2, cells := 0, slots := 0, locals := 43 }
set_option maxHeartbeats 4000000 in
set_option maxRecDepth 100000 in
theorem c_X8_write_ok (l : Launch) (D : va_G) (cI cQ : ClassId) (o me kc tc rd tx tb hi kco kcr ksp kbi kbr kcs txr kz kw xn : Nat) (kg xf : Nat → Nat) (bs : List Nat) (hl : bs.length ≤ 120) (hr9 : rep kg bs) (h01 : bits01 bs) : MI l yX8_write cX8_write 1 (some .int) rm_X8_write_ok D (TY cI cQ) [.ref o] [(o, .inr (8, [.ref me, .ref kc, .ref tc, .ref rd, .ref tx, .ref tb, .ref hi])), (kc, .inr (1, [.ref kco, .ref ksp, .ref kbi, .ref kcs, .int (nI kz), .int (nI kw)])), (kbi, .inr (0, [.ref kbr, .int (nI (bs.length))])), (kbr, .inl (cI, 658, .inl (fun j => nI (kg j)))), (tx, .inr (7, [.ref txr, .int (nI xn)])), (txr, .inl (cI, 120, .inl (fun j => nI (xf j))))] (fun (r9 : Int32) (u : (Nat → Nat)) => r9 = (nI (bs.length)) ∧ (rep u (wT bs))) (fun (u : (Nat → Nat)) => [(o, .inr (8, [.ref me, .ref kc, .ref tc, .ref rd, .ref tx, .ref tb, .ref hi])), (kc, .inr (1, [.ref kco, .ref ksp, .ref kbi, .ref kcs, .int (nI kz), .int (nI kw)])), (kbi, .inr (0, [.ref kbr, .int (nI (bs.length))])), (kbr, .inl (cI, 658, .inl (fun j => nI (kg j)))), (tx, .inr (7, [.ref txr, .int (nI (bs.length))])), (txr, .inl (cI, 120, .inl (fun j => nI (u j))))]) 0 0 := by
  refine MI.start (by decide) (Nat.le_of_ble_eq_true rfl) (lv0 := [(0, .ref o)]) rfl ?_
  intro pp9 ee9 ss9 mm9 args9 below9 meth9 co9 A9 Q9 hQ hC hr hlk hnm
  refine V_aload_n hC dX8_write_0 rfl 0 rfl ?_
  refine V_get (ci := 8) (v := .ref kc) hC in_X8 0 rfl cls_X8 1 (by decide) fl_X8_19 rfl dX8_write_1 ?_
  refine V_getN (ci := 1) (v := .ref kbi) hC in_X1 1 rfl cls_X1 2 (by decide) fn_X8_81 rfl dX8_write_4 ?_
  refine V_getN (ci := 0) (v := .int (nI (bs.length))) hC in_X0 2 rfl cls_X0 1 (by decide) fn_X8_84 rfl dX8_write_7 ?_
  refine V_bipush (v := nI 120) hC dX8_write_10 (by decide) ?_
  refine V_icmp_le (tgt := 18) hC (by omega) (by omega) dX8_write_12 (by decide) (fun c12 => ?_) (fun c12 => ?_)
  · refine V_aload_n hC dX8_write_18 rfl 0 rfl ?_
    refine V_get (ci := 8) (v := .ref tx) hC in_X8 0 rfl cls_X8 4 (by decide) fl_X8_36 rfl dX8_write_19 ?_
    refine V_aload_n hC dX8_write_22 rfl 0 rfl ?_
    refine V_get (ci := 8) (v := .ref kc) hC in_X8 0 rfl cls_X8 1 (by decide) fl_X8_19 rfl dX8_write_23 ?_
    refine V_getN (ci := 1) (v := .ref kbi) hC in_X1 1 rfl cls_X1 2 (by decide) fn_X8_81 rfl dX8_write_26 ?_
    refine V_callvV (As := [.ref kbi]) (rest := []) (wr := [(o, .inr (8, [.ref me, .ref kc, .ref tc, .ref rd, .ref tx, .ref tb, .ref hi])), (kc, .inr (1, [.ref kco, .ref ksp, .ref kbi, .ref kcs, .int (nI kz), .int (nI kw)]))]) hC (c_X7_copyFrom l D cI cQ tx txr xn kbi kbr bs.length xf kg (hl) (fun j hj => by rw [hr9 j hj]; exact h01.getD j)) mok_X7_copyFrom ml_X8_184 (q1 := 0) rfl cls_X7 rfl rfl rfl (by decide) (by decide) (by decide) (Nat.le_of_ble_eq_true rfl) [4, 5, 2, 3] [0, 1] rfl (by decide) rfl (by decide) (by decide) dX8_write_29 rfl (fun u9 h29 => ?_)
    obtain ⟨f2_1, rfl⟩ : ∃ z, z = u9 := ⟨_, rfl⟩
    have h29 : ∀ j, j < bs.length → f2_1 j = if kg j = 1 then 49 else 48 := h29
    refine V_perm (ws2 := [(o, .inr (8, [.ref me, .ref kc, .ref tc, .ref rd, .ref tx, .ref tb, .ref hi])), (kc, .inr (1, [.ref kco, .ref ksp, .ref kbi, .ref kcs, .int (nI kz), .int (nI kw)])), (kbi, .inr (0, [.ref kbr, .int (nI (bs.length))])), (kbr, .inl (cI, 658, .inl (fun j => nI (kg j)))), (tx, .inr (7, [.ref txr, .int (nI (bs.length))])), (txr, .inl (cI, 120, .inl (fun j => nI (f2_1 j))))]) [0, 1, 4, 5, 2, 3] rfl (by decide) ?_
    refine V_aload_n hC dX8_write_32 rfl 0 rfl ?_
    refine V_get (ci := 8) (v := .ref tx) hC in_X8 0 rfl cls_X8 4 (by decide) fl_X8_36 rfl dX8_write_33 ?_
    refine V_getN (ci := 7) (v := .int (nI (bs.length))) hC in_X7 4 rfl cls_X7 1 (by decide) fn_X8_154 rfl dX8_write_36 ?_
    subst hQ
    exact V_iret hC hr hlk rfl (by decide) (by decide) dX8_write_39 (f2_1) [0, 1, 2, 3, 4, 5] rfl (by decide) (⟨rfl, rep_wT (fun j hj => by
    have h1 := h01.getD j
    rw [h29 j hj, hr9 j hj]
    by_cases q : bs.getD j 0 = 1
    · rw [if_pos q]; omega
    · rw [if_neg q]; omega)⟩)
  · exact False.elim (by omega)
abbrev rm_X8_fault_neg : Room := { frames := 0, cells := 0, slots := 0, locals := 0 }
set_option maxHeartbeats 4000000 in
set_option maxRecDepth 100000 in
theorem c_X8_fault_neg (l : Launch) (D : va_G) (cI cQ : ClassId) (o me kc tc rd tx tb hi : Nat) (x : Int32) (hx : x.toInt < 0) : MI l yX8_fault cX8_fault 3 (some .int) rm_X8_fault_neg D (TY cI cQ) [.ref o, .int (x)] [(o, .inr (8, [.ref me, .ref kc, .ref tc, .ref rd, .ref tx, .ref tb, .ref hi]))] (fun (r9 : Int32) (u : Unit) => r9 = (-1) ∧ (True)) (fun (u : Unit) => [(o, .inr (8, [.ref me, .ref kc, .ref tc, .ref rd, .ref tx, .ref tb, .ref hi]))]) 0 0 := by
  refine MI.start (by decide) (Nat.le_of_ble_eq_true rfl) (lv0 := [(0, .ref o), (1, .int (x))]) rfl ?_
  intro pp9 ee9 ss9 mm9 args9 below9 meth9 co9 A9 Q9 hQ hC hr hlk hnm
  refine V_iload_n hC dX8_fault_0 rfl 1 rfl ?_
  refine V_if_lt_T (tgt := 9) hC dX8_fault_1 (by decide) (Int32.lt_iff_toInt_lt.mpr hx) ?_
  refine V_iconst (v := -1) hC dX8_fault_9 (by decide) ?_
  subst hQ
  exact V_iret hC hr hlk rfl (by decide) (by decide) dX8_fault_10 (()) [0] rfl (by decide) (⟨rfl, trivial⟩)
abbrev rm_X8_fault_bad : Room := { frames := 0, cells := 0, slots := 0, locals := 0 }
set_option maxHeartbeats 4000000 in
set_option maxRecDepth 100000 in
theorem c_X8_fault_bad (l : Launch) (D : va_G) (cI cQ : ClassId) (o me kc tc rd tx tb hi x : Nat) (hx : 1 < x ∧ x < 2147483648) : MI l yX8_fault cX8_fault 3 (some .int) rm_X8_fault_bad D (TY cI cQ) [.ref o, .int (nI x)] [(o, .inr (8, [.ref me, .ref kc, .ref tc, .ref rd, .ref tx, .ref tb, .ref hi]))] (fun (r9 : Int32) (u : Unit) => r9 = (-1) ∧ (True)) (fun (u : Unit) => [(o, .inr (8, [.ref me, .ref kc, .ref tc, .ref rd, .ref tx, .ref tb, .ref hi]))]) 0 0 := by
  refine MI.start (by decide) (Nat.le_of_ble_eq_true rfl) (lv0 := [(0, .ref o), (1, .int (nI x))]) rfl ?_
  intro pp9 ee9 ss9 mm9 args9 below9 meth9 co9 A9 Q9 hQ hC hr hlk hnm
  refine V_iload_n hC dX8_fault_0 rfl 1 rfl ?_
  refine V_if_lt_F (tgt := 9) hC dX8_fault_1 (by decide) (nI_pos (by omega)) ?_
  refine V_iload_n hC dX8_fault_4 rfl 1 rfl ?_
  refine V_iconst (v := nI 1) hC dX8_fault_5 (by decide) ?_
  refine V_icmp_le (tgt := 11) hC (by omega) (by omega) dX8_fault_6 (by decide) (fun c6 => ?_) (fun c6 => ?_)
  · exact False.elim (by omega)
  · refine V_iconst (v := -1) hC dX8_fault_9 (by decide) ?_
    subst hQ
    exact V_iret hC hr hlk rfl (by decide) (by decide) dX8_fault_10 (()) [0] rfl (by decide) (⟨rfl, trivial⟩)
abbrev rm_X8_faultPlace_1 : Room := { frames := 1, cells := 0, slots := 0, locals := 21 }
set_option maxHeartbeats 4000000 in
set_option maxRecDepth 100000 in
theorem c_X8_faultPlace_1 (l : Launch) (D : va_G) (cI cQ : ClassId) (o me kc tc rd tx tb hi txr : Nat) (xf : Nat → Nat) (T : List Nat) (hT : rep xf T) (hT1 : T.length ≤ 120) (hT2 : ∀ j, j < T.length → T.getD j 0 < 1000) : MI l yX8_faultPlace cX8_faultPlace 2 (some .int) rm_X8_faultPlace_1 D (TY cI cQ) [.ref o, .int (nI 1)] [(o, .inr (8, [.ref me, .ref kc, .ref tc, .ref rd, .ref tx, .ref tb, .ref hi])), (tx, .inr (7, [.ref txr, .int (nI (T.length))])), (txr, .inl (cI, 120, .inl (fun j => nI (xf j))))] (fun (r9 : Int32) (u : Unit) => r9 = (nI (stT T)) ∧ (True)) (fun (u : Unit) => [(o, .inr (8, [.ref me, .ref kc, .ref tc, .ref rd, .ref tx, .ref tb, .ref hi])), (tx, .inr (7, [.ref txr, .int (nI (T.length))])), (txr, .inl (cI, 120, .inl (fun j => nI (xf j))))]) 0 0 := by
  refine MI.start (by decide) (Nat.le_of_ble_eq_true rfl) (lv0 := [(0, .ref o), (1, .int (nI 1))]) rfl ?_
  intro pp9 ee9 ss9 mm9 args9 below9 meth9 co9 A9 Q9 hQ hC hr hlk hnm
  have hstl : stT T ≤ T.length := st_le _ _
  have hxf : ∀ j, j < T.length → xf j < 1000 := fun j hj => by rw [hT j hj]; exact hT2 j hj
  have hst : st xf T.length = stT T := st_cong hT
  refine V_iload_n hC dX8_faultPlace_0 rfl 1 rfl ?_
  refine V_iconst (v := nI 1) hC dX8_faultPlace_1 (by decide) ?_
  refine V_icmp_ne_F (tgt := 13) hC dX8_faultPlace_2 (by decide) (congrArg nI (show 1 = 1 by omega)) ?_
  refine V_aload_n hC dX8_faultPlace_5 rfl 0 rfl ?_
  refine V_get (ci := 8) (v := .ref tx) hC in_X8 0 rfl cls_X8 4 (by decide) fl_X8_36 rfl dX8_faultPlace_6 ?_
  refine V_calliV (As := []) (rest := []) (wr := [(o, .inr (8, [.ref me, .ref kc, .ref tc, .ref rd, .ref tx, .ref tb, .ref hi]))]) hC (c_X7_firstStrange l D cI cQ tx txr T.length xf (hT1) (hxf)) mok_X7_firstStrange ml_X8_207 (q1 := 0) rfl cls_X7 rfl rfl rfl (by decide) (by decide) (by decide) (Nat.le_of_ble_eq_true rfl) [1, 2] [0] rfl (by decide) rfl (by decide) (by decide) dX8_faultPlace_9 rfl (fun r9 u9 h9 => ?_)
  obtain ⟨rfl, h9⟩ := h9
  clear h9
  refine V_perm (ws2 := [(o, .inr (8, [.ref me, .ref kc, .ref tc, .ref rd, .ref tx, .ref tb, .ref hi])), (tx, .inr (7, [.ref txr, .int (nI (T.length))])), (txr, .inl (cI, 120, .inl (fun j => nI (xf j))))]) [0, 1, 2] rfl (by decide) ?_
  refine V_st (st2 := [.int (nI (stT T))]) (by rw [show (st xf T.length) = (stT T) from hst]) ?_
  subst hQ
  exact V_iret hC hr hlk rfl (by decide) (by decide) dX8_faultPlace_12 (()) [0, 1, 2] rfl (by decide) (⟨rfl, trivial⟩)
abbrev rm_X8_faultPlace_2 : Room := { frames := 0, cells := 0, slots := 0, locals := 0 }
set_option maxHeartbeats 4000000 in
set_option maxRecDepth 100000 in
theorem c_X8_faultPlace_2 (l : Launch) (D : va_G) (cI cQ : ClassId) (o me kc tc rd tx tb hi txr xn : Nat) (xf : Nat → Nat)  : MI l yX8_faultPlace cX8_faultPlace 2 (some .int) rm_X8_faultPlace_2 D (TY cI cQ) [.ref o, .int (nI 2)] [(o, .inr (8, [.ref me, .ref kc, .ref tc, .ref rd, .ref tx, .ref tb, .ref hi])), (tx, .inr (7, [.ref txr, .int (nI xn)])), (txr, .inl (cI, 120, .inl (fun j => nI (xf j))))] (fun (r9 : Int32) (u : Unit) => r9 = (nI xn) ∧ (True)) (fun (u : Unit) => [(o, .inr (8, [.ref me, .ref kc, .ref tc, .ref rd, .ref tx, .ref tb, .ref hi])), (tx, .inr (7, [.ref txr, .int (nI xn)])), (txr, .inl (cI, 120, .inl (fun j => nI (xf j))))]) 0 0 := by
  refine MI.start (by decide) (Nat.le_of_ble_eq_true rfl) (lv0 := [(0, .ref o), (1, .int (nI 2))]) rfl ?_
  intro pp9 ee9 ss9 mm9 args9 below9 meth9 co9 A9 Q9 hQ hC hr hlk hnm
  refine V_iload_n hC dX8_faultPlace_0 rfl 1 rfl ?_
  refine V_iconst (v := nI 1) hC dX8_faultPlace_1 (by decide) ?_
  refine V_icmp_ne_T (tgt := 13) hC dX8_faultPlace_2 (by decide) (fun z => absurd ((nI_eq (by omega) (by omega)).mp z) (show ¬ 2 = 1 by omega)) ?_
  refine V_iload_n hC dX8_faultPlace_13 rfl 1 rfl ?_
  refine V_iconst (v := nI 3) hC dX8_faultPlace_14 (by decide) ?_
  refine V_icmp_ne_T (tgt := 33) hC dX8_faultPlace_15 (by decide) (fun z => absurd ((nI_eq (by omega) (by omega)).mp z) (show ¬ 2 = 3 by omega)) ?_
  refine V_aload_n hC dX8_faultPlace_33 rfl 0 rfl ?_
  refine V_get (ci := 8) (v := .ref tx) hC in_X8 0 rfl cls_X8 4 (by decide) fl_X8_36 rfl dX8_faultPlace_34 ?_
  refine V_getN (ci := 7) (v := .int (nI xn)) hC in_X7 1 rfl cls_X7 1 (by decide) fn_X8_154 rfl dX8_faultPlace_37 ?_
  subst hQ
  exact V_iret hC hr hlk rfl (by decide) (by decide) dX8_faultPlace_40 (()) [0, 1, 2] rfl (by decide) (⟨rfl, trivial⟩)
abbrev rm_X8_faultPlace_3 : Room := { frames := 2, cells := 0, slots := 0, locals := 43 }
set_option maxHeartbeats 4000000 in
set_option maxRecDepth 100000 in
theorem c_X8_faultPlace_3 (l : Launch) (D : va_G) (cI cQ : ClassId) (o me kc tc rd tx tb hi tbw rco rsp rle rz rv rk ro yn : Nat) (yg : Nat → Nat) (hn : yn ≤ 658) (hj : rk < 2147483648) (hg : ∀ i, i < yn → yg i < 2) : MI l yX8_faultPlace cX8_faultPlace 2 (some .int) rm_X8_faultPlace_3 D (TY cI cQ) [.ref o, .int (nI 3)] [(o, .inr (8, [.ref me, .ref kc, .ref tc, .ref rd, .ref tx, .ref tb, .ref hi])), (rd, .inr (5, [.ref rco, .ref rsp, .ref rle, .int (nI rz), .int (nI rv), .int (nI rk), .int (nI ro)])), (tb, .inr (0, [.ref tbw, .int (nI yn)])), (tbw, .inl (cI, 658, .inl (fun j => nI (yg j))))] (fun (r9 : Int32) (u : Unit) => r9 = (nI (fO yg yn rk)) ∧ (True)) (fun (u : Unit) => [(o, .inr (8, [.ref me, .ref kc, .ref tc, .ref rd, .ref tx, .ref tb, .ref hi])), (rd, .inr (5, [.ref rco, .ref rsp, .ref rle, .int (nI rz), .int (nI rv), .int (nI rk), .int (nI ro)])), (tb, .inr (0, [.ref tbw, .int (nI yn)])), (tbw, .inl (cI, 658, .inl (fun j => nI (yg j))))]) 0 0 := by
  refine MI.start (by decide) (Nat.le_of_ble_eq_true rfl) (lv0 := [(0, .ref o), (1, .int (nI 3))]) rfl ?_
  intro pp9 ee9 ss9 mm9 args9 below9 meth9 co9 A9 Q9 hQ hC hr hlk hnm
  refine V_iload_n hC dX8_faultPlace_0 rfl 1 rfl ?_
  refine V_iconst (v := nI 1) hC dX8_faultPlace_1 (by decide) ?_
  refine V_icmp_ne_T (tgt := 13) hC dX8_faultPlace_2 (by decide) (fun z => absurd ((nI_eq (by omega) (by omega)).mp z) (show ¬ 3 = 1 by omega)) ?_
  refine V_iload_n hC dX8_faultPlace_13 rfl 1 rfl ?_
  refine V_iconst (v := nI 3) hC dX8_faultPlace_14 (by decide) ?_
  refine V_icmp_ne_F (tgt := 33) hC dX8_faultPlace_15 (by decide) (congrArg nI (show 3 = 3 by omega)) ?_
  refine V_aload_n hC dX8_faultPlace_18 rfl 0 rfl ?_
  refine V_get (ci := 8) (v := .ref tb) hC in_X8 0 rfl cls_X8 5 (by decide) fl_X8_43 rfl dX8_faultPlace_19 ?_
  refine V_aload_n hC dX8_faultPlace_22 rfl 0 rfl ?_
  refine V_get (ci := 8) (v := .ref rd) hC in_X8 0 rfl cls_X8 3 (by decide) fl_X8_29 rfl dX8_faultPlace_23 ?_
  refine V_getN (ci := 5) (v := .int (nI rk)) hC in_X5 1 rfl cls_X5 5 (by decide) fn_X8_213 rfl dX8_faultPlace_26 ?_
  refine V_calliV (As := [.int (nI rk)]) (rest := []) (wr := [(o, .inr (8, [.ref me, .ref kc, .ref tc, .ref rd, .ref tx, .ref tb, .ref hi])), (rd, .inr (5, [.ref rco, .ref rsp, .ref rle, .int (nI rz), .int (nI rv), .int (nI rk), .int (nI ro)]))]) hC (c_X0_firstOne l D cI cQ tb tbw yn rk yg (by omega) (by omega) (hg)) mok_X0_firstOne ml_X8_216 (q1 := 0) rfl cls_X0 rfl rfl rfl (by decide) (by decide) (by decide) (Nat.le_of_ble_eq_true rfl) [2, 3] [0, 1] rfl (by decide) rfl (by decide) (by decide) dX8_faultPlace_29 rfl (fun r9 u9 h29 => ?_)
  obtain ⟨rfl, h29⟩ := h29
  clear h29
  refine V_perm (ws2 := [(o, .inr (8, [.ref me, .ref kc, .ref tc, .ref rd, .ref tx, .ref tb, .ref hi])), (rd, .inr (5, [.ref rco, .ref rsp, .ref rle, .int (nI rz), .int (nI rv), .int (nI rk), .int (nI ro)])), (tb, .inr (0, [.ref tbw, .int (nI yn)])), (tbw, .inl (cI, 658, .inl (fun j => nI (yg j))))]) [0, 1, 2, 3] rfl (by decide) ?_
  subst hQ
  exact V_iret hC hr hlk rfl (by decide) (by decide) dX8_faultPlace_32 (()) [0, 1, 2, 3] rfl (by decide) (⟨rfl, trivial⟩)
abbrev rm_X8_fault_1a : Room := { frames := 2, cells := 0, slots := 0, locals := 42 }
set_option maxHeartbeats 4000000 in
set_option maxRecDepth 100000 in
theorem c_X8_fault_1a (l : Launch) (D : va_G) (cI cQ : ClassId) (o me kc tc rd tx tb hi ml rco rcr rsp rle txr tbw rz rv rk ro rT rH rp rb rl ru yn n e p b : Nat) (g rF rlf xf yg : Nat → Nat) (T : List Nat) (hT : rep xf T) (hT1 : T.length ≤ 120) (hT2 : ∀ j, j < T.length → T.getD j 0 < 1000) (hx : stT T < T.length) : MI l yX8_fault cX8_fault 3 (some .int) rm_X8_fault_1a D (TY cI cQ) [.ref o, .int (nI 0)] [(o, .inr (8, [.ref me, .ref kc, .ref tc, .ref rd, .ref tx, .ref tb, .ref hi])), (me, .inr (4, [.ref ml, .int (nI n), .int (nI e), .int (nI p), .int (nI b)])), (ml, .inl (cI, 40, .inl (fun j => nI (g j)))), (rd, .inr (5, [.ref rco, .ref rsp, .ref rle, .int (nI rz), .int (nI rv), .int (nI rk), .int (nI ro)])), (rco, .inr (2, [.ref rcr, .int (nI rT), .int (nI rH), .int (nI rp), .int (nI rb)])), (rcr, .inl (cI, 9, .inl (fun j => nI (rF j)))), (rsp, .inr (6, [.int (nI rl), .int (nI ru)])), (rle, .inl (cI, 40, .inl (fun j => nI (rlf j)))), (tx, .inr (7, [.ref txr, .int (nI (T.length))])), (txr, .inl (cI, 120, .inl (fun j => nI (xf j)))), (tb, .inr (0, [.ref tbw, .int (nI yn)])), (tbw, .inl (cI, 658, .inl (fun j => nI (yg j))))] (fun (r9 : Int32) (u : Unit) => r9 = (nI (stT T)) ∧ (True)) (fun (u : Unit) => [(o, .inr (8, [.ref me, .ref kc, .ref tc, .ref rd, .ref tx, .ref tb, .ref hi])), (me, .inr (4, [.ref ml, .int (nI n), .int (nI e), .int (nI p), .int (nI b)])), (ml, .inl (cI, 40, .inl (fun j => nI (g j)))), (rd, .inr (5, [.ref rco, .ref rsp, .ref rle, .int (nI rz), .int (nI rv), .int (nI rk), .int (nI ro)])), (rco, .inr (2, [.ref rcr, .int (nI rT), .int (nI rH), .int (nI rp), .int (nI rb)])), (rcr, .inl (cI, 9, .inl (fun j => nI (rF j)))), (rsp, .inr (6, [.int (nI rl), .int (nI ru)])), (rle, .inl (cI, 40, .inl (fun j => nI (rlf j)))), (tx, .inr (7, [.ref txr, .int (nI (T.length))])), (txr, .inl (cI, 120, .inl (fun j => nI (xf j)))), (tb, .inr (0, [.ref tbw, .int (nI yn)])), (tbw, .inl (cI, 658, .inl (fun j => nI (yg j))))]) 0 0 := by
  refine MI.start (by decide) (Nat.le_of_ble_eq_true rfl) (lv0 := [(0, .ref o), (1, .int (nI 0))]) rfl ?_
  intro pp9 ee9 ss9 mm9 args9 below9 meth9 co9 A9 Q9 hQ hC hr hlk hnm
  refine V_iload_n hC dX8_fault_0 rfl 1 rfl ?_
  refine V_if_lt_F (tgt := 9) hC dX8_fault_1 (by decide) (nI_pos (by omega)) ?_
  refine V_iload_n hC dX8_fault_4 rfl 1 rfl ?_
  refine V_iconst (v := nI 1) hC dX8_fault_5 (by decide) ?_
  refine V_icmp_le_T (tgt := 11) hC dX8_fault_6 (by decide) (nI_le (by omega) (by omega)) ?_
  refine V_aload_n hC dX8_fault_11 rfl 0 rfl ?_
  refine V_calliV (As := []) (rest := []) (wr := []) hC (c_X8_faultReason_1 l D cI cQ o me kc tc rd tx tb hi ml rco rcr rsp rle txr tbw rz rv rk ro rT rH rp rb rl ru yn n e p b g rF rlf xf yg _ (hT) (by omega) (hT2) (by omega)) mok_X8_faultReason ml_X8_188 (q1 := 0) rfl cls_X8 rfl rfl rfl (by decide) (by decide) (by decide) (Nat.le_of_ble_eq_true rfl) [0, 1, 2, 3, 4, 5, 6, 7, 8, 9, 10, 11] [] rfl (by decide) rfl (by decide) (by decide) dX8_fault_12 rfl (fun r9 u9 h12 => ?_)
  obtain ⟨rfl, h12⟩ := h12
  clear h12
  refine V_perm (ws2 := [(o, .inr (8, [.ref me, .ref kc, .ref tc, .ref rd, .ref tx, .ref tb, .ref hi])), (me, .inr (4, [.ref ml, .int (nI n), .int (nI e), .int (nI p), .int (nI b)])), (ml, .inl (cI, 40, .inl (fun j => nI (g j)))), (rd, .inr (5, [.ref rco, .ref rsp, .ref rle, .int (nI rz), .int (nI rv), .int (nI rk), .int (nI ro)])), (rco, .inr (2, [.ref rcr, .int (nI rT), .int (nI rH), .int (nI rp), .int (nI rb)])), (rcr, .inl (cI, 9, .inl (fun j => nI (rF j)))), (rsp, .inr (6, [.int (nI rl), .int (nI ru)])), (rle, .inl (cI, 40, .inl (fun j => nI (rlf j)))), (tx, .inr (7, [.ref txr, .int (nI (T.length))])), (txr, .inl (cI, 120, .inl (fun j => nI (xf j)))), (tb, .inr (0, [.ref tbw, .int (nI yn)])), (tbw, .inl (cI, 658, .inl (fun j => nI (yg j))))]) [0, 1, 2, 3, 4, 5, 6, 7, 8, 9, 10, 11] rfl (by decide) ?_
  refine V_istore_n (lv2 := [(0, .ref o), (1, .int (nI 0)), (2, .int (nI 1))]) hC dX8_fault_15 rfl (by decide) [1, 2, 0] rfl ?_
  refine V_iload_n hC dX8_fault_16 rfl 2 rfl ?_
  refine V_if_ne_T (tgt := 23) hC dX8_fault_17 (by decide) (nI_ne0 (by omega) (by omega)) ?_
  refine V_iload_n hC dX8_fault_23 rfl 1 rfl ?_
  refine V_if_ne_F (tgt := 35) hC dX8_fault_24 (by decide) ((congrArg nI (show 0 = 0 by omega)).trans nI_0) ?_
  refine V_aload_n hC dX8_fault_27 rfl 0 rfl ?_
  refine V_iload_n hC dX8_fault_28 rfl 2 rfl ?_
  refine V_calliV (As := [.int (nI 1)]) (rest := []) (wr := [(me, .inr (4, [.ref ml, .int (nI n), .int (nI e), .int (nI p), .int (nI b)])), (ml, .inl (cI, 40, .inl (fun j => nI (g j)))), (rd, .inr (5, [.ref rco, .ref rsp, .ref rle, .int (nI rz), .int (nI rv), .int (nI rk), .int (nI ro)])), (rco, .inr (2, [.ref rcr, .int (nI rT), .int (nI rH), .int (nI rp), .int (nI rb)])), (rcr, .inl (cI, 9, .inl (fun j => nI (rF j)))), (rsp, .inr (6, [.int (nI rl), .int (nI ru)])), (rle, .inl (cI, 40, .inl (fun j => nI (rlf j)))), (tb, .inr (0, [.ref tbw, .int (nI yn)])), (tbw, .inl (cI, 658, .inl (fun j => nI (yg j))))]) hC (c_X8_faultPlace_1 l D cI cQ o me kc tc rd tx tb hi txr xf _ (hT) (by omega) (hT2)) mok_X8_faultPlace ml_X8_191 (q1 := 0) rfl cls_X8 rfl rfl rfl (by decide) (by decide) (by decide) (Nat.le_of_ble_eq_true rfl) [0, 8, 9] [1, 2, 3, 4, 5, 6, 7, 10, 11] rfl (by decide) rfl (by decide) (by decide) dX8_fault_29 rfl (fun r9 u9 h29 => ?_)
  obtain ⟨rfl, h29⟩ := h29
  clear h29
  refine V_perm (ws2 := [(o, .inr (8, [.ref me, .ref kc, .ref tc, .ref rd, .ref tx, .ref tb, .ref hi])), (me, .inr (4, [.ref ml, .int (nI n), .int (nI e), .int (nI p), .int (nI b)])), (ml, .inl (cI, 40, .inl (fun j => nI (g j)))), (rd, .inr (5, [.ref rco, .ref rsp, .ref rle, .int (nI rz), .int (nI rv), .int (nI rk), .int (nI ro)])), (rco, .inr (2, [.ref rcr, .int (nI rT), .int (nI rH), .int (nI rp), .int (nI rb)])), (rcr, .inl (cI, 9, .inl (fun j => nI (rF j)))), (rsp, .inr (6, [.int (nI rl), .int (nI ru)])), (rle, .inl (cI, 40, .inl (fun j => nI (rlf j)))), (tx, .inr (7, [.ref txr, .int (nI (T.length))])), (txr, .inl (cI, 120, .inl (fun j => nI (xf j)))), (tb, .inr (0, [.ref tbw, .int (nI yn)])), (tbw, .inl (cI, 658, .inl (fun j => nI (yg j))))]) [9, 0, 1, 2, 3, 4, 5, 6, 10, 11, 7, 8] rfl (by decide) ?_
  refine V_goto (tgt := 36) hC dX8_fault_32 (by decide) ?_
  subst hQ
  exact V_iret hC hr hlk rfl (by decide) (by decide) dX8_fault_36 (()) [0, 1, 2, 3, 4, 5, 6, 7, 8, 9, 10, 11] rfl (by decide) (⟨rfl, trivial⟩)
abbrev rm_X8_fault_1b : Room := { frames := 2, cells := 0, slots := 0, locals := 41 }
set_option maxHeartbeats 4000000 in
set_option maxRecDepth 100000 in
theorem c_X8_fault_1b (l : Launch) (D : va_G) (cI cQ : ClassId) (o me kc tc rd tx tb hi ml rco rcr rsp rle txr tbw rz rv rk ro rT rH rp rb rl ru yn n e p b : Nat) (g rF rlf xf yg : Nat → Nat) (T : List Nat) (hT : rep xf T) (hT1 : T.length ≤ 120) (hT2 : ∀ j, j < T.length → T.getD j 0 < 1000) (hx : stT T < T.length) : MI l yX8_fault cX8_fault 3 (some .int) rm_X8_fault_1b D (TY cI cQ) [.ref o, .int (nI 1)] [(o, .inr (8, [.ref me, .ref kc, .ref tc, .ref rd, .ref tx, .ref tb, .ref hi])), (me, .inr (4, [.ref ml, .int (nI n), .int (nI e), .int (nI p), .int (nI b)])), (ml, .inl (cI, 40, .inl (fun j => nI (g j)))), (rd, .inr (5, [.ref rco, .ref rsp, .ref rle, .int (nI rz), .int (nI rv), .int (nI rk), .int (nI ro)])), (rco, .inr (2, [.ref rcr, .int (nI rT), .int (nI rH), .int (nI rp), .int (nI rb)])), (rcr, .inl (cI, 9, .inl (fun j => nI (rF j)))), (rsp, .inr (6, [.int (nI rl), .int (nI ru)])), (rle, .inl (cI, 40, .inl (fun j => nI (rlf j)))), (tx, .inr (7, [.ref txr, .int (nI (T.length))])), (txr, .inl (cI, 120, .inl (fun j => nI (xf j)))), (tb, .inr (0, [.ref tbw, .int (nI yn)])), (tbw, .inl (cI, 658, .inl (fun j => nI (yg j))))] (fun (r9 : Int32) (u : Unit) => r9 = (nI 1) ∧ (True)) (fun (u : Unit) => [(o, .inr (8, [.ref me, .ref kc, .ref tc, .ref rd, .ref tx, .ref tb, .ref hi])), (me, .inr (4, [.ref ml, .int (nI n), .int (nI e), .int (nI p), .int (nI b)])), (ml, .inl (cI, 40, .inl (fun j => nI (g j)))), (rd, .inr (5, [.ref rco, .ref rsp, .ref rle, .int (nI rz), .int (nI rv), .int (nI rk), .int (nI ro)])), (rco, .inr (2, [.ref rcr, .int (nI rT), .int (nI rH), .int (nI rp), .int (nI rb)])), (rcr, .inl (cI, 9, .inl (fun j => nI (rF j)))), (rsp, .inr (6, [.int (nI rl), .int (nI ru)])), (rle, .inl (cI, 40, .inl (fun j => nI (rlf j)))), (tx, .inr (7, [.ref txr, .int (nI (T.length))])), (txr, .inl (cI, 120, .inl (fun j => nI (xf j)))), (tb, .inr (0, [.ref tbw, .int (nI yn)])), (tbw, .inl (cI, 658, .inl (fun j => nI (yg j))))]) 0 0 := by
  refine MI.start (by decide) (Nat.le_of_ble_eq_true rfl) (lv0 := [(0, .ref o), (1, .int (nI 1))]) rfl ?_
  intro pp9 ee9 ss9 mm9 args9 below9 meth9 co9 A9 Q9 hQ hC hr hlk hnm
  refine V_iload_n hC dX8_fault_0 rfl 1 rfl ?_
  refine V_if_lt_F (tgt := 9) hC dX8_fault_1 (by decide) (nI_pos (by omega)) ?_
  refine V_iload_n hC dX8_fault_4 rfl 1 rfl ?_
  refine V_iconst (v := nI 1) hC dX8_fault_5 (by decide) ?_
  refine V_icmp_le_T (tgt := 11) hC dX8_fault_6 (by decide) (nI_le (by omega) (by omega)) ?_
  refine V_aload_n hC dX8_fault_11 rfl 0 rfl ?_
  refine V_calliV (As := []) (rest := []) (wr := []) hC (c_X8_faultReason_1 l D cI cQ o me kc tc rd tx tb hi ml rco rcr rsp rle txr tbw rz rv rk ro rT rH rp rb rl ru yn n e p b g rF rlf xf yg _ (hT) (by omega) (hT2) (by omega)) mok_X8_faultReason ml_X8_188 (q1 := 0) rfl cls_X8 rfl rfl rfl (by decide) (by decide) (by decide) (Nat.le_of_ble_eq_true rfl) [0, 1, 2, 3, 4, 5, 6, 7, 8, 9, 10, 11] [] rfl (by decide) rfl (by decide) (by decide) dX8_fault_12 rfl (fun r9 u9 h12 => ?_)
  obtain ⟨rfl, h12⟩ := h12
  clear h12
  refine V_perm (ws2 := [(o, .inr (8, [.ref me, .ref kc, .ref tc, .ref rd, .ref tx, .ref tb, .ref hi])), (me, .inr (4, [.ref ml, .int (nI n), .int (nI e), .int (nI p), .int (nI b)])), (ml, .inl (cI, 40, .inl (fun j => nI (g j)))), (rd, .inr (5, [.ref rco, .ref rsp, .ref rle, .int (nI rz), .int (nI rv), .int (nI rk), .int (nI ro)])), (rco, .inr (2, [.ref rcr, .int (nI rT), .int (nI rH), .int (nI rp), .int (nI rb)])), (rcr, .inl (cI, 9, .inl (fun j => nI (rF j)))), (rsp, .inr (6, [.int (nI rl), .int (nI ru)])), (rle, .inl (cI, 40, .inl (fun j => nI (rlf j)))), (tx, .inr (7, [.ref txr, .int (nI (T.length))])), (txr, .inl (cI, 120, .inl (fun j => nI (xf j)))), (tb, .inr (0, [.ref tbw, .int (nI yn)])), (tbw, .inl (cI, 658, .inl (fun j => nI (yg j))))]) [0, 1, 2, 3, 4, 5, 6, 7, 8, 9, 10, 11] rfl (by decide) ?_
  refine V_istore_n (lv2 := [(0, .ref o), (1, .int (nI 1)), (2, .int (nI 1))]) hC dX8_fault_15 rfl (by decide) [1, 2, 0] rfl ?_
  refine V_iload_n hC dX8_fault_16 rfl 2 rfl ?_
  refine V_if_ne_T (tgt := 23) hC dX8_fault_17 (by decide) (nI_ne0 (by omega) (by omega)) ?_
  refine V_iload_n hC dX8_fault_23 rfl 1 rfl ?_
  refine V_if_ne_T (tgt := 35) hC dX8_fault_24 (by decide) (nI_ne0 (by omega) (by omega)) ?_
  refine V_iload_n hC dX8_fault_35 rfl 2 rfl ?_
  subst hQ
  exact V_iret hC hr hlk rfl (by decide) (by decide) dX8_fault_36 (()) [0, 1, 2, 3, 4, 5, 6, 7, 8, 9, 10, 11] rfl (by decide) (⟨rfl, trivial⟩)
abbrev rm_X8_fault_0 : Room := { frames := 6, cells := 0, slots := 0, locals := 139 }
set_option maxHeartbeats 4000000 in
set_option maxRecDepth 100000 in
theorem c_X8_fault_0 (l : Launch) (D : va_G) (cI cQ : ClassId) (o me kc tc rd tx tb hi ml rco rcr rsp rle txr tbw rz rv rk ro rT rH rp rb rl ru yn n e p b : Nat) (g rF rlf xf yg : Nat → Nat) (T : List Nat) (hT : rep xf T) (hT1 : T.length ≤ 120) (hT2 : ∀ j, j < T.length → T.getD j 0 < 1000) (hp : p ≤ 64) (hb : b ≤ 2000) (hx : T.length ≤ stT T) (hfr : frn p b T = 0) : MI l yX8_fault cX8_fault 3 (some .int) rm_X8_fault_0 D (TY cI cQ) [.ref o, .int (nI 0)] [(o, .inr (8, [.ref me, .ref kc, .ref tc, .ref rd, .ref tx, .ref tb, .ref hi])), (me, .inr (4, [.ref ml, .int (nI n), .int (nI e), .int (nI p), .int (nI b)])), (ml, .inl (cI, 40, .inl (fun j => nI (g j)))), (rd, .inr (5, [.ref rco, .ref rsp, .ref rle, .int (nI rz), .int (nI rv), .int (nI rk), .int (nI ro)])), (rco, .inr (2, [.ref rcr, .int (nI rT), .int (nI rH), .int (nI rp), .int (nI rb)])), (rcr, .inl (cI, 9, .inl (fun j => nI (rF j)))), (rsp, .inr (6, [.int (nI rl), .int (nI ru)])), (rle, .inl (cI, 40, .inl (fun j => nI (rlf j)))), (tx, .inr (7, [.ref txr, .int (nI (T.length))])), (txr, .inl (cI, 120, .inl (fun j => nI (xf j)))), (tb, .inr (0, [.ref tbw, .int (nI yn)])), (tbw, .inl (cI, 658, .inl (fun j => nI (yg j))))] (fun (r9 : Int32) (u : (Nat → Nat) × (Nat → Nat)) => r9 = (-4) ∧ (True)) (fun (u : (Nat → Nat) × (Nat → Nat)) => [(o, .inr (8, [.ref me, .ref kc, .ref tc, .ref rd, .ref tx, .ref tb, .ref hi])), (me, .inr (4, [.ref ml, .int (nI n), .int (nI e), .int (nI p), .int (nI b)])), (ml, .inl (cI, 40, .inl (fun j => nI (g j)))), (rd, .inr (5, [.ref rco, .ref rsp, .ref rle, .int (nI ((qR ((rdF p b (bT T)).2)).length)), .int (nI (qV ((rdF p b (bT T)).2))), .int (nI (qK ((rdF p b (bT T)).2))), .int (nI ((rdF p b (bT T)).1))])), (rco, .inr (2, [.ref rcr, .int (nI (qT ((rdF p b (bT T)).2))), .int (nI (qH ((rdF p b (bT T)).2))), .int (nI p), .int (nI b)])), (rcr, .inl (cI, 9, .inl (fun j => nI ((qF ((rdF p b (bT T)).2)) j)))), (rsp, .inr (6, [.int (nI (qL ((rdF p b (bT T)).2))), .int (nI (qU ((rdF p b (bT T)).2)))])), (rle, .inl (cI, 40, .inl (fun j => nI (u.1 j)))), (tx, .inr (7, [.ref txr, .int (nI (T.length))])), (txr, .inl (cI, 120, .inl (fun j => nI (xf j)))), (tb, .inr (0, [.ref tbw, .int (nI (T.length))])), (tbw, .inl (cI, 658, .inl (fun j => nI (u.2 j))))]) 0 0 := by
  refine MI.start (by decide) (Nat.le_of_ble_eq_true rfl) (lv0 := [(0, .ref o), (1, .int (nI 0))]) rfl ?_
  intro pp9 ee9 ss9 mm9 args9 below9 meth9 co9 A9 Q9 hQ hC hr hlk hnm
  have hok := rdd_ok (bT2 T) hp hb 41 (rd0 (bT T)) (okR_0 (bT2 T))
  have hov : (rdF p b (bT T)).1 < 2 := hok.2
  have hqr : (qR (rdF p b (bT T)).2).length ≤ 40 := hok.1.2.2.2.2.2.2
  have hq9 := rdd_lt (bT2 T) hp hb 41 (rd0 (bT T)) (okR_0 (bT2 T)) (fun x hx => absurd hx List.not_mem_nil)
  refine V_iload_n hC dX8_fault_0 rfl 1 rfl ?_
  refine V_if_lt_F (tgt := 9) hC dX8_fault_1 (by decide) (nI_pos (by omega)) ?_
  refine V_iload_n hC dX8_fault_4 rfl 1 rfl ?_
  refine V_iconst (v := nI 1) hC dX8_fault_5 (by decide) ?_
  refine V_icmp_le_T (tgt := 11) hC dX8_fault_6 (by decide) (nI_le (by omega) (by omega)) ?_
  refine V_aload_n hC dX8_fault_11 rfl 0 rfl ?_
  refine V_calliV (As := []) (rest := []) (wr := []) hC (c_X8_faultReason_n l D cI cQ o me kc tc rd tx tb hi ml rco rcr rsp rle txr tbw rz rv rk ro rT rH rp rb rl ru yn n e p b g rF rlf xf yg _ (hT) (by omega) (hT2) (by omega) (by omega) (by omega)) mok_X8_faultReason ml_X8_188 (q1 := 0) rfl cls_X8 rfl rfl rfl (by decide) (by decide) (by decide) (Nat.le_of_ble_eq_true rfl) [0, 1, 2, 3, 4, 5, 6, 7, 8, 9, 10, 11] [] rfl (by decide) rfl (by decide) (by decide) dX8_fault_12 rfl (fun r9 u9 h12 => ?_)
  obtain ⟨rlf2_1, yg2_2⟩ := u9
  obtain ⟨rfl, h12⟩ := h12
  have h12 : rep rlf2_1 (qR (rdF p b (bT T)).2) ∧ ∀ j, j < T.length → yg2_2 j = bT T j := h12
  refine V_perm (ws2 := [(o, .inr (8, [.ref me, .ref kc, .ref tc, .ref rd, .ref tx, .ref tb, .ref hi])), (me, .inr (4, [.ref ml, .int (nI n), .int (nI e), .int (nI p), .int (nI b)])), (ml, .inl (cI, 40, .inl (fun j => nI (g j)))), (rd, .inr (5, [.ref rco, .ref rsp, .ref rle, .int (nI ((qR ((rdF p b (bT T)).2)).length)), .int (nI (qV ((rdF p b (bT T)).2))), .int (nI (qK ((rdF p b (bT T)).2))), .int (nI ((rdF p b (bT T)).1))])), (rco, .inr (2, [.ref rcr, .int (nI (qT ((rdF p b (bT T)).2))), .int (nI (qH ((rdF p b (bT T)).2))), .int (nI p), .int (nI b)])), (rcr, .inl (cI, 9, .inl (fun j => nI ((qF ((rdF p b (bT T)).2)) j)))), (rsp, .inr (6, [.int (nI (qL ((rdF p b (bT T)).2))), .int (nI (qU ((rdF p b (bT T)).2)))])), (rle, .inl (cI, 40, .inl (fun j => nI (rlf2_1 j)))), (tx, .inr (7, [.ref txr, .int (nI (T.length))])), (txr, .inl (cI, 120, .inl (fun j => nI (xf j)))), (tb, .inr (0, [.ref tbw, .int (nI (T.length))])), (tbw, .inl (cI, 658, .inl (fun j => nI (yg2_2 j))))]) [0, 1, 2, 3, 4, 5, 6, 7, 8, 9, 10, 11] rfl (by decide) ?_
  refine V_st (st2 := [.int (nI 0)]) (by rw [show (frn p b T) = (0) from hfr]) ?_
  refine V_istore_n (lv2 := [(0, .ref o), (1, .int (nI 0)), (2, .int (nI 0))]) hC dX8_fault_15 rfl (by decide) [1, 2, 0] rfl ?_
  refine V_iload_n hC dX8_fault_16 rfl 2 rfl ?_
  refine V_if_ne_F (tgt := 23) hC dX8_fault_17 (by decide) ((congrArg nI (show 0 = 0 by omega)).trans nI_0) ?_
  refine V_bipush (v := -4) hC dX8_fault_20 (by decide) ?_
  subst hQ
  exact V_iret hC hr hlk rfl (by decide) (by decide) dX8_fault_22 ((rlf2_1, yg2_2)) [0, 1, 2, 3, 4, 5, 6, 7, 8, 9, 10, 11] rfl (by decide) (⟨rfl, trivial⟩)
abbrev rm_X8_fault_0b : Room := { frames := 6, cells := 0, slots := 0, locals := 139 }
set_option maxHeartbeats 4000000 in
set_option maxRecDepth 100000 in
theorem c_X8_fault_0b (l : Launch) (D : va_G) (cI cQ : ClassId) (o me kc tc rd tx tb hi ml rco rcr rsp rle txr tbw rz rv rk ro rT rH rp rb rl ru yn n e p b : Nat) (g rF rlf xf yg : Nat → Nat) (T : List Nat) (hT : rep xf T) (hT1 : T.length ≤ 120) (hT2 : ∀ j, j < T.length → T.getD j 0 < 1000) (hp : p ≤ 64) (hb : b ≤ 2000) (hx : T.length ≤ stT T) (hfr : frn p b T = 0) : MI l yX8_fault cX8_fault 3 (some .int) rm_X8_fault_0b D (TY cI cQ) [.ref o, .int (nI 1)] [(o, .inr (8, [.ref me, .ref kc, .ref tc, .ref rd, .ref tx, .ref tb, .ref hi])), (me, .inr (4, [.ref ml, .int (nI n), .int (nI e), .int (nI p), .int (nI b)])), (ml, .inl (cI, 40, .inl (fun j => nI (g j)))), (rd, .inr (5, [.ref rco, .ref rsp, .ref rle, .int (nI rz), .int (nI rv), .int (nI rk), .int (nI ro)])), (rco, .inr (2, [.ref rcr, .int (nI rT), .int (nI rH), .int (nI rp), .int (nI rb)])), (rcr, .inl (cI, 9, .inl (fun j => nI (rF j)))), (rsp, .inr (6, [.int (nI rl), .int (nI ru)])), (rle, .inl (cI, 40, .inl (fun j => nI (rlf j)))), (tx, .inr (7, [.ref txr, .int (nI (T.length))])), (txr, .inl (cI, 120, .inl (fun j => nI (xf j)))), (tb, .inr (0, [.ref tbw, .int (nI yn)])), (tbw, .inl (cI, 658, .inl (fun j => nI (yg j))))] (fun (r9 : Int32) (u : (Nat → Nat) × (Nat → Nat)) => r9 = (-4) ∧ (True)) (fun (u : (Nat → Nat) × (Nat → Nat)) => [(o, .inr (8, [.ref me, .ref kc, .ref tc, .ref rd, .ref tx, .ref tb, .ref hi])), (me, .inr (4, [.ref ml, .int (nI n), .int (nI e), .int (nI p), .int (nI b)])), (ml, .inl (cI, 40, .inl (fun j => nI (g j)))), (rd, .inr (5, [.ref rco, .ref rsp, .ref rle, .int (nI ((qR ((rdF p b (bT T)).2)).length)), .int (nI (qV ((rdF p b (bT T)).2))), .int (nI (qK ((rdF p b (bT T)).2))), .int (nI ((rdF p b (bT T)).1))])), (rco, .inr (2, [.ref rcr, .int (nI (qT ((rdF p b (bT T)).2))), .int (nI (qH ((rdF p b (bT T)).2))), .int (nI p), .int (nI b)])), (rcr, .inl (cI, 9, .inl (fun j => nI ((qF ((rdF p b (bT T)).2)) j)))), (rsp, .inr (6, [.int (nI (qL ((rdF p b (bT T)).2))), .int (nI (qU ((rdF p b (bT T)).2)))])), (rle, .inl (cI, 40, .inl (fun j => nI (u.1 j)))), (tx, .inr (7, [.ref txr, .int (nI (T.length))])), (txr, .inl (cI, 120, .inl (fun j => nI (xf j)))), (tb, .inr (0, [.ref tbw, .int (nI (T.length))])), (tbw, .inl (cI, 658, .inl (fun j => nI (u.2 j))))]) 0 0 := by
  refine MI.start (by decide) (Nat.le_of_ble_eq_true rfl) (lv0 := [(0, .ref o), (1, .int (nI 1))]) rfl ?_
  intro pp9 ee9 ss9 mm9 args9 below9 meth9 co9 A9 Q9 hQ hC hr hlk hnm
  have hok := rdd_ok (bT2 T) hp hb 41 (rd0 (bT T)) (okR_0 (bT2 T))
  have hov : (rdF p b (bT T)).1 < 2 := hok.2
  have hqr : (qR (rdF p b (bT T)).2).length ≤ 40 := hok.1.2.2.2.2.2.2
  have hq9 := rdd_lt (bT2 T) hp hb 41 (rd0 (bT T)) (okR_0 (bT2 T)) (fun x hx => absurd hx List.not_mem_nil)
  refine V_iload_n hC dX8_fault_0 rfl 1 rfl ?_
  refine V_if_lt_F (tgt := 9) hC dX8_fault_1 (by decide) (nI_pos (by omega)) ?_
  refine V_iload_n hC dX8_fault_4 rfl 1 rfl ?_
  refine V_iconst (v := nI 1) hC dX8_fault_5 (by decide) ?_
  refine V_icmp_le_T (tgt := 11) hC dX8_fault_6 (by decide) (nI_le (by omega) (by omega)) ?_
  refine V_aload_n hC dX8_fault_11 rfl 0 rfl ?_
  refine V_calliV (As := []) (rest := []) (wr := []) hC (c_X8_faultReason_n l D cI cQ o me kc tc rd tx tb hi ml rco rcr rsp rle txr tbw rz rv rk ro rT rH rp rb rl ru yn n e p b g rF rlf xf yg _ (hT) (by omega) (hT2) (by omega) (by omega) (by omega)) mok_X8_faultReason ml_X8_188 (q1 := 0) rfl cls_X8 rfl rfl rfl (by decide) (by decide) (by decide) (Nat.le_of_ble_eq_true rfl) [0, 1, 2, 3, 4, 5, 6, 7, 8, 9, 10, 11] [] rfl (by decide) rfl (by decide) (by decide) dX8_fault_12 rfl (fun r9 u9 h12 => ?_)
  obtain ⟨rlf2_1, yg2_2⟩ := u9
  obtain ⟨rfl, h12⟩ := h12
  have h12 : rep rlf2_1 (qR (rdF p b (bT T)).2) ∧ ∀ j, j < T.length → yg2_2 j = bT T j := h12
  refine V_perm (ws2 := [(o, .inr (8, [.ref me, .ref kc, .ref tc, .ref rd, .ref tx, .ref tb, .ref hi])), (me, .inr (4, [.ref ml, .int (nI n), .int (nI e), .int (nI p), .int (nI b)])), (ml, .inl (cI, 40, .inl (fun j => nI (g j)))), (rd, .inr (5, [.ref rco, .ref rsp, .ref rle, .int (nI ((qR ((rdF p b (bT T)).2)).length)), .int (nI (qV ((rdF p b (bT T)).2))), .int (nI (qK ((rdF p b (bT T)).2))), .int (nI ((rdF p b (bT T)).1))])), (rco, .inr (2, [.ref rcr, .int (nI (qT ((rdF p b (bT T)).2))), .int (nI (qH ((rdF p b (bT T)).2))), .int (nI p), .int (nI b)])), (rcr, .inl (cI, 9, .inl (fun j => nI ((qF ((rdF p b (bT T)).2)) j)))), (rsp, .inr (6, [.int (nI (qL ((rdF p b (bT T)).2))), .int (nI (qU ((rdF p b (bT T)).2)))])), (rle, .inl (cI, 40, .inl (fun j => nI (rlf2_1 j)))), (tx, .inr (7, [.ref txr, .int (nI (T.length))])), (txr, .inl (cI, 120, .inl (fun j => nI (xf j)))), (tb, .inr (0, [.ref tbw, .int (nI (T.length))])), (tbw, .inl (cI, 658, .inl (fun j => nI (yg2_2 j))))]) [0, 1, 2, 3, 4, 5, 6, 7, 8, 9, 10, 11] rfl (by decide) ?_
  refine V_st (st2 := [.int (nI 0)]) (by rw [show (frn p b T) = (0) from hfr]) ?_
  refine V_istore_n (lv2 := [(0, .ref o), (1, .int (nI 1)), (2, .int (nI 0))]) hC dX8_fault_15 rfl (by decide) [1, 2, 0] rfl ?_
  refine V_iload_n hC dX8_fault_16 rfl 2 rfl ?_
  refine V_if_ne_F (tgt := 23) hC dX8_fault_17 (by decide) ((congrArg nI (show 0 = 0 by omega)).trans nI_0) ?_
  refine V_bipush (v := -4) hC dX8_fault_20 (by decide) ?_
  subst hQ
  exact V_iret hC hr hlk rfl (by decide) (by decide) dX8_fault_22 ((rlf2_1, yg2_2)) [0, 1, 2, 3, 4, 5, 6, 7, 8, 9, 10, 11] rfl (by decide) (⟨rfl, trivial⟩)
abbrev rm_X8_fault_2a : Room := { frames := 6, cells := 0, slots := 0, locals := 139 }
set_option maxHeartbeats 4000000 in
set_option maxRecDepth 100000 in
theorem c_X8_fault_2a (l : Launch) (D : va_G) (cI cQ : ClassId) (o me kc tc rd tx tb hi ml rco rcr rsp rle txr tbw rz rv rk ro rT rH rp rb rl ru yn n e p b : Nat) (g rF rlf xf yg : Nat → Nat) (T : List Nat) (hT : rep xf T) (hT1 : T.length ≤ 120) (hT2 : ∀ j, j < T.length → T.getD j 0 < 1000) (hp : p ≤ 64) (hb : b ≤ 2000) (hx : T.length ≤ stT T) (hfr : frn p b T = 2) : MI l yX8_fault cX8_fault 3 (some .int) rm_X8_fault_2a D (TY cI cQ) [.ref o, .int (nI 0)] [(o, .inr (8, [.ref me, .ref kc, .ref tc, .ref rd, .ref tx, .ref tb, .ref hi])), (me, .inr (4, [.ref ml, .int (nI n), .int (nI e), .int (nI p), .int (nI b)])), (ml, .inl (cI, 40, .inl (fun j => nI (g j)))), (rd, .inr (5, [.ref rco, .ref rsp, .ref rle, .int (nI rz), .int (nI rv), .int (nI rk), .int (nI ro)])), (rco, .inr (2, [.ref rcr, .int (nI rT), .int (nI rH), .int (nI rp), .int (nI rb)])), (rcr, .inl (cI, 9, .inl (fun j => nI (rF j)))), (rsp, .inr (6, [.int (nI rl), .int (nI ru)])), (rle, .inl (cI, 40, .inl (fun j => nI (rlf j)))), (tx, .inr (7, [.ref txr, .int (nI (T.length))])), (txr, .inl (cI, 120, .inl (fun j => nI (xf j)))), (tb, .inr (0, [.ref tbw, .int (nI yn)])), (tbw, .inl (cI, 658, .inl (fun j => nI (yg j))))] (fun (r9 : Int32) (u : (Nat → Nat) × (Nat → Nat)) => r9 = (nI (T.length)) ∧ (True)) (fun (u : (Nat → Nat) × (Nat → Nat)) => [(o, .inr (8, [.ref me, .ref kc, .ref tc, .ref rd, .ref tx, .ref tb, .ref hi])), (me, .inr (4, [.ref ml, .int (nI n), .int (nI e), .int (nI p), .int (nI b)])), (ml, .inl (cI, 40, .inl (fun j => nI (g j)))), (rd, .inr (5, [.ref rco, .ref rsp, .ref rle, .int (nI ((qR ((rdF p b (bT T)).2)).length)), .int (nI (qV ((rdF p b (bT T)).2))), .int (nI (qK ((rdF p b (bT T)).2))), .int (nI ((rdF p b (bT T)).1))])), (rco, .inr (2, [.ref rcr, .int (nI (qT ((rdF p b (bT T)).2))), .int (nI (qH ((rdF p b (bT T)).2))), .int (nI p), .int (nI b)])), (rcr, .inl (cI, 9, .inl (fun j => nI ((qF ((rdF p b (bT T)).2)) j)))), (rsp, .inr (6, [.int (nI (qL ((rdF p b (bT T)).2))), .int (nI (qU ((rdF p b (bT T)).2)))])), (rle, .inl (cI, 40, .inl (fun j => nI (u.1 j)))), (tx, .inr (7, [.ref txr, .int (nI (T.length))])), (txr, .inl (cI, 120, .inl (fun j => nI (xf j)))), (tb, .inr (0, [.ref tbw, .int (nI (T.length))])), (tbw, .inl (cI, 658, .inl (fun j => nI (u.2 j))))]) 0 0 := by
  refine MI.start (by decide) (Nat.le_of_ble_eq_true rfl) (lv0 := [(0, .ref o), (1, .int (nI 0))]) rfl ?_
  intro pp9 ee9 ss9 mm9 args9 below9 meth9 co9 A9 Q9 hQ hC hr hlk hnm
  have hok := rdd_ok (bT2 T) hp hb 41 (rd0 (bT T)) (okR_0 (bT2 T))
  have hov : (rdF p b (bT T)).1 < 2 := hok.2
  have hqr : (qR (rdF p b (bT T)).2).length ≤ 40 := hok.1.2.2.2.2.2.2
  have hq9 := rdd_lt (bT2 T) hp hb 41 (rd0 (bT T)) (okR_0 (bT2 T)) (fun x hx => absurd hx List.not_mem_nil)
  refine V_iload_n hC dX8_fault_0 rfl 1 rfl ?_
  refine V_if_lt_F (tgt := 9) hC dX8_fault_1 (by decide) (nI_pos (by omega)) ?_
  refine V_iload_n hC dX8_fault_4 rfl 1 rfl ?_
  refine V_iconst (v := nI 1) hC dX8_fault_5 (by decide) ?_
  refine V_icmp_le_T (tgt := 11) hC dX8_fault_6 (by decide) (nI_le (by omega) (by omega)) ?_
  refine V_aload_n hC dX8_fault_11 rfl 0 rfl ?_
  refine V_calliV (As := []) (rest := []) (wr := []) hC (c_X8_faultReason_n l D cI cQ o me kc tc rd tx tb hi ml rco rcr rsp rle txr tbw rz rv rk ro rT rH rp rb rl ru yn n e p b g rF rlf xf yg _ (hT) (by omega) (hT2) (by omega) (by omega) (by omega)) mok_X8_faultReason ml_X8_188 (q1 := 0) rfl cls_X8 rfl rfl rfl (by decide) (by decide) (by decide) (Nat.le_of_ble_eq_true rfl) [0, 1, 2, 3, 4, 5, 6, 7, 8, 9, 10, 11] [] rfl (by decide) rfl (by decide) (by decide) dX8_fault_12 rfl (fun r9 u9 h12 => ?_)
  obtain ⟨rlf2_1, yg2_2⟩ := u9
  obtain ⟨rfl, h12⟩ := h12
  have h12 : rep rlf2_1 (qR (rdF p b (bT T)).2) ∧ ∀ j, j < T.length → yg2_2 j = bT T j := h12
  refine V_perm (ws2 := [(o, .inr (8, [.ref me, .ref kc, .ref tc, .ref rd, .ref tx, .ref tb, .ref hi])), (me, .inr (4, [.ref ml, .int (nI n), .int (nI e), .int (nI p), .int (nI b)])), (ml, .inl (cI, 40, .inl (fun j => nI (g j)))), (rd, .inr (5, [.ref rco, .ref rsp, .ref rle, .int (nI ((qR ((rdF p b (bT T)).2)).length)), .int (nI (qV ((rdF p b (bT T)).2))), .int (nI (qK ((rdF p b (bT T)).2))), .int (nI ((rdF p b (bT T)).1))])), (rco, .inr (2, [.ref rcr, .int (nI (qT ((rdF p b (bT T)).2))), .int (nI (qH ((rdF p b (bT T)).2))), .int (nI p), .int (nI b)])), (rcr, .inl (cI, 9, .inl (fun j => nI ((qF ((rdF p b (bT T)).2)) j)))), (rsp, .inr (6, [.int (nI (qL ((rdF p b (bT T)).2))), .int (nI (qU ((rdF p b (bT T)).2)))])), (rle, .inl (cI, 40, .inl (fun j => nI (rlf2_1 j)))), (tx, .inr (7, [.ref txr, .int (nI (T.length))])), (txr, .inl (cI, 120, .inl (fun j => nI (xf j)))), (tb, .inr (0, [.ref tbw, .int (nI (T.length))])), (tbw, .inl (cI, 658, .inl (fun j => nI (yg2_2 j))))]) [0, 1, 2, 3, 4, 5, 6, 7, 8, 9, 10, 11] rfl (by decide) ?_
  refine V_st (st2 := [.int (nI 2)]) (by rw [show (frn p b T) = (2) from hfr]) ?_
  refine V_istore_n (lv2 := [(0, .ref o), (1, .int (nI 0)), (2, .int (nI 2))]) hC dX8_fault_15 rfl (by decide) [1, 2, 0] rfl ?_
  refine V_iload_n hC dX8_fault_16 rfl 2 rfl ?_
  refine V_if_ne_T (tgt := 23) hC dX8_fault_17 (by decide) (nI_ne0 (by omega) (by omega)) ?_
  refine V_iload_n hC dX8_fault_23 rfl 1 rfl ?_
  refine V_if_ne_F (tgt := 35) hC dX8_fault_24 (by decide) ((congrArg nI (show 0 = 0 by omega)).trans nI_0) ?_
  refine V_aload_n hC dX8_fault_27 rfl 0 rfl ?_
  refine V_iload_n hC dX8_fault_28 rfl 2 rfl ?_
  refine V_calliV (As := [.int (nI 2)]) (rest := []) (wr := [(me, .inr (4, [.ref ml, .int (nI n), .int (nI e), .int (nI p), .int (nI b)])), (ml, .inl (cI, 40, .inl (fun j => nI (g j)))), (rd, .inr (5, [.ref rco, .ref rsp, .ref rle, .int (nI ((qR ((rdF p b (bT T)).2)).length)), .int (nI (qV ((rdF p b (bT T)).2))), .int (nI (qK ((rdF p b (bT T)).2))), .int (nI ((rdF p b (bT T)).1))])), (rco, .inr (2, [.ref rcr, .int (nI (qT ((rdF p b (bT T)).2))), .int (nI (qH ((rdF p b (bT T)).2))), .int (nI p), .int (nI b)])), (rcr, .inl (cI, 9, .inl (fun j => nI ((qF ((rdF p b (bT T)).2)) j)))), (rsp, .inr (6, [.int (nI (qL ((rdF p b (bT T)).2))), .int (nI (qU ((rdF p b (bT T)).2)))])), (rle, .inl (cI, 40, .inl (fun j => nI (rlf2_1 j)))), (tb, .inr (0, [.ref tbw, .int (nI (T.length))])), (tbw, .inl (cI, 658, .inl (fun j => nI (yg2_2 j))))]) hC (c_X8_faultPlace_2 l D cI cQ o me kc tc rd tx tb hi txr T.length xf ) mok_X8_faultPlace ml_X8_191 (q1 := 0) rfl cls_X8 rfl rfl rfl (by decide) (by decide) (by decide) (Nat.le_of_ble_eq_true rfl) [0, 8, 9] [1, 2, 3, 4, 5, 6, 7, 10, 11] rfl (by decide) rfl (by decide) (by decide) dX8_fault_29 rfl (fun r9 u9 h29 => ?_)
  obtain ⟨rfl, h29⟩ := h29
  clear h29
  refine V_perm (ws2 := [(o, .inr (8, [.ref me, .ref kc, .ref tc, .ref rd, .ref tx, .ref tb, .ref hi])), (me, .inr (4, [.ref ml, .int (nI n), .int (nI e), .int (nI p), .int (nI b)])), (ml, .inl (cI, 40, .inl (fun j => nI (g j)))), (rd, .inr (5, [.ref rco, .ref rsp, .ref rle, .int (nI ((qR ((rdF p b (bT T)).2)).length)), .int (nI (qV ((rdF p b (bT T)).2))), .int (nI (qK ((rdF p b (bT T)).2))), .int (nI ((rdF p b (bT T)).1))])), (rco, .inr (2, [.ref rcr, .int (nI (qT ((rdF p b (bT T)).2))), .int (nI (qH ((rdF p b (bT T)).2))), .int (nI p), .int (nI b)])), (rcr, .inl (cI, 9, .inl (fun j => nI ((qF ((rdF p b (bT T)).2)) j)))), (rsp, .inr (6, [.int (nI (qL ((rdF p b (bT T)).2))), .int (nI (qU ((rdF p b (bT T)).2)))])), (rle, .inl (cI, 40, .inl (fun j => nI (rlf2_1 j)))), (tx, .inr (7, [.ref txr, .int (nI (T.length))])), (txr, .inl (cI, 120, .inl (fun j => nI (xf j)))), (tb, .inr (0, [.ref tbw, .int (nI (T.length))])), (tbw, .inl (cI, 658, .inl (fun j => nI (yg2_2 j))))]) [9, 0, 1, 2, 3, 4, 5, 6, 10, 11, 7, 8] rfl (by decide) ?_
  refine V_goto (tgt := 36) hC dX8_fault_32 (by decide) ?_
  subst hQ
  exact V_iret hC hr hlk rfl (by decide) (by decide) dX8_fault_36 ((rlf2_1, yg2_2)) [0, 1, 2, 3, 4, 5, 6, 7, 8, 9, 10, 11] rfl (by decide) (⟨rfl, trivial⟩)
abbrev rm_X8_fault_2b : Room := { frames := 6, cells := 0, slots := 0, locals := 139 }
set_option maxHeartbeats 4000000 in
set_option maxRecDepth 100000 in
theorem c_X8_fault_2b (l : Launch) (D : va_G) (cI cQ : ClassId) (o me kc tc rd tx tb hi ml rco rcr rsp rle txr tbw rz rv rk ro rT rH rp rb rl ru yn n e p b : Nat) (g rF rlf xf yg : Nat → Nat) (T : List Nat) (hT : rep xf T) (hT1 : T.length ≤ 120) (hT2 : ∀ j, j < T.length → T.getD j 0 < 1000) (hp : p ≤ 64) (hb : b ≤ 2000) (hx : T.length ≤ stT T) (hfr : frn p b T = 2) : MI l yX8_fault cX8_fault 3 (some .int) rm_X8_fault_2b D (TY cI cQ) [.ref o, .int (nI 1)] [(o, .inr (8, [.ref me, .ref kc, .ref tc, .ref rd, .ref tx, .ref tb, .ref hi])), (me, .inr (4, [.ref ml, .int (nI n), .int (nI e), .int (nI p), .int (nI b)])), (ml, .inl (cI, 40, .inl (fun j => nI (g j)))), (rd, .inr (5, [.ref rco, .ref rsp, .ref rle, .int (nI rz), .int (nI rv), .int (nI rk), .int (nI ro)])), (rco, .inr (2, [.ref rcr, .int (nI rT), .int (nI rH), .int (nI rp), .int (nI rb)])), (rcr, .inl (cI, 9, .inl (fun j => nI (rF j)))), (rsp, .inr (6, [.int (nI rl), .int (nI ru)])), (rle, .inl (cI, 40, .inl (fun j => nI (rlf j)))), (tx, .inr (7, [.ref txr, .int (nI (T.length))])), (txr, .inl (cI, 120, .inl (fun j => nI (xf j)))), (tb, .inr (0, [.ref tbw, .int (nI yn)])), (tbw, .inl (cI, 658, .inl (fun j => nI (yg j))))] (fun (r9 : Int32) (u : (Nat → Nat) × (Nat → Nat)) => r9 = (nI 2) ∧ (True)) (fun (u : (Nat → Nat) × (Nat → Nat)) => [(o, .inr (8, [.ref me, .ref kc, .ref tc, .ref rd, .ref tx, .ref tb, .ref hi])), (me, .inr (4, [.ref ml, .int (nI n), .int (nI e), .int (nI p), .int (nI b)])), (ml, .inl (cI, 40, .inl (fun j => nI (g j)))), (rd, .inr (5, [.ref rco, .ref rsp, .ref rle, .int (nI ((qR ((rdF p b (bT T)).2)).length)), .int (nI (qV ((rdF p b (bT T)).2))), .int (nI (qK ((rdF p b (bT T)).2))), .int (nI ((rdF p b (bT T)).1))])), (rco, .inr (2, [.ref rcr, .int (nI (qT ((rdF p b (bT T)).2))), .int (nI (qH ((rdF p b (bT T)).2))), .int (nI p), .int (nI b)])), (rcr, .inl (cI, 9, .inl (fun j => nI ((qF ((rdF p b (bT T)).2)) j)))), (rsp, .inr (6, [.int (nI (qL ((rdF p b (bT T)).2))), .int (nI (qU ((rdF p b (bT T)).2)))])), (rle, .inl (cI, 40, .inl (fun j => nI (u.1 j)))), (tx, .inr (7, [.ref txr, .int (nI (T.length))])), (txr, .inl (cI, 120, .inl (fun j => nI (xf j)))), (tb, .inr (0, [.ref tbw, .int (nI (T.length))])), (tbw, .inl (cI, 658, .inl (fun j => nI (u.2 j))))]) 0 0 := by
  refine MI.start (by decide) (Nat.le_of_ble_eq_true rfl) (lv0 := [(0, .ref o), (1, .int (nI 1))]) rfl ?_
  intro pp9 ee9 ss9 mm9 args9 below9 meth9 co9 A9 Q9 hQ hC hr hlk hnm
  have hok := rdd_ok (bT2 T) hp hb 41 (rd0 (bT T)) (okR_0 (bT2 T))
  have hov : (rdF p b (bT T)).1 < 2 := hok.2
  have hqr : (qR (rdF p b (bT T)).2).length ≤ 40 := hok.1.2.2.2.2.2.2
  have hq9 := rdd_lt (bT2 T) hp hb 41 (rd0 (bT T)) (okR_0 (bT2 T)) (fun x hx => absurd hx List.not_mem_nil)
  refine V_iload_n hC dX8_fault_0 rfl 1 rfl ?_
  refine V_if_lt_F (tgt := 9) hC dX8_fault_1 (by decide) (nI_pos (by omega)) ?_
  refine V_iload_n hC dX8_fault_4 rfl 1 rfl ?_
  refine V_iconst (v := nI 1) hC dX8_fault_5 (by decide) ?_
  refine V_icmp_le_T (tgt := 11) hC dX8_fault_6 (by decide) (nI_le (by omega) (by omega)) ?_
  refine V_aload_n hC dX8_fault_11 rfl 0 rfl ?_
  refine V_calliV (As := []) (rest := []) (wr := []) hC (c_X8_faultReason_n l D cI cQ o me kc tc rd tx tb hi ml rco rcr rsp rle txr tbw rz rv rk ro rT rH rp rb rl ru yn n e p b g rF rlf xf yg _ (hT) (by omega) (hT2) (by omega) (by omega) (by omega)) mok_X8_faultReason ml_X8_188 (q1 := 0) rfl cls_X8 rfl rfl rfl (by decide) (by decide) (by decide) (Nat.le_of_ble_eq_true rfl) [0, 1, 2, 3, 4, 5, 6, 7, 8, 9, 10, 11] [] rfl (by decide) rfl (by decide) (by decide) dX8_fault_12 rfl (fun r9 u9 h12 => ?_)
  obtain ⟨rlf2_1, yg2_2⟩ := u9
  obtain ⟨rfl, h12⟩ := h12
  have h12 : rep rlf2_1 (qR (rdF p b (bT T)).2) ∧ ∀ j, j < T.length → yg2_2 j = bT T j := h12
  refine V_perm (ws2 := [(o, .inr (8, [.ref me, .ref kc, .ref tc, .ref rd, .ref tx, .ref tb, .ref hi])), (me, .inr (4, [.ref ml, .int (nI n), .int (nI e), .int (nI p), .int (nI b)])), (ml, .inl (cI, 40, .inl (fun j => nI (g j)))), (rd, .inr (5, [.ref rco, .ref rsp, .ref rle, .int (nI ((qR ((rdF p b (bT T)).2)).length)), .int (nI (qV ((rdF p b (bT T)).2))), .int (nI (qK ((rdF p b (bT T)).2))), .int (nI ((rdF p b (bT T)).1))])), (rco, .inr (2, [.ref rcr, .int (nI (qT ((rdF p b (bT T)).2))), .int (nI (qH ((rdF p b (bT T)).2))), .int (nI p), .int (nI b)])), (rcr, .inl (cI, 9, .inl (fun j => nI ((qF ((rdF p b (bT T)).2)) j)))), (rsp, .inr (6, [.int (nI (qL ((rdF p b (bT T)).2))), .int (nI (qU ((rdF p b (bT T)).2)))])), (rle, .inl (cI, 40, .inl (fun j => nI (rlf2_1 j)))), (tx, .inr (7, [.ref txr, .int (nI (T.length))])), (txr, .inl (cI, 120, .inl (fun j => nI (xf j)))), (tb, .inr (0, [.ref tbw, .int (nI (T.length))])), (tbw, .inl (cI, 658, .inl (fun j => nI (yg2_2 j))))]) [0, 1, 2, 3, 4, 5, 6, 7, 8, 9, 10, 11] rfl (by decide) ?_
  refine V_st (st2 := [.int (nI 2)]) (by rw [show (frn p b T) = (2) from hfr]) ?_
  refine V_istore_n (lv2 := [(0, .ref o), (1, .int (nI 1)), (2, .int (nI 2))]) hC dX8_fault_15 rfl (by decide) [1, 2, 0] rfl ?_
  refine V_iload_n hC dX8_fault_16 rfl 2 rfl ?_
  refine V_if_ne_T (tgt := 23) hC dX8_fault_17 (by decide) (nI_ne0 (by omega) (by omega)) ?_
  refine V_iload_n hC dX8_fault_23 rfl 1 rfl ?_
  refine V_if_ne_T (tgt := 35) hC dX8_fault_24 (by decide) (nI_ne0 (by omega) (by omega)) ?_
  refine V_iload_n hC dX8_fault_35 rfl 2 rfl ?_
  subst hQ
  exact V_iret hC hr hlk rfl (by decide) (by decide) dX8_fault_36 ((rlf2_1, yg2_2)) [0, 1, 2, 3, 4, 5, 6, 7, 8, 9, 10, 11] rfl (by decide) (⟨rfl, trivial⟩)
abbrev rm_X8_fault_3a : Room := { frames := 6, cells := 0, slots := 0, locals := 139 }
set_option maxHeartbeats 4000000 in
set_option maxRecDepth 100000 in
theorem c_X8_fault_3a (l : Launch) (D : va_G) (cI cQ : ClassId) (o me kc tc rd tx tb hi ml rco rcr rsp rle txr tbw rz rv rk ro rT rH rp rb rl ru yn n e p b : Nat) (g rF rlf xf yg : Nat → Nat) (T : List Nat) (hT : rep xf T) (hT1 : T.length ≤ 120) (hT2 : ∀ j, j < T.length → T.getD j 0 < 1000) (hp : p ≤ 64) (hb : b ≤ 2000) (hx : T.length ≤ stT T) (hfr : frn p b T = 3) : MI l yX8_fault cX8_fault 3 (some .int) rm_X8_fault_3a D (TY cI cQ) [.ref o, .int (nI 0)] [(o, .inr (8, [.ref me, .ref kc, .ref tc, .ref rd, .ref tx, .ref tb, .ref hi])), (me, .inr (4, [.ref ml, .int (nI n), .int (nI e), .int (nI p), .int (nI b)])), (ml, .inl (cI, 40, .inl (fun j => nI (g j)))), (rd, .inr (5, [.ref rco, .ref rsp, .ref rle, .int (nI rz), .int (nI rv), .int (nI rk), .int (nI ro)])), (rco, .inr (2, [.ref rcr, .int (nI rT), .int (nI rH), .int (nI rp), .int (nI rb)])), (rcr, .inl (cI, 9, .inl (fun j => nI (rF j)))), (rsp, .inr (6, [.int (nI rl), .int (nI ru)])), (rle, .inl (cI, 40, .inl (fun j => nI (rlf j)))), (tx, .inr (7, [.ref txr, .int (nI (T.length))])), (txr, .inl (cI, 120, .inl (fun j => nI (xf j)))), (tb, .inr (0, [.ref tbw, .int (nI yn)])), (tbw, .inl (cI, 658, .inl (fun j => nI (yg j))))] (fun (r9 : Int32) (u : (Nat → Nat) × (Nat → Nat)) => r9 = (nI (fO (bT T) T.length (qK (rdF p b (bT T)).2))) ∧ (True)) (fun (u : (Nat → Nat) × (Nat → Nat)) => [(o, .inr (8, [.ref me, .ref kc, .ref tc, .ref rd, .ref tx, .ref tb, .ref hi])), (me, .inr (4, [.ref ml, .int (nI n), .int (nI e), .int (nI p), .int (nI b)])), (ml, .inl (cI, 40, .inl (fun j => nI (g j)))), (rd, .inr (5, [.ref rco, .ref rsp, .ref rle, .int (nI ((qR ((rdF p b (bT T)).2)).length)), .int (nI (qV ((rdF p b (bT T)).2))), .int (nI (qK ((rdF p b (bT T)).2))), .int (nI ((rdF p b (bT T)).1))])), (rco, .inr (2, [.ref rcr, .int (nI (qT ((rdF p b (bT T)).2))), .int (nI (qH ((rdF p b (bT T)).2))), .int (nI p), .int (nI b)])), (rcr, .inl (cI, 9, .inl (fun j => nI ((qF ((rdF p b (bT T)).2)) j)))), (rsp, .inr (6, [.int (nI (qL ((rdF p b (bT T)).2))), .int (nI (qU ((rdF p b (bT T)).2)))])), (rle, .inl (cI, 40, .inl (fun j => nI (u.1 j)))), (tx, .inr (7, [.ref txr, .int (nI (T.length))])), (txr, .inl (cI, 120, .inl (fun j => nI (xf j)))), (tb, .inr (0, [.ref tbw, .int (nI (T.length))])), (tbw, .inl (cI, 658, .inl (fun j => nI (u.2 j))))]) 0 0 := by
  refine MI.start (by decide) (Nat.le_of_ble_eq_true rfl) (lv0 := [(0, .ref o), (1, .int (nI 0))]) rfl ?_
  intro pp9 ee9 ss9 mm9 args9 below9 meth9 co9 A9 Q9 hQ hC hr hlk hnm
  have hok := rdd_ok (bT2 T) hp hb 41 (rd0 (bT T)) (okR_0 (bT2 T))
  have hov : (rdF p b (bT T)).1 < 2 := hok.2
  have hqr : (qR (rdF p b (bT T)).2).length ≤ 40 := hok.1.2.2.2.2.2.2
  have hq9 := rdd_lt (bT2 T) hp hb 41 (rd0 (bT T)) (okR_0 (bT2 T)) (fun x hx => absurd hx List.not_mem_nil)
  refine V_iload_n hC dX8_fault_0 rfl 1 rfl ?_
  refine V_if_lt_F (tgt := 9) hC dX8_fault_1 (by decide) (nI_pos (by omega)) ?_
  refine V_iload_n hC dX8_fault_4 rfl 1 rfl ?_
  refine V_iconst (v := nI 1) hC dX8_fault_5 (by decide) ?_
  refine V_icmp_le_T (tgt := 11) hC dX8_fault_6 (by decide) (nI_le (by omega) (by omega)) ?_
  refine V_aload_n hC dX8_fault_11 rfl 0 rfl ?_
  refine V_calliV (As := []) (rest := []) (wr := []) hC (c_X8_faultReason_n l D cI cQ o me kc tc rd tx tb hi ml rco rcr rsp rle txr tbw rz rv rk ro rT rH rp rb rl ru yn n e p b g rF rlf xf yg _ (hT) (by omega) (hT2) (by omega) (by omega) (by omega)) mok_X8_faultReason ml_X8_188 (q1 := 0) rfl cls_X8 rfl rfl rfl (by decide) (by decide) (by decide) (Nat.le_of_ble_eq_true rfl) [0, 1, 2, 3, 4, 5, 6, 7, 8, 9, 10, 11] [] rfl (by decide) rfl (by decide) (by decide) dX8_fault_12 rfl (fun r9 u9 h12 => ?_)
  obtain ⟨rlf2_1, yg2_2⟩ := u9
  obtain ⟨rfl, h12⟩ := h12
  have h12 : rep rlf2_1 (qR (rdF p b (bT T)).2) ∧ ∀ j, j < T.length → yg2_2 j = bT T j := h12
  refine V_perm (ws2 := [(o, .inr (8, [.ref me, .ref kc, .ref tc, .ref rd, .ref tx, .ref tb, .ref hi])), (me, .inr (4, [.ref ml, .int (nI n), .int (nI e), .int (nI p), .int (nI b)])), (ml, .inl (cI, 40, .inl (fun j => nI (g j)))), (rd, .inr (5, [.ref rco, .ref rsp, .ref rle, .int (nI ((qR ((rdF p b (bT T)).2)).length)), .int (nI (qV ((rdF p b (bT T)).2))), .int (nI (qK ((rdF p b (bT T)).2))), .int (nI ((rdF p b (bT T)).1))])), (rco, .inr (2, [.ref rcr, .int (nI (qT ((rdF p b (bT T)).2))), .int (nI (qH ((rdF p b (bT T)).2))), .int (nI p), .int (nI b)])), (rcr, .inl (cI, 9, .inl (fun j => nI ((qF ((rdF p b (bT T)).2)) j)))), (rsp, .inr (6, [.int (nI (qL ((rdF p b (bT T)).2))), .int (nI (qU ((rdF p b (bT T)).2)))])), (rle, .inl (cI, 40, .inl (fun j => nI (rlf2_1 j)))), (tx, .inr (7, [.ref txr, .int (nI (T.length))])), (txr, .inl (cI, 120, .inl (fun j => nI (xf j)))), (tb, .inr (0, [.ref tbw, .int (nI (T.length))])), (tbw, .inl (cI, 658, .inl (fun j => nI (yg2_2 j))))]) [0, 1, 2, 3, 4, 5, 6, 7, 8, 9, 10, 11] rfl (by decide) ?_
  refine V_st (st2 := [.int (nI 3)]) (by rw [show (frn p b T) = (3) from hfr]) ?_
  refine V_istore_n (lv2 := [(0, .ref o), (1, .int (nI 0)), (2, .int (nI 3))]) hC dX8_fault_15 rfl (by decide) [1, 2, 0] rfl ?_
  refine V_iload_n hC dX8_fault_16 rfl 2 rfl ?_
  refine V_if_ne_T (tgt := 23) hC dX8_fault_17 (by decide) (nI_ne0 (by omega) (by omega)) ?_
  refine V_iload_n hC dX8_fault_23 rfl 1 rfl ?_
  refine V_if_ne_F (tgt := 35) hC dX8_fault_24 (by decide) ((congrArg nI (show 0 = 0 by omega)).trans nI_0) ?_
  refine V_aload_n hC dX8_fault_27 rfl 0 rfl ?_
  refine V_iload_n hC dX8_fault_28 rfl 2 rfl ?_
  refine V_calliV (As := [.int (nI 3)]) (rest := []) (wr := [(me, .inr (4, [.ref ml, .int (nI n), .int (nI e), .int (nI p), .int (nI b)])), (ml, .inl (cI, 40, .inl (fun j => nI (g j)))), (rco, .inr (2, [.ref rcr, .int (nI (qT ((rdF p b (bT T)).2))), .int (nI (qH ((rdF p b (bT T)).2))), .int (nI p), .int (nI b)])), (rcr, .inl (cI, 9, .inl (fun j => nI ((qF ((rdF p b (bT T)).2)) j)))), (rsp, .inr (6, [.int (nI (qL ((rdF p b (bT T)).2))), .int (nI (qU ((rdF p b (bT T)).2)))])), (rle, .inl (cI, 40, .inl (fun j => nI (rlf2_1 j)))), (tx, .inr (7, [.ref txr, .int (nI (T.length))])), (txr, .inl (cI, 120, .inl (fun j => nI (xf j))))]) hC (c_X8_faultPlace_3 l D cI cQ o me kc tc rd tx tb hi tbw rco rsp rle ((qR ((rdF p b (bT T)).2)).length) (qV ((rdF p b (bT T)).2)) (qK ((rdF p b (bT T)).2)) ((rdF p b (bT T)).1) T.length yg2_2 (by omega) (by have h1 : qK (rdF p b (bT T)).2 ≤ 16 + 16 * (qR (rdF p b (bT T)).2).length := hok.1.2.2.2.2.2.1; omega) (fun j hj => by rw [h12.2 j hj]; exact bT2 T j)) mok_X8_faultPlace ml_X8_191 (q1 := 0) rfl cls_X8 rfl rfl rfl (by decide) (by decide) (by decide) (Nat.le_of_ble_eq_true rfl) [0, 3, 10, 11] [1, 2, 4, 5, 6, 7, 8, 9] rfl (by decide) rfl (by decide) (by decide) dX8_fault_29 rfl (fun r9 u9 h29 => ?_)
  obtain ⟨rfl, h29⟩ := h29
  clear h29
  refine V_perm (ws2 := [(o, .inr (8, [.ref me, .ref kc, .ref tc, .ref rd, .ref tx, .ref tb, .ref hi])), (me, .inr (4, [.ref ml, .int (nI n), .int (nI e), .int (nI p), .int (nI b)])), (ml, .inl (cI, 40, .inl (fun j => nI (g j)))), (rd, .inr (5, [.ref rco, .ref rsp, .ref rle, .int (nI (((qR ((rdF p b (bT T)).2)).length))), .int (nI ((qV ((rdF p b (bT T)).2)))), .int (nI ((qK ((rdF p b (bT T)).2)))), .int (nI (((rdF p b (bT T)).1)))])), (rco, .inr (2, [.ref rcr, .int (nI (qT ((rdF p b (bT T)).2))), .int (nI (qH ((rdF p b (bT T)).2))), .int (nI p), .int (nI b)])), (rcr, .inl (cI, 9, .inl (fun j => nI ((qF ((rdF p b (bT T)).2)) j)))), (rsp, .inr (6, [.int (nI (qL ((rdF p b (bT T)).2))), .int (nI (qU ((rdF p b (bT T)).2)))])), (rle, .inl (cI, 40, .inl (fun j => nI (rlf2_1 j)))), (tx, .inr (7, [.ref txr, .int (nI (T.length))])), (txr, .inl (cI, 120, .inl (fun j => nI (xf j)))), (tb, .inr (0, [.ref tbw, .int (nI (T.length))])), (tbw, .inl (cI, 658, .inl (fun j => nI (yg2_2 j))))]) [8, 0, 1, 9, 2, 3, 4, 5, 6, 7, 10, 11] rfl (by decide) ?_
  refine V_st (st2 := [.int (nI (fO (bT T) T.length (qK (rdF p b (bT T)).2)))]) (by rw [show (fO yg2_2 T.length (qK ((rdF p b (bT T)).2))) = (fO (bT T) T.length (qK (rdF p b (bT T)).2)) from fO_cong (fun j hj => h12.2 j hj)]) ?_
  refine V_goto (tgt := 36) hC dX8_fault_32 (by decide) ?_
  subst hQ
  exact V_iret hC hr hlk rfl (by decide) (by decide) dX8_fault_36 ((rlf2_1, yg2_2)) [0, 1, 2, 3, 4, 5, 6, 7, 8, 9, 10, 11] rfl (by decide) (⟨rfl, trivial⟩)
abbrev rm_X8_fault_3b : Room := { frames := 6, cells := 0, slots := 0, locals := 139 }
set_option maxHeartbeats 4000000 in
set_option maxRecDepth 100000 in
theorem c_X8_fault_3b (l : Launch) (D : va_G) (cI cQ : ClassId) (o me kc tc rd tx tb hi ml rco rcr rsp rle txr tbw rz rv rk ro rT rH rp rb rl ru yn n e p b : Nat) (g rF rlf xf yg : Nat → Nat) (T : List Nat) (hT : rep xf T) (hT1 : T.length ≤ 120) (hT2 : ∀ j, j < T.length → T.getD j 0 < 1000) (hp : p ≤ 64) (hb : b ≤ 2000) (hx : T.length ≤ stT T) (hfr : frn p b T = 3) : MI l yX8_fault cX8_fault 3 (some .int) rm_X8_fault_3b D (TY cI cQ) [.ref o, .int (nI 1)] [(o, .inr (8, [.ref me, .ref kc, .ref tc, .ref rd, .ref tx, .ref tb, .ref hi])), (me, .inr (4, [.ref ml, .int (nI n), .int (nI e), .int (nI p), .int (nI b)])), (ml, .inl (cI, 40, .inl (fun j => nI (g j)))), (rd, .inr (5, [.ref rco, .ref rsp, .ref rle, .int (nI rz), .int (nI rv), .int (nI rk), .int (nI ro)])), (rco, .inr (2, [.ref rcr, .int (nI rT), .int (nI rH), .int (nI rp), .int (nI rb)])), (rcr, .inl (cI, 9, .inl (fun j => nI (rF j)))), (rsp, .inr (6, [.int (nI rl), .int (nI ru)])), (rle, .inl (cI, 40, .inl (fun j => nI (rlf j)))), (tx, .inr (7, [.ref txr, .int (nI (T.length))])), (txr, .inl (cI, 120, .inl (fun j => nI (xf j)))), (tb, .inr (0, [.ref tbw, .int (nI yn)])), (tbw, .inl (cI, 658, .inl (fun j => nI (yg j))))] (fun (r9 : Int32) (u : (Nat → Nat) × (Nat → Nat)) => r9 = (nI 3) ∧ (True)) (fun (u : (Nat → Nat) × (Nat → Nat)) => [(o, .inr (8, [.ref me, .ref kc, .ref tc, .ref rd, .ref tx, .ref tb, .ref hi])), (me, .inr (4, [.ref ml, .int (nI n), .int (nI e), .int (nI p), .int (nI b)])), (ml, .inl (cI, 40, .inl (fun j => nI (g j)))), (rd, .inr (5, [.ref rco, .ref rsp, .ref rle, .int (nI ((qR ((rdF p b (bT T)).2)).length)), .int (nI (qV ((rdF p b (bT T)).2))), .int (nI (qK ((rdF p b (bT T)).2))), .int (nI ((rdF p b (bT T)).1))])), (rco, .inr (2, [.ref rcr, .int (nI (qT ((rdF p b (bT T)).2))), .int (nI (qH ((rdF p b (bT T)).2))), .int (nI p), .int (nI b)])), (rcr, .inl (cI, 9, .inl (fun j => nI ((qF ((rdF p b (bT T)).2)) j)))), (rsp, .inr (6, [.int (nI (qL ((rdF p b (bT T)).2))), .int (nI (qU ((rdF p b (bT T)).2)))])), (rle, .inl (cI, 40, .inl (fun j => nI (u.1 j)))), (tx, .inr (7, [.ref txr, .int (nI (T.length))])), (txr, .inl (cI, 120, .inl (fun j => nI (xf j)))), (tb, .inr (0, [.ref tbw, .int (nI (T.length))])), (tbw, .inl (cI, 658, .inl (fun j => nI (u.2 j))))]) 0 0 := by
  refine MI.start (by decide) (Nat.le_of_ble_eq_true rfl) (lv0 := [(0, .ref o), (1, .int (nI 1))]) rfl ?_
  intro pp9 ee9 ss9 mm9 args9 below9 meth9 co9 A9 Q9 hQ hC hr hlk hnm
  have hok := rdd_ok (bT2 T) hp hb 41 (rd0 (bT T)) (okR_0 (bT2 T))
  have hov : (rdF p b (bT T)).1 < 2 := hok.2
  have hqr : (qR (rdF p b (bT T)).2).length ≤ 40 := hok.1.2.2.2.2.2.2
  have hq9 := rdd_lt (bT2 T) hp hb 41 (rd0 (bT T)) (okR_0 (bT2 T)) (fun x hx => absurd hx List.not_mem_nil)
  refine V_iload_n hC dX8_fault_0 rfl 1 rfl ?_
  refine V_if_lt_F (tgt := 9) hC dX8_fault_1 (by decide) (nI_pos (by omega)) ?_
  refine V_iload_n hC dX8_fault_4 rfl 1 rfl ?_
  refine V_iconst (v := nI 1) hC dX8_fault_5 (by decide) ?_
  refine V_icmp_le_T (tgt := 11) hC dX8_fault_6 (by decide) (nI_le (by omega) (by omega)) ?_
  refine V_aload_n hC dX8_fault_11 rfl 0 rfl ?_
  refine V_calliV (As := []) (rest := []) (wr := []) hC (c_X8_faultReason_n l D cI cQ o me kc tc rd tx tb hi ml rco rcr rsp rle txr tbw rz rv rk ro rT rH rp rb rl ru yn n e p b g rF rlf xf yg _ (hT) (by omega) (hT2) (by omega) (by omega) (by omega)) mok_X8_faultReason ml_X8_188 (q1 := 0) rfl cls_X8 rfl rfl rfl (by decide) (by decide) (by decide) (Nat.le_of_ble_eq_true rfl) [0, 1, 2, 3, 4, 5, 6, 7, 8, 9, 10, 11] [] rfl (by decide) rfl (by decide) (by decide) dX8_fault_12 rfl (fun r9 u9 h12 => ?_)
  obtain ⟨rlf2_1, yg2_2⟩ := u9
  obtain ⟨rfl, h12⟩ := h12
  have h12 : rep rlf2_1 (qR (rdF p b (bT T)).2) ∧ ∀ j, j < T.length → yg2_2 j = bT T j := h12
  refine V_perm (ws2 := [(o, .inr (8, [.ref me, .ref kc, .ref tc, .ref rd, .ref tx, .ref tb, .ref hi])), (me, .inr (4, [.ref ml, .int (nI n), .int (nI e), .int (nI p), .int (nI b)])), (ml, .inl (cI, 40, .inl (fun j => nI (g j)))), (rd, .inr (5, [.ref rco, .ref rsp, .ref rle, .int (nI ((qR ((rdF p b (bT T)).2)).length)), .int (nI (qV ((rdF p b (bT T)).2))), .int (nI (qK ((rdF p b (bT T)).2))), .int (nI ((rdF p b (bT T)).1))])), (rco, .inr (2, [.ref rcr, .int (nI (qT ((rdF p b (bT T)).2))), .int (nI (qH ((rdF p b (bT T)).2))), .int (nI p), .int (nI b)])), (rcr, .inl (cI, 9, .inl (fun j => nI ((qF ((rdF p b (bT T)).2)) j)))), (rsp, .inr (6, [.int (nI (qL ((rdF p b (bT T)).2))), .int (nI (qU ((rdF p b (bT T)).2)))])), (rle, .inl (cI, 40, .inl (fun j => nI (rlf2_1 j)))), (tx, .inr (7, [.ref txr, .int (nI (T.length))])), (txr, .inl (cI, 120, .inl (fun j => nI (xf j)))), (tb, .inr (0, [.ref tbw, .int (nI (T.length))])), (tbw, .inl (cI, 658, .inl (fun j => nI (yg2_2 j))))]) [0, 1, 2, 3, 4, 5, 6, 7, 8, 9, 10, 11] rfl (by decide) ?_
  refine V_st (st2 := [.int (nI 3)]) (by rw [show (frn p b T) = (3) from hfr]) ?_
  refine V_istore_n (lv2 := [(0, .ref o), (1, .int (nI 1)), (2, .int (nI 3))]) hC dX8_fault_15 rfl (by decide) [1, 2, 0] rfl ?_
  refine V_iload_n hC dX8_fault_16 rfl 2 rfl ?_
  refine V_if_ne_T (tgt := 23) hC dX8_fault_17 (by decide) (nI_ne0 (by omega) (by omega)) ?_
  refine V_iload_n hC dX8_fault_23 rfl 1 rfl ?_
  refine V_if_ne_T (tgt := 35) hC dX8_fault_24 (by decide) (nI_ne0 (by omega) (by omega)) ?_
  refine V_iload_n hC dX8_fault_35 rfl 2 rfl ?_
  subst hQ
  exact V_iret hC hr hlk rfl (by decide) (by decide) dX8_fault_36 ((rlf2_1, yg2_2)) [0, 1, 2, 3, 4, 5, 6, 7, 8, 9, 10, 11] rfl (by decide) (⟨rfl, trivial⟩)
abbrev rm_X8_told_neg : Room := { frames := 0, cells := 0, slots := 0, locals := 0 }
set_option maxHeartbeats 4000000 in
set_option maxRecDepth 100000 in
theorem c_X8_told_neg (l : Launch) (D : va_G) (cI cQ : ClassId) (o me kc tc rd tx tb hi : Nat) (x : Int32) (hx : x.toInt < 0) : MI l yX8_told cX8_told 2 (some .int) rm_X8_told_neg D (TY cI cQ) [.ref o, .int (x)] [(o, .inr (8, [.ref me, .ref kc, .ref tc, .ref rd, .ref tx, .ref tb, .ref hi]))] (fun (r9 : Int32) (u : Unit) => r9 = (-1) ∧ (True)) (fun (u : Unit) => [(o, .inr (8, [.ref me, .ref kc, .ref tc, .ref rd, .ref tx, .ref tb, .ref hi]))]) 0 0 := by
  refine MI.start (by decide) (Nat.le_of_ble_eq_true rfl) (lv0 := [(0, .ref o), (1, .int (x))]) rfl ?_
  intro pp9 ee9 ss9 mm9 args9 below9 meth9 co9 A9 Q9 hQ hC hr hlk hnm
  refine V_iload_n hC dX8_told_0 rfl 1 rfl ?_
  refine V_if_ge_F (tgt := 6) hC dX8_told_1 (by decide) (Int32.not_le.mpr (Int32.lt_iff_toInt_lt.mpr hx)) ?_
  refine V_iconst (v := -1) hC dX8_told_4 (by decide) ?_
  subst hQ
  exact V_iret hC hr hlk rfl (by decide) (by decide) dX8_told_5 (()) [0] rfl (by decide) (⟨rfl, trivial⟩)
abbrev rm_X8_told_1 : Room := { frames := 2, cells := 0, slots := 0, locals := 41 }
set_option maxHeartbeats 4000000 in
set_option maxRecDepth 100000 in
theorem c_X8_told_1 (l : Launch) (D : va_G) (cI cQ : ClassId) (o me kc tc rd tx tb hi ml rco rcr rsp rle txr tbw rz rv rk ro rT rH rp rb rl ru yn n e p b i : Nat) (g rF rlf xf yg : Nat → Nat) (T : List Nat) (hT : rep xf T) (hT1 : T.length ≤ 120) (hT2 : ∀ j, j < T.length → T.getD j 0 < 1000) (hx : stT T < T.length) (hi9 : i < 2147483648) : MI l yX8_told cX8_told 2 (some .int) rm_X8_told_1 D (TY cI cQ) [.ref o, .int (nI i)] [(o, .inr (8, [.ref me, .ref kc, .ref tc, .ref rd, .ref tx, .ref tb, .ref hi])), (me, .inr (4, [.ref ml, .int (nI n), .int (nI e), .int (nI p), .int (nI b)])), (ml, .inl (cI, 40, .inl (fun j => nI (g j)))), (rd, .inr (5, [.ref rco, .ref rsp, .ref rle, .int (nI rz), .int (nI rv), .int (nI rk), .int (nI ro)])), (rco, .inr (2, [.ref rcr, .int (nI rT), .int (nI rH), .int (nI rp), .int (nI rb)])), (rcr, .inl (cI, 9, .inl (fun j => nI (rF j)))), (rsp, .inr (6, [.int (nI rl), .int (nI ru)])), (rle, .inl (cI, 40, .inl (fun j => nI (rlf j)))), (tx, .inr (7, [.ref txr, .int (nI (T.length))])), (txr, .inl (cI, 120, .inl (fun j => nI (xf j)))), (tb, .inr (0, [.ref tbw, .int (nI yn)])), (tbw, .inl (cI, 658, .inl (fun j => nI (yg j))))] (fun (r9 : Int32) (u : Unit) => r9 = (-2) ∧ (True)) (fun (u : Unit) => [(o, .inr (8, [.ref me, .ref kc, .ref tc, .ref rd, .ref tx, .ref tb, .ref hi])), (me, .inr (4, [.ref ml, .int (nI n), .int (nI e), .int (nI p), .int (nI b)])), (ml, .inl (cI, 40, .inl (fun j => nI (g j)))), (rd, .inr (5, [.ref rco, .ref rsp, .ref rle, .int (nI rz), .int (nI rv), .int (nI rk), .int (nI ro)])), (rco, .inr (2, [.ref rcr, .int (nI rT), .int (nI rH), .int (nI rp), .int (nI rb)])), (rcr, .inl (cI, 9, .inl (fun j => nI (rF j)))), (rsp, .inr (6, [.int (nI rl), .int (nI ru)])), (rle, .inl (cI, 40, .inl (fun j => nI (rlf j)))), (tx, .inr (7, [.ref txr, .int (nI (T.length))])), (txr, .inl (cI, 120, .inl (fun j => nI (xf j)))), (tb, .inr (0, [.ref tbw, .int (nI yn)])), (tbw, .inl (cI, 658, .inl (fun j => nI (yg j))))]) 0 0 := by
  refine MI.start (by decide) (Nat.le_of_ble_eq_true rfl) (lv0 := [(0, .ref o), (1, .int (nI i))]) rfl ?_
  intro pp9 ee9 ss9 mm9 args9 below9 meth9 co9 A9 Q9 hQ hC hr hlk hnm
  refine V_iload_n hC dX8_told_0 rfl 1 rfl ?_
  refine V_if_ge_T (tgt := 6) hC dX8_told_1 (by decide) (nI_pos' (by omega)) ?_
  refine V_aload_n hC dX8_told_6 rfl 0 rfl ?_
  refine V_calliV (As := []) (rest := []) (wr := []) hC (c_X8_faultReason_1 l D cI cQ o me kc tc rd tx tb hi ml rco rcr rsp rle txr tbw rz rv rk ro rT rH rp rb rl ru yn n e p b g rF rlf xf yg _ (hT) (by omega) (hT2) (by omega)) mok_X8_faultReason ml_X8_188 (q1 := 0) rfl cls_X8 rfl rfl rfl (by decide) (by decide) (by decide) (Nat.le_of_ble_eq_true rfl) [0, 1, 2, 3, 4, 5, 6, 7, 8, 9, 10, 11] [] rfl (by decide) rfl (by decide) (by decide) dX8_told_7 rfl (fun r9 u9 h7 => ?_)
  obtain ⟨rfl, h7⟩ := h7
  clear h7
  refine V_perm (ws2 := [(o, .inr (8, [.ref me, .ref kc, .ref tc, .ref rd, .ref tx, .ref tb, .ref hi])), (me, .inr (4, [.ref ml, .int (nI n), .int (nI e), .int (nI p), .int (nI b)])), (ml, .inl (cI, 40, .inl (fun j => nI (g j)))), (rd, .inr (5, [.ref rco, .ref rsp, .ref rle, .int (nI rz), .int (nI rv), .int (nI rk), .int (nI ro)])), (rco, .inr (2, [.ref rcr, .int (nI rT), .int (nI rH), .int (nI rp), .int (nI rb)])), (rcr, .inl (cI, 9, .inl (fun j => nI (rF j)))), (rsp, .inr (6, [.int (nI rl), .int (nI ru)])), (rle, .inl (cI, 40, .inl (fun j => nI (rlf j)))), (tx, .inr (7, [.ref txr, .int (nI (T.length))])), (txr, .inl (cI, 120, .inl (fun j => nI (xf j)))), (tb, .inr (0, [.ref tbw, .int (nI yn)])), (tbw, .inl (cI, 658, .inl (fun j => nI (yg j))))]) [0, 1, 2, 3, 4, 5, 6, 7, 8, 9, 10, 11] rfl (by decide) ?_
  refine V_if_eq_F (tgt := 16) hC dX8_told_10 (by decide) (nI_ne0 (by omega) (by omega)) ?_
  refine V_bipush (v := -2) hC dX8_told_13 (by decide) ?_
  subst hQ
  exact V_iret hC hr hlk rfl (by decide) (by decide) dX8_told_15 (()) [0, 1, 2, 3, 4, 5, 6, 7, 8, 9, 10, 11] rfl (by decide) (⟨rfl, trivial⟩)
abbrev rm_X8_told_n : Room := { frames := 6, cells := 0, slots := 0, locals := 139 }
set_option maxHeartbeats 4000000 in
set_option maxRecDepth 100000 in
theorem c_X8_told_n (l : Launch) (D : va_G) (cI cQ : ClassId) (o me kc tc rd tx tb hi ml rco rcr rsp rle txr tbw rz rv rk ro rT rH rp rb rl ru yn n e p b i : Nat) (g rF rlf xf yg : Nat → Nat) (T : List Nat) (hT : rep xf T) (hT1 : T.length ≤ 120) (hT2 : ∀ j, j < T.length → T.getD j 0 < 1000) (hp : p ≤ 64) (hb : b ≤ 2000) (hx : T.length ≤ stT T) (hi9 : i < 2147483648) (hfr : 0 < frn p b T) : MI l yX8_told cX8_told 2 (some .int) rm_X8_told_n D (TY cI cQ) [.ref o, .int (nI i)] [(o, .inr (8, [.ref me, .ref kc, .ref tc, .ref rd, .ref tx, .ref tb, .ref hi])), (me, .inr (4, [.ref ml, .int (nI n), .int (nI e), .int (nI p), .int (nI b)])), (ml, .inl (cI, 40, .inl (fun j => nI (g j)))), (rd, .inr (5, [.ref rco, .ref rsp, .ref rle, .int (nI rz), .int (nI rv), .int (nI rk), .int (nI ro)])), (rco, .inr (2, [.ref rcr, .int (nI rT), .int (nI rH), .int (nI rp), .int (nI rb)])), (rcr, .inl (cI, 9, .inl (fun j => nI (rF j)))), (rsp, .inr (6, [.int (nI rl), .int (nI ru)])), (rle, .inl (cI, 40, .inl (fun j => nI (rlf j)))), (tx, .inr (7, [.ref txr, .int (nI (T.length))])), (txr, .inl (cI, 120, .inl (fun j => nI (xf j)))), (tb, .inr (0, [.ref tbw, .int (nI yn)])), (tbw, .inl (cI, 658, .inl (fun j => nI (yg j))))] (fun (r9 : Int32) (u : (Nat → Nat) × (Nat → Nat)) => r9 = (-2) ∧ (True)) (fun (u : (Nat → Nat) × (Nat → Nat)) => [(o, .inr (8, [.ref me, .ref kc, .ref tc, .ref rd, .ref tx, .ref tb, .ref hi])), (me, .inr (4, [.ref ml, .int (nI n), .int (nI e), .int (nI p), .int (nI b)])), (ml, .inl (cI, 40, .inl (fun j => nI (g j)))), (rd, .inr (5, [.ref rco, .ref rsp, .ref rle, .int (nI ((qR ((rdF p b (bT T)).2)).length)), .int (nI (qV ((rdF p b (bT T)).2))), .int (nI (qK ((rdF p b (bT T)).2))), .int (nI ((rdF p b (bT T)).1))])), (rco, .inr (2, [.ref rcr, .int (nI (qT ((rdF p b (bT T)).2))), .int (nI (qH ((rdF p b (bT T)).2))), .int (nI p), .int (nI b)])), (rcr, .inl (cI, 9, .inl (fun j => nI ((qF ((rdF p b (bT T)).2)) j)))), (rsp, .inr (6, [.int (nI (qL ((rdF p b (bT T)).2))), .int (nI (qU ((rdF p b (bT T)).2)))])), (rle, .inl (cI, 40, .inl (fun j => nI (u.1 j)))), (tx, .inr (7, [.ref txr, .int (nI (T.length))])), (txr, .inl (cI, 120, .inl (fun j => nI (xf j)))), (tb, .inr (0, [.ref tbw, .int (nI (T.length))])), (tbw, .inl (cI, 658, .inl (fun j => nI (u.2 j))))]) 0 0 := by
  refine MI.start (by decide) (Nat.le_of_ble_eq_true rfl) (lv0 := [(0, .ref o), (1, .int (nI i))]) rfl ?_
  intro pp9 ee9 ss9 mm9 args9 below9 meth9 co9 A9 Q9 hQ hC hr hlk hnm
  have hok := rdd_ok (bT2 T) hp hb 41 (rd0 (bT T)) (okR_0 (bT2 T))
  have hov : (rdF p b (bT T)).1 < 2 := hok.2
  have hqr : (qR (rdF p b (bT T)).2).length ≤ 40 := hok.1.2.2.2.2.2.2
  have hq9 := rdd_lt (bT2 T) hp hb 41 (rd0 (bT T)) (okR_0 (bT2 T)) (fun x hx => absurd hx List.not_mem_nil)
  have hfr3 : frn p b T ≤ 3 := frn_le p b T
  refine V_iload_n hC dX8_told_0 rfl 1 rfl ?_
  refine V_if_ge_T (tgt := 6) hC dX8_told_1 (by decide) (nI_pos' (by omega)) ?_
  refine V_aload_n hC dX8_told_6 rfl 0 rfl ?_
  refine V_calliV (As := []) (rest := []) (wr := []) hC (c_X8_faultReason_n l D cI cQ o me kc tc rd tx tb hi ml rco rcr rsp rle txr tbw rz rv rk ro rT rH rp rb rl ru yn n e p b g rF rlf xf yg _ (hT) (by omega) (hT2) (by omega) (by omega) (by omega)) mok_X8_faultReason ml_X8_188 (q1 := 0) rfl cls_X8 rfl rfl rfl (by decide) (by decide) (by decide) (Nat.le_of_ble_eq_true rfl) [0, 1, 2, 3, 4, 5, 6, 7, 8, 9, 10, 11] [] rfl (by decide) rfl (by decide) (by decide) dX8_told_7 rfl (fun r9 u9 h7 => ?_)
  obtain ⟨rlf2_1, yg2_2⟩ := u9
  obtain ⟨rfl, h7⟩ := h7
  have h7 : rep rlf2_1 (qR (rdF p b (bT T)).2) ∧ ∀ j, j < T.length → yg2_2 j = bT T j := h7
  refine V_perm (ws2 := [(o, .inr (8, [.ref me, .ref kc, .ref tc, .ref rd, .ref tx, .ref tb, .ref hi])), (me, .inr (4, [.ref ml, .int (nI n), .int (nI e), .int (nI p), .int (nI b)])), (ml, .inl (cI, 40, .inl (fun j => nI (g j)))), (rd, .inr (5, [.ref rco, .ref rsp, .ref rle, .int (nI ((qR ((rdF p b (bT T)).2)).length)), .int (nI (qV ((rdF p b (bT T)).2))), .int (nI (qK ((rdF p b (bT T)).2))), .int (nI ((rdF p b (bT T)).1))])), (rco, .inr (2, [.ref rcr, .int (nI (qT ((rdF p b (bT T)).2))), .int (nI (qH ((rdF p b (bT T)).2))), .int (nI p), .int (nI b)])), (rcr, .inl (cI, 9, .inl (fun j => nI ((qF ((rdF p b (bT T)).2)) j)))), (rsp, .inr (6, [.int (nI (qL ((rdF p b (bT T)).2))), .int (nI (qU ((rdF p b (bT T)).2)))])), (rle, .inl (cI, 40, .inl (fun j => nI (rlf2_1 j)))), (tx, .inr (7, [.ref txr, .int (nI (T.length))])), (txr, .inl (cI, 120, .inl (fun j => nI (xf j)))), (tb, .inr (0, [.ref tbw, .int (nI (T.length))])), (tbw, .inl (cI, 658, .inl (fun j => nI (yg2_2 j))))]) [0, 1, 2, 3, 4, 5, 6, 7, 8, 9, 10, 11] rfl (by decide) ?_
  refine V_if_eq (tgt := 16) hC (by omega) dX8_told_10 (by decide) (fun c10 => ?_) (fun c10 => ?_)
  · exact False.elim (by omega)
  · refine V_bipush (v := -2) hC dX8_told_13 (by decide) ?_
    subst hQ
    exact V_iret hC hr hlk rfl (by decide) (by decide) dX8_told_15 ((rlf2_1, yg2_2)) [0, 1, 2, 3, 4, 5, 6, 7, 8, 9, 10, 11] rfl (by decide) (⟨rfl, trivial⟩)
abbrev rm_X8_told_ok : Room := { frames := 6, cells := 0, slots := 0, locals := 139 }
set_option maxHeartbeats 4000000 in
set_option maxRecDepth 100000 in
theorem c_X8_told_ok (l : Launch) (D : va_G) (cI cQ : ClassId) (o me kc tc rd tx tb hi ml rco rcr rsp rle txr tbw rz rv rk ro rT rH rp rb rl ru yn n e p b i : Nat) (g rF rlf xf yg : Nat → Nat) (T : List Nat) (hT : rep xf T) (hT1 : T.length ≤ 120) (hT2 : ∀ j, j < T.length → T.getD j 0 < 1000) (hp : p ≤ 64) (hb : b ≤ 2000) (hx : T.length ≤ stT T) (hi9 : i < 2147483648) (hfr : frn p b T = 0) (hlt : i < (qR (rdF p b (bT T)).2).length) : MI l yX8_told cX8_told 2 (some .int) rm_X8_told_ok D (TY cI cQ) [.ref o, .int (nI i)] [(o, .inr (8, [.ref me, .ref kc, .ref tc, .ref rd, .ref tx, .ref tb, .ref hi])), (me, .inr (4, [.ref ml, .int (nI n), .int (nI e), .int (nI p), .int (nI b)])), (ml, .inl (cI, 40, .inl (fun j => nI (g j)))), (rd, .inr (5, [.ref rco, .ref rsp, .ref rle, .int (nI rz), .int (nI rv), .int (nI rk), .int (nI ro)])), (rco, .inr (2, [.ref rcr, .int (nI rT), .int (nI rH), .int (nI rp), .int (nI rb)])), (rcr, .inl (cI, 9, .inl (fun j => nI (rF j)))), (rsp, .inr (6, [.int (nI rl), .int (nI ru)])), (rle, .inl (cI, 40, .inl (fun j => nI (rlf j)))), (tx, .inr (7, [.ref txr, .int (nI (T.length))])), (txr, .inl (cI, 120, .inl (fun j => nI (xf j)))), (tb, .inr (0, [.ref tbw, .int (nI yn)])), (tbw, .inl (cI, 658, .inl (fun j => nI (yg j))))] (fun (r9 : Int32) (u : (Nat → Nat) × (Nat → Nat)) => r9 = (nI ((qR (rdF p b (bT T)).2).getD i 0)) ∧ (True)) (fun (u : (Nat → Nat) × (Nat → Nat)) => [(o, .inr (8, [.ref me, .ref kc, .ref tc, .ref rd, .ref tx, .ref tb, .ref hi])), (me, .inr (4, [.ref ml, .int (nI n), .int (nI e), .int (nI p), .int (nI b)])), (ml, .inl (cI, 40, .inl (fun j => nI (g j)))), (rd, .inr (5, [.ref rco, .ref rsp, .ref rle, .int (nI ((qR ((rdF p b (bT T)).2)).length)), .int (nI (qV ((rdF p b (bT T)).2))), .int (nI (qK ((rdF p b (bT T)).2))), .int (nI ((rdF p b (bT T)).1))])), (rco, .inr (2, [.ref rcr, .int (nI (qT ((rdF p b (bT T)).2))), .int (nI (qH ((rdF p b (bT T)).2))), .int (nI p), .int (nI b)])), (rcr, .inl (cI, 9, .inl (fun j => nI ((qF ((rdF p b (bT T)).2)) j)))), (rsp, .inr (6, [.int (nI (qL ((rdF p b (bT T)).2))), .int (nI (qU ((rdF p b (bT T)).2)))])), (rle, .inl (cI, 40, .inl (fun j => nI (u.1 j)))), (tx, .inr (7, [.ref txr, .int (nI (T.length))])), (txr, .inl (cI, 120, .inl (fun j => nI (xf j)))), (tb, .inr (0, [.ref tbw, .int (nI (T.length))])), (tbw, .inl (cI, 658, .inl (fun j => nI (u.2 j))))]) 0 0 := by
  refine MI.start (by decide) (Nat.le_of_ble_eq_true rfl) (lv0 := [(0, .ref o), (1, .int (nI i))]) rfl ?_
  intro pp9 ee9 ss9 mm9 args9 below9 meth9 co9 A9 Q9 hQ hC hr hlk hnm
  have hok := rdd_ok (bT2 T) hp hb 41 (rd0 (bT T)) (okR_0 (bT2 T))
  have hov : (rdF p b (bT T)).1 < 2 := hok.2
  have hqr : (qR (rdF p b (bT T)).2).length ≤ 40 := hok.1.2.2.2.2.2.2
  have hq9 := rdd_lt (bT2 T) hp hb 41 (rd0 (bT T)) (okR_0 (bT2 T)) (fun x hx => absurd hx List.not_mem_nil)
  have hfr3 : frn p b T ≤ 3 := frn_le p b T
  refine V_iload_n hC dX8_told_0 rfl 1 rfl ?_
  refine V_if_ge_T (tgt := 6) hC dX8_told_1 (by decide) (nI_pos' (by omega)) ?_
  refine V_aload_n hC dX8_told_6 rfl 0 rfl ?_
  refine V_calliV (As := []) (rest := []) (wr := []) hC (c_X8_faultReason_n l D cI cQ o me kc tc rd tx tb hi ml rco rcr rsp rle txr tbw rz rv rk ro rT rH rp rb rl ru yn n e p b g rF rlf xf yg _ (hT) (by omega) (hT2) (by omega) (by omega) (by omega)) mok_X8_faultReason ml_X8_188 (q1 := 0) rfl cls_X8 rfl rfl rfl (by decide) (by decide) (by decide) (Nat.le_of_ble_eq_true rfl) [0, 1, 2, 3, 4, 5, 6, 7, 8, 9, 10, 11] [] rfl (by decide) rfl (by decide) (by decide) dX8_told_7 rfl (fun r9 u9 h7 => ?_)
  obtain ⟨rlf2_1, yg2_2⟩ := u9
  obtain ⟨rfl, h7⟩ := h7
  have h7 : rep rlf2_1 (qR (rdF p b (bT T)).2) ∧ ∀ j, j < T.length → yg2_2 j = bT T j := h7
  refine V_perm (ws2 := [(o, .inr (8, [.ref me, .ref kc, .ref tc, .ref rd, .ref tx, .ref tb, .ref hi])), (me, .inr (4, [.ref ml, .int (nI n), .int (nI e), .int (nI p), .int (nI b)])), (ml, .inl (cI, 40, .inl (fun j => nI (g j)))), (rd, .inr (5, [.ref rco, .ref rsp, .ref rle, .int (nI ((qR ((rdF p b (bT T)).2)).length)), .int (nI (qV ((rdF p b (bT T)).2))), .int (nI (qK ((rdF p b (bT T)).2))), .int (nI ((rdF p b (bT T)).1))])), (rco, .inr (2, [.ref rcr, .int (nI (qT ((rdF p b (bT T)).2))), .int (nI (qH ((rdF p b (bT T)).2))), .int (nI p), .int (nI b)])), (rcr, .inl (cI, 9, .inl (fun j => nI ((qF ((rdF p b (bT T)).2)) j)))), (rsp, .inr (6, [.int (nI (qL ((rdF p b (bT T)).2))), .int (nI (qU ((rdF p b (bT T)).2)))])), (rle, .inl (cI, 40, .inl (fun j => nI (rlf2_1 j)))), (tx, .inr (7, [.ref txr, .int (nI (T.length))])), (txr, .inl (cI, 120, .inl (fun j => nI (xf j)))), (tb, .inr (0, [.ref tbw, .int (nI (T.length))])), (tbw, .inl (cI, 658, .inl (fun j => nI (yg2_2 j))))]) [0, 1, 2, 3, 4, 5, 6, 7, 8, 9, 10, 11] rfl (by decide) ?_
  refine V_if_eq (tgt := 16) hC (by omega) dX8_told_10 (by decide) (fun c10 => ?_) (fun c10 => ?_)
  · refine V_iload_n hC dX8_told_16 rfl 1 rfl ?_
    refine V_aload_n hC dX8_told_17 rfl 0 rfl ?_
    refine V_get (ci := 8) (v := .ref rd) hC in_X8 0 rfl cls_X8 3 (by decide) fl_X8_29 rfl dX8_told_18 ?_
    refine V_getN (ci := 5) (v := .int (nI ((qR ((rdF p b (bT T)).2)).length))) hC in_X5 3 rfl cls_X5 3 (by decide) fn_X8_172 rfl dX8_told_21 ?_
    refine V_icmp_ge (tgt := 38) hC (by omega) (by omega) dX8_told_24 (by decide) (fun c24 => ?_) (fun c24 => ?_)
    · exact False.elim (by omega)
    · refine V_aload_n hC dX8_told_27 rfl 0 rfl ?_
      refine V_get (ci := 8) (v := .ref rd) hC in_X8 0 rfl cls_X8 3 (by decide) fl_X8_29 rfl dX8_told_28 ?_
      refine V_iload_n hC dX8_told_31 rfl 1 rfl ?_
      refine V_calliV (As := [.int (nI i)]) (rest := []) (wr := [(o, .inr (8, [.ref me, .ref kc, .ref tc, .ref rd, .ref tx, .ref tb, .ref hi])), (me, .inr (4, [.ref ml, .int (nI n), .int (nI e), .int (nI p), .int (nI b)])), (ml, .inl (cI, 40, .inl (fun j => nI (g j)))), (rco, .inr (2, [.ref rcr, .int (nI (qT ((rdF p b (bT T)).2))), .int (nI (qH ((rdF p b (bT T)).2))), .int (nI p), .int (nI b)])), (rcr, .inl (cI, 9, .inl (fun j => nI ((qF ((rdF p b (bT T)).2)) j)))), (rsp, .inr (6, [.int (nI (qL ((rdF p b (bT T)).2))), .int (nI (qU ((rdF p b (bT T)).2)))])), (tx, .inr (7, [.ref txr, .int (nI (T.length))])), (txr, .inl (cI, 120, .inl (fun j => nI (xf j)))), (tb, .inr (0, [.ref tbw, .int (nI (T.length))])), (tbw, .inl (cI, 658, .inl (fun j => nI (yg2_2 j))))]) hC (c_X5_letterAt l D cI cQ rd rco rsp rle ((qR ((rdF p b (bT T)).2)).length) (qV ((rdF p b (bT T)).2)) (qK ((rdF p b (bT T)).2)) ((rdF p b (bT T)).1) i rlf2_1 (by omega)) mok_X5_letterAt ml_X8_194 (q1 := 0) rfl cls_X5 rfl rfl rfl (by decide) (by decide) (by decide) (Nat.le_of_ble_eq_true rfl) [3, 7] [0, 1, 2, 4, 5, 6, 8, 9, 10, 11] rfl (by decide) rfl (by decide) (by decide) dX8_told_32 rfl (fun r9 u9 h32 => ?_)
      obtain ⟨rfl, h32⟩ := h32
      clear h32
      refine V_perm (ws2 := [(o, .inr (8, [.ref me, .ref kc, .ref tc, .ref rd, .ref tx, .ref tb, .ref hi])), (me, .inr (4, [.ref ml, .int (nI n), .int (nI e), .int (nI p), .int (nI b)])), (ml, .inl (cI, 40, .inl (fun j => nI (g j)))), (rd, .inr (5, [.ref rco, .ref rsp, .ref rle, .int (nI (((qR ((rdF p b (bT T)).2)).length))), .int (nI ((qV ((rdF p b (bT T)).2)))), .int (nI ((qK ((rdF p b (bT T)).2)))), .int (nI (((rdF p b (bT T)).1)))])), (rco, .inr (2, [.ref rcr, .int (nI (qT ((rdF p b (bT T)).2))), .int (nI (qH ((rdF p b (bT T)).2))), .int (nI p), .int (nI b)])), (rcr, .inl (cI, 9, .inl (fun j => nI ((qF ((rdF p b (bT T)).2)) j)))), (rsp, .inr (6, [.int (nI (qL ((rdF p b (bT T)).2))), .int (nI (qU ((rdF p b (bT T)).2)))])), (rle, .inl (cI, 40, .inl (fun j => nI (rlf2_1 j)))), (tx, .inr (7, [.ref txr, .int (nI (T.length))])), (txr, .inl (cI, 120, .inl (fun j => nI (xf j)))), (tb, .inr (0, [.ref tbw, .int (nI (T.length))])), (tbw, .inl (cI, 658, .inl (fun j => nI (yg2_2 j))))]) [0, 1, 2, 10, 3, 4, 5, 11, 6, 7, 8, 9] rfl (by decide) ?_
      refine V_st (st2 := [.int (nI ((qR (rdF p b (bT T)).2).getD i 0))]) (by rw [show (rlf2_1 i) = ((qR (rdF p b (bT T)).2).getD i 0) from h7.1 i (by omega)]) ?_
      refine V_goto (tgt := 40) hC dX8_told_35 (by decide) ?_
      subst hQ
      exact V_iret hC hr hlk rfl (by decide) (by decide) dX8_told_40 ((rlf2_1, yg2_2)) [0, 1, 2, 3, 4, 5, 6, 7, 8, 9, 10, 11] rfl (by decide) (⟨rfl, trivial⟩)
  · exact False.elim (by omega)
abbrev rm_X8_told_no : Room := { frames := 6, cells := 0, slots := 0, locals := 139 }
set_option maxHeartbeats 4000000 in
set_option maxRecDepth 100000 in
theorem c_X8_told_no (l : Launch) (D : va_G) (cI cQ : ClassId) (o me kc tc rd tx tb hi ml rco rcr rsp rle txr tbw rz rv rk ro rT rH rp rb rl ru yn n e p b i : Nat) (g rF rlf xf yg : Nat → Nat) (T : List Nat) (hT : rep xf T) (hT1 : T.length ≤ 120) (hT2 : ∀ j, j < T.length → T.getD j 0 < 1000) (hp : p ≤ 64) (hb : b ≤ 2000) (hx : T.length ≤ stT T) (hi9 : i < 2147483648) (hfr : frn p b T = 0) (hlt : (qR (rdF p b (bT T)).2).length ≤ i) : MI l yX8_told cX8_told 2 (some .int) rm_X8_told_no D (TY cI cQ) [.ref o, .int (nI i)] [(o, .inr (8, [.ref me, .ref kc, .ref tc, .ref rd, .ref tx, .ref tb, .ref hi])), (me, .inr (4, [.ref ml, .int (nI n), .int (nI e), .int (nI p), .int (nI b)])), (ml, .inl (cI, 40, .inl (fun j => nI (g j)))), (rd, .inr (5, [.ref rco, .ref rsp, .ref rle, .int (nI rz), .int (nI rv), .int (nI rk), .int (nI ro)])), (rco, .inr (2, [.ref rcr, .int (nI rT), .int (nI rH), .int (nI rp), .int (nI rb)])), (rcr, .inl (cI, 9, .inl (fun j => nI (rF j)))), (rsp, .inr (6, [.int (nI rl), .int (nI ru)])), (rle, .inl (cI, 40, .inl (fun j => nI (rlf j)))), (tx, .inr (7, [.ref txr, .int (nI (T.length))])), (txr, .inl (cI, 120, .inl (fun j => nI (xf j)))), (tb, .inr (0, [.ref tbw, .int (nI yn)])), (tbw, .inl (cI, 658, .inl (fun j => nI (yg j))))] (fun (r9 : Int32) (u : (Nat → Nat) × (Nat → Nat)) => r9 = (-4) ∧ (True)) (fun (u : (Nat → Nat) × (Nat → Nat)) => [(o, .inr (8, [.ref me, .ref kc, .ref tc, .ref rd, .ref tx, .ref tb, .ref hi])), (me, .inr (4, [.ref ml, .int (nI n), .int (nI e), .int (nI p), .int (nI b)])), (ml, .inl (cI, 40, .inl (fun j => nI (g j)))), (rd, .inr (5, [.ref rco, .ref rsp, .ref rle, .int (nI ((qR ((rdF p b (bT T)).2)).length)), .int (nI (qV ((rdF p b (bT T)).2))), .int (nI (qK ((rdF p b (bT T)).2))), .int (nI ((rdF p b (bT T)).1))])), (rco, .inr (2, [.ref rcr, .int (nI (qT ((rdF p b (bT T)).2))), .int (nI (qH ((rdF p b (bT T)).2))), .int (nI p), .int (nI b)])), (rcr, .inl (cI, 9, .inl (fun j => nI ((qF ((rdF p b (bT T)).2)) j)))), (rsp, .inr (6, [.int (nI (qL ((rdF p b (bT T)).2))), .int (nI (qU ((rdF p b (bT T)).2)))])), (rle, .inl (cI, 40, .inl (fun j => nI (u.1 j)))), (tx, .inr (7, [.ref txr, .int (nI (T.length))])), (txr, .inl (cI, 120, .inl (fun j => nI (xf j)))), (tb, .inr (0, [.ref tbw, .int (nI (T.length))])), (tbw, .inl (cI, 658, .inl (fun j => nI (u.2 j))))]) 0 0 := by
  refine MI.start (by decide) (Nat.le_of_ble_eq_true rfl) (lv0 := [(0, .ref o), (1, .int (nI i))]) rfl ?_
  intro pp9 ee9 ss9 mm9 args9 below9 meth9 co9 A9 Q9 hQ hC hr hlk hnm
  have hok := rdd_ok (bT2 T) hp hb 41 (rd0 (bT T)) (okR_0 (bT2 T))
  have hov : (rdF p b (bT T)).1 < 2 := hok.2
  have hqr : (qR (rdF p b (bT T)).2).length ≤ 40 := hok.1.2.2.2.2.2.2
  have hq9 := rdd_lt (bT2 T) hp hb 41 (rd0 (bT T)) (okR_0 (bT2 T)) (fun x hx => absurd hx List.not_mem_nil)
  have hfr3 : frn p b T ≤ 3 := frn_le p b T
  refine V_iload_n hC dX8_told_0 rfl 1 rfl ?_
  refine V_if_ge_T (tgt := 6) hC dX8_told_1 (by decide) (nI_pos' (by omega)) ?_
  refine V_aload_n hC dX8_told_6 rfl 0 rfl ?_
  refine V_calliV (As := []) (rest := []) (wr := []) hC (c_X8_faultReason_n l D cI cQ o me kc tc rd tx tb hi ml rco rcr rsp rle txr tbw rz rv rk ro rT rH rp rb rl ru yn n e p b g rF rlf xf yg _ (hT) (by omega) (hT2) (by omega) (by omega) (by omega)) mok_X8_faultReason ml_X8_188 (q1 := 0) rfl cls_X8 rfl rfl rfl (by decide) (by decide) (by decide) (Nat.le_of_ble_eq_true rfl) [0, 1, 2, 3, 4, 5, 6, 7, 8, 9, 10, 11] [] rfl (by decide) rfl (by decide) (by decide) dX8_told_7 rfl (fun r9 u9 h7 => ?_)
  obtain ⟨rlf2_1, yg2_2⟩ := u9
  obtain ⟨rfl, h7⟩ := h7
  have h7 : rep rlf2_1 (qR (rdF p b (bT T)).2) ∧ ∀ j, j < T.length → yg2_2 j = bT T j := h7
  refine V_perm (ws2 := [(o, .inr (8, [.ref me, .ref kc, .ref tc, .ref rd, .ref tx, .ref tb, .ref hi])), (me, .inr (4, [.ref ml, .int (nI n), .int (nI e), .int (nI p), .int (nI b)])), (ml, .inl (cI, 40, .inl (fun j => nI (g j)))), (rd, .inr (5, [.ref rco, .ref rsp, .ref rle, .int (nI ((qR ((rdF p b (bT T)).2)).length)), .int (nI (qV ((rdF p b (bT T)).2))), .int (nI (qK ((rdF p b (bT T)).2))), .int (nI ((rdF p b (bT T)).1))])), (rco, .inr (2, [.ref rcr, .int (nI (qT ((rdF p b (bT T)).2))), .int (nI (qH ((rdF p b (bT T)).2))), .int (nI p), .int (nI b)])), (rcr, .inl (cI, 9, .inl (fun j => nI ((qF ((rdF p b (bT T)).2)) j)))), (rsp, .inr (6, [.int (nI (qL ((rdF p b (bT T)).2))), .int (nI (qU ((rdF p b (bT T)).2)))])), (rle, .inl (cI, 40, .inl (fun j => nI (rlf2_1 j)))), (tx, .inr (7, [.ref txr, .int (nI (T.length))])), (txr, .inl (cI, 120, .inl (fun j => nI (xf j)))), (tb, .inr (0, [.ref tbw, .int (nI (T.length))])), (tbw, .inl (cI, 658, .inl (fun j => nI (yg2_2 j))))]) [0, 1, 2, 3, 4, 5, 6, 7, 8, 9, 10, 11] rfl (by decide) ?_
  refine V_if_eq (tgt := 16) hC (by omega) dX8_told_10 (by decide) (fun c10 => ?_) (fun c10 => ?_)
  · refine V_iload_n hC dX8_told_16 rfl 1 rfl ?_
    refine V_aload_n hC dX8_told_17 rfl 0 rfl ?_
    refine V_get (ci := 8) (v := .ref rd) hC in_X8 0 rfl cls_X8 3 (by decide) fl_X8_29 rfl dX8_told_18 ?_
    refine V_getN (ci := 5) (v := .int (nI ((qR ((rdF p b (bT T)).2)).length))) hC in_X5 3 rfl cls_X5 3 (by decide) fn_X8_172 rfl dX8_told_21 ?_
    refine V_icmp_ge (tgt := 38) hC (by omega) (by omega) dX8_told_24 (by decide) (fun c24 => ?_) (fun c24 => ?_)
    · refine V_bipush (v := -4) hC dX8_told_38 (by decide) ?_
      subst hQ
      exact V_iret hC hr hlk rfl (by decide) (by decide) dX8_told_40 ((rlf2_1, yg2_2)) [0, 1, 2, 3, 4, 5, 6, 7, 8, 9, 10, 11] rfl (by decide) (⟨rfl, trivial⟩)
    · exact False.elim (by omega)
  · exact False.elim (by omega)
