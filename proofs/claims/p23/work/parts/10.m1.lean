abbrev rm_X0_empty : Room := { frames := 0, cells := 0, slots := 0, locals := 0 }
set_option maxHeartbeats 4000000 in
set_option maxRecDepth 100000 in
theorem c_X0_empty (l : Launch) (D : va_G) (cI cQ : ClassId) (a r n : Nat)  : MV l yX0_empty cX0_empty 1 none rm_X0_empty D (TY cI cQ) [.ref a] [(a, .inr (0, [.ref r, .int (nI n)]))] (fun (u : Unit) => True) (fun (u : Unit) => [(a, .inr (0, [.ref r, .int (nI 0)]))]) 0 0 := by
  refine MV.start (by decide) (Nat.le_of_ble_eq_true rfl) (lv0 := [(0, .ref a)]) rfl ?_
  intro pp9 ee9 ss9 mm9 args9 below9 meth9 co9 A9 Q9 hQ hC hr hlk hnm
  refine V_aload_n hC dX0_empty_0 rfl 0 rfl ?_
  refine V_iconst (v := nI 0) hC dX0_empty_1 (by decide) ?_
  refine V_put (ci := 0) (v := .int (nI 0)) hC tyX0 tyX0_ok nmX0 in_X0 0 rfl cls_X0 1 (by decide) fl_X0_15 rfl rfl rfl (Nat.le_of_ble_eq_true rfl) dX0_empty_2 (ws2 := [(a, .inr (0, [.ref r, .int (nI 0)]))]) rfl ?_
  subst hQ
  exact V_vret hC hr hlk (by decide) (by decide) dX0_empty_5 (()) [0] rfl (by decide) (trivial)
abbrev rm_X0_append : Room := { frames := 0, cells := 0, slots := 0, locals := 0 }
set_option maxHeartbeats 4000000 in
set_option maxRecDepth 100000 in
theorem c_X0_append (l : Launch) (D : va_G) (cI cQ : ClassId) (a r n x : Nat) (g : Nat → Nat) (hn : n < 658) : MV l yX0_append cX0_append 2 none rm_X0_append D (TY cI cQ) [.ref a, .int (nI x)] [(a, .inr (0, [.ref r, .int (nI n)])), (r, .inl (cI, 658, .inl (fun j => nI (g j))))] (fun (u : Unit) => True) (fun (u : Unit) => [(a, .inr (0, [.ref r, .int (nI (n + 1))])), (r, .inl (cI, 658, .inl (fun j => nI ((va_up g n x) j))))]) 0 0 := by
  refine MV.start (by decide) (Nat.le_of_ble_eq_true rfl) (lv0 := [(0, .ref a), (1, .int (nI x))]) rfl ?_
  intro pp9 ee9 ss9 mm9 args9 below9 meth9 co9 A9 Q9 hQ hC hr hlk hnm
  refine V_aload_n hC dX0_append_0 rfl 0 rfl ?_
  refine V_get (ci := 0) (v := .int (nI n)) hC in_X0 0 rfl cls_X0 1 (by decide) fl_X0_15 rfl dX0_append_1 ?_
  refine V_if_lt_F (tgt := 39) hC dX0_append_4 (by decide) (nI_pos (by omega)) ?_
  refine V_aload_n hC dX0_append_7 rfl 0 rfl ?_
  refine V_get (ci := 0) (v := .int (nI n)) hC in_X0 0 rfl cls_X0 1 (by decide) fl_X0_15 rfl dX0_append_8 ?_
  refine V_aload_n hC dX0_append_11 rfl 0 rfl ?_
  refine V_get (ci := 0) (v := .ref r) hC in_X0 0 rfl cls_X0 0 (by decide) fl_X0_9 rfl dX0_append_12 ?_
  refine V_alen (v := (nI 658)) hC 1 0 rfl rfl rfl dX0_append_15 ?_
  refine V_icmp_ge_F (tgt := 39) hC dX0_append_16 (by decide) (nI_ge (by omega) (by omega)) ?_
  refine V_aload_n hC dX0_append_19 rfl 0 rfl ?_
  refine V_get (ci := 0) (v := .ref r) hC in_X0 0 rfl cls_X0 0 (by decide) fl_X0_9 rfl dX0_append_20 ?_
  refine V_aload_n hC dX0_append_23 rfl 0 rfl ?_
  refine V_get (ci := 0) (v := .int (nI n)) hC in_X0 0 rfl cls_X0 1 (by decide) fl_X0_15 rfl dX0_append_24 ?_
  refine V_iload_n hC dX0_append_27 rfl 1 rfl ?_
  refine V_iast hC 1 0 rfl rfl (by omega) (by decide) dX0_append_28 (ws2 := [(a, .inr (0, [.ref r, .int (nI n)])), (r, .inl (cI, 658, .inl (fun j => nI ((va_up g n x) j))))]) rfl ?_
  refine V_aload_n hC dX0_append_29 rfl 0 rfl ?_
  refine V_dup hC dX0_append_30 rfl ?_
  refine V_get (ci := 0) (v := .int (nI n)) hC in_X0 0 rfl cls_X0 1 (by decide) fl_X0_15 rfl dX0_append_31 ?_
  refine V_iconst (v := nI 1) hC dX0_append_34 (by decide) ?_
  refine V_iadd hC dX0_append_35 ?_
  refine V_put (ci := 0) (v := .int (nI (n + 1))) hC tyX0 tyX0_ok nmX0 in_X0 0 rfl cls_X0 1 (by decide) fl_X0_15 rfl rfl rfl (Nat.le_of_ble_eq_true rfl) dX0_append_36 (ws2 := [(a, .inr (0, [.ref r, .int (nI (n + 1))])), (r, .inl (cI, 658, .inl (fun j => nI ((va_up g n x) j))))]) rfl ?_
  subst hQ
  exact V_vret hC hr hlk (by decide) (by decide) dX0_append_39 (()) [0, 1] rfl (by decide) (trivial)
abbrev rm_X0_bitAt : Room := { frames := 0, cells := 0, slots := 0, locals := 0 }
set_option maxHeartbeats 4000000 in
set_option maxRecDepth 100000 in
theorem c_X0_bitAt (l : Launch) (D : va_G) (cI cQ : ClassId) (a r n i : Nat) (g : Nat → Nat) (hn : n ≤ 658) (hi : i < 2147483648) : MI l yX0_bitAt cX0_bitAt 2 (some .int) rm_X0_bitAt D (TY cI cQ) [.ref a, .int (nI i)] [(a, .inr (0, [.ref r, .int (nI n)])), (r, .inl (cI, 658, .inl (fun j => nI (g j))))] (fun (r9 : Int32) (u : Unit) => r9 = (nI (if i < n then g i else 0)) ∧ True) (fun (u : Unit) => [(a, .inr (0, [.ref r, .int (nI n)])), (r, .inl (cI, 658, .inl (fun j => nI (g j))))]) 0 0 := by
  refine MI.start (by decide) (Nat.le_of_ble_eq_true rfl) (lv0 := [(0, .ref a), (1, .int (nI i))]) rfl ?_
  intro pp9 ee9 ss9 mm9 args9 below9 meth9 co9 A9 Q9 hQ hC hr hlk hnm
  refine V_iload_n hC dX0_bitAt_0 rfl 1 rfl ?_
  refine V_if_lt_F (tgt := 30) hC dX0_bitAt_1 (by decide) (nI_pos (by omega)) ?_
  refine V_iload_n hC dX0_bitAt_4 rfl 1 rfl ?_
  refine V_aload_n hC dX0_bitAt_5 rfl 0 rfl ?_
  refine V_get (ci := 0) (v := .int (nI n)) hC in_X0 0 rfl cls_X0 1 (by decide) fl_X0_15 rfl dX0_bitAt_6 ?_
  refine V_icmp_ge (tgt := 30) hC (by omega) (by omega) dX0_bitAt_9 (by decide) (fun c9 => ?_) (fun c9 => ?_)
  · refine V_iconst (v := nI 0) hC dX0_bitAt_30 (by decide) ?_
    subst hQ
    exact V_iret hC hr hlk rfl (by decide) (by decide) dX0_bitAt_31 (()) [0, 1] rfl (by decide) (⟨by rw [if_neg (show ¬ i < n by omega)], trivial⟩)
  · refine V_iload_n hC dX0_bitAt_12 rfl 1 rfl ?_
    refine V_aload_n hC dX0_bitAt_13 rfl 0 rfl ?_
    refine V_get (ci := 0) (v := .ref r) hC in_X0 0 rfl cls_X0 0 (by decide) fl_X0_9 rfl dX0_bitAt_14 ?_
    refine V_alen (v := (nI 658)) hC 1 0 rfl rfl rfl dX0_bitAt_17 ?_
    refine V_icmp_ge_F (tgt := 30) hC dX0_bitAt_18 (by decide) (nI_ge (by omega) (by omega)) ?_
    refine V_aload_n hC dX0_bitAt_21 rfl 0 rfl ?_
    refine V_get (ci := 0) (v := .ref r) hC in_X0 0 rfl cls_X0 0 (by decide) fl_X0_9 rfl dX0_bitAt_22 ?_
    refine V_iload_n hC dX0_bitAt_25 rfl 1 rfl ?_
    refine V_iald hC 1 0 rfl rfl (by omega) (by decide) dX0_bitAt_26 ?_
    refine V_goto (tgt := 31) hC dX0_bitAt_27 (by decide) ?_
    subst hQ
    exact V_iret hC hr hlk rfl (by decide) (by decide) dX0_bitAt_31 (()) [0, 1] rfl (by decide) (⟨by rw [if_pos (show i < n by omega)], trivial⟩)
abbrev rm_X0_firstOne : Room := { frames := 1, cells := 0, slots := 0, locals := 21 }
set_option maxHeartbeats 4000000 in
set_option maxRecDepth 100000 in
theorem c_X0_firstOne (l : Launch) (D : va_G) (cI cQ : ClassId) (a r n j : Nat) (g : Nat → Nat) (hn : n ≤ 658) (hj : j < 2147483648) (hg : ∀ i, i < n → g i < 2) : MI l yX0_firstOne cX0_firstOne 3 (some .int) rm_X0_firstOne D (TY cI cQ) [.ref a, .int (nI j)] [(a, .inr (0, [.ref r, .int (nI n)])), (r, .inl (cI, 658, .inl (fun j => nI (g j))))] (fun (r9 : Int32) (u : Unit) => r9 = (nI (fO g n j)) ∧ True) (fun (u : Unit) => [(a, .inr (0, [.ref r, .int (nI n)])), (r, .inl (cI, 658, .inl (fun j => nI (g j))))]) 0 0 := by
  refine MI.start (by decide) (Nat.le_of_ble_eq_true rfl) (lv0 := [(0, .ref a), (1, .int (nI j))]) rfl ?_
  intro pp9 ee9 ss9 mm9 args9 below9 meth9 co9 A9 Q9 hQ hC hr hlk hnm
  refine V_iconst (v := nI 0) hC dX0_firstOne_0 (by decide) ?_
  refine V_iload_n hC dX0_firstOne_1 rfl 1 rfl ?_
  refine V_mmax hC ml_X0_19 stt_max ini_Math cd_max (by omega) (by omega) (by decide) (Nat.le_of_ble_eq_true rfl) (by decide) (by decide) dX0_firstOne_2 ?_
  refine V_istore_n (lv2 := [(0, .ref a), (1, .int (nI j)), (2, .int (nI (max 0 j)))]) hC dX0_firstOne_5 rfl (by decide) [1, 2, 0] rfl ?_
  have L6 : ∀ (n9 : Nat) (i : Nat), (i < 2147483648) → (j ≤ i) → (fO g n j = fO g n i) → n - i < n9 → V pp9 l ee9 rm_X0_firstOne ss9 mm9 args9 below9 meth9 co9 D A9 ss9.heap 3 Q9 [(a, .inr (0, [.ref r, .int (nI n)])), (r, .inl (cI, 658, .inl (fun j => nI (g j))))] [(0, .ref a), (1, .int (nI j)), (2, .int (nI i))] 0 0 6 [] := by
    intro n9
    induction n9 with
    | zero => intro i h1 h2 h3 h9; exact absurd h9 (Nat.not_lt_zero _)
    | succ n9 ih =>
      intro i h1 h2 h3 h9
      refine V_iload_n hC dX0_firstOne_6 rfl 2 rfl ?_
      refine V_aload_n hC dX0_firstOne_7 rfl 0 rfl ?_
      refine V_get (ci := 0) (v := .int (nI n)) hC in_X0 0 rfl cls_X0 1 (by decide) fl_X0_15 rfl dX0_firstOne_8 ?_
      refine V_icmp_ge (tgt := 31) hC (by omega) (by omega) dX0_firstOne_11 (by decide) (fun c11 => ?_) (fun c11 => ?_)
      · refine V_aload_n hC dX0_firstOne_31 rfl 0 rfl ?_
        refine V_get (ci := 0) (v := .int (nI n)) hC in_X0 0 rfl cls_X0 1 (by decide) fl_X0_15 rfl dX0_firstOne_32 ?_
        subst hQ
        exact V_iret hC hr hlk rfl (by decide) (by decide) dX0_firstOne_35 (()) [0, 1] rfl (by decide) (⟨by rw [h3, fO_end (show n ≤ i by omega)], trivial⟩)
      · refine V_aload_n hC dX0_firstOne_14 rfl 0 rfl ?_
        refine V_iload_n hC dX0_firstOne_15 rfl 2 rfl ?_
        refine V_calliV (As := [.int (nI i)]) (rest := []) (wr := []) hC (c_X0_bitAt l D cI cQ a r n i g (by omega) (by omega)) mok_X0_bitAt ml_X0_25 (q1 := 0) rfl cls_X0 rfl rfl rfl (by decide) (by decide) (by decide) (Nat.le_of_ble_eq_true rfl) [0, 1] [] rfl (by decide) rfl (by decide) (by decide) dX0_firstOne_16 rfl (fun r9 u9 h16 => ?_)
        obtain ⟨rfl, h16⟩ := h16
        clear h16
        refine V_perm (ws2 := [(a, .inr (0, [.ref r, .int (nI n)])), (r, .inl (cI, 658, .inl (fun j => nI (g j))))]) [0, 1] rfl (by decide) ?_
        refine V_st (st2 := [.int (nI (g i))]) (by rw [show (if i < n then g i else 0) = (g i) from if_pos (show i < n by omega)]) ?_
        have hg1 := hg i (by omega)
        refine V_iconst (v := nI 1) hC dX0_firstOne_19 (by decide) ?_
        refine V_icmp_ne (tgt := 25) hC (by omega) (by omega) dX0_firstOne_20 (by decide) (fun c20 => ?_) (fun c20 => ?_)
        · refine V_iinc (v := (nI (i + 1))) (lv2 := [(0, .ref a), (1, .int (nI j)), (2, .int (nI (i + 1)))]) (q := 2) hC dX0_firstOne_25 rfl (nI_add _ _) (by decide) [1, 2, 0] rfl ?_
          refine V_goto (tgt := 6) hC dX0_firstOne_28 (by decide) ?_
          exact ih (i + 1) (by omega) (by omega) (by rw [h3, fO_step (show i < n by omega) c20]) (by omega)
        · refine V_iload_n hC dX0_firstOne_23 rfl 2 rfl ?_
          subst hQ
          exact V_iret hC hr hlk rfl (by decide) (by decide) dX0_firstOne_24 (()) [0, 1] rfl (by decide) (⟨by rw [h3, fO_hit (show i < n by omega) c20], trivial⟩)
  exact L6 _ (max 0 j) (by omega) (by omega) (by rw [show max 0 j = j by omega]) (Nat.lt_succ_self _)
abbrev rm_X2_start : Room := { frames := 0, cells := 0, slots := 0, locals := 0 }
set_option maxHeartbeats 4000000 in
set_option maxRecDepth 100000 in
theorem c_X2_start (l : Launch) (D : va_G) (cI cQ : ClassId) (a r t h p b p2 b2 : Nat) (f : Nat → Nat)  : MV l yX2_start cX2_start 4 none rm_X2_start D (TY cI cQ) [.ref a, .int (nI p2), .int (nI b2)] [(a, .inr (2, [.ref r, .int (nI t), .int (nI h), .int (nI p), .int (nI b)])), (r, .inl (cI, 9, .inl (fun j => nI (f j))))] (fun (u : Unit) => True) (fun (u : Unit) => [(a, .inr (2, [.ref r, .int (nI 9), .int (nI 0), .int (nI p2), .int (nI b2)])), (r, .inl (cI, 9, .inl (fun j => nI (one j))))]) 0 0 := by
  refine MV.start (by decide) (Nat.le_of_ble_eq_true rfl) (lv0 := [(0, .ref a), (1, .int (nI p2)), (2, .int (nI b2))]) rfl ?_
  intro pp9 ee9 ss9 mm9 args9 below9 meth9 co9 A9 Q9 hQ hC hr hlk hnm
  refine V_iconst (v := nI 0) hC dX2_start_0 (by decide) ?_
  refine V_istore_n (lv2 := [(0, .ref a), (1, .int (nI p2)), (2, .int (nI b2)), (3, .int (nI 0))]) hC dX2_start_1 rfl (by decide) [1, 2, 3, 0] rfl ?_
  have L2 : ∀ (n9 : Nat) (i : Nat) (f2 : Nat → Nat), (i ≤ 9) → (∀ j, j < i → f2 j = 1) → 9 - i < n9 → V pp9 l ee9 rm_X2_start ss9 mm9 args9 below9 meth9 co9 D A9 ss9.heap 4 Q9 [(a, .inr (2, [.ref r, .int (nI t), .int (nI h), .int (nI p), .int (nI b)])), (r, .inl (cI, 9, .inl (fun j => nI (f2 j))))] [(0, .ref a), (1, .int (nI p2)), (2, .int (nI b2)), (3, .int (nI i))] 0 0 2 [] := by
    intro n9
    induction n9 with
    | zero => intro i f2 h1 h2 h9; exact absurd h9 (Nat.not_lt_zero _)
    | succ n9 ih =>
      intro i f2 h1 h2 h9
      refine V_iload_n hC dX2_start_2 rfl 3 rfl ?_
      refine V_aload_n hC dX2_start_3 rfl 0 rfl ?_
      refine V_get (ci := 2) (v := .ref r) hC in_X2 0 rfl cls_X2 0 (by decide) fl_X2_9 rfl dX2_start_4 ?_
      refine V_alen (v := (nI 9)) hC 1 0 rfl rfl rfl dX2_start_7 ?_
      refine V_icmp_ge (tgt := 24) hC (by omega) (by omega) dX2_start_8 (by decide) (fun c8 => ?_) (fun c8 => ?_)
      · have hcg : ∀ j, j < 9 → f2 j = one j := fun j hj => by rw [h2 j (by omega)]; rfl
        refine V_cong (k := 1) (g := fun j => nI (one j)) rfl (fun j hj => congrArg nI (hcg j hj)) (ws2 := [(a, .inr (2, [.ref r, .int (nI t), .int (nI h), .int (nI p), .int (nI b)])), (r, .inl (cI, 9, .inl (fun j => nI (one j))))]) rfl ?_
        clear hcg
        refine V_aload_n hC dX2_start_24 rfl 0 rfl ?_
        refine V_aload_n hC dX2_start_25 rfl 0 rfl ?_
        refine V_get (ci := 2) (v := .ref r) hC in_X2 0 rfl cls_X2 0 (by decide) fl_X2_9 rfl dX2_start_26 ?_
        refine V_alen (v := (nI 9)) hC 1 0 rfl rfl rfl dX2_start_29 ?_
        refine V_put (ci := 2) (v := .int (nI 9)) hC tyX2 tyX2_ok nmX2 in_X2 0 rfl cls_X2 1 (by decide) fl_X2_15 rfl rfl rfl (Nat.le_of_ble_eq_true rfl) dX2_start_30 (ws2 := [(a, .inr (2, [.ref r, .int (nI 9), .int (nI h), .int (nI p), .int (nI b)])), (r, .inl (cI, 9, .inl (fun j => nI (one j))))]) rfl ?_
        refine V_aload_n hC dX2_start_33 rfl 0 rfl ?_
        refine V_iconst (v := nI 0) hC dX2_start_34 (by decide) ?_
        refine V_put (ci := 2) (v := .int (nI 0)) hC tyX2 tyX2_ok nmX2 in_X2 0 rfl cls_X2 2 (by decide) fl_X2_19 rfl rfl rfl (Nat.le_of_ble_eq_true rfl) dX2_start_35 (ws2 := [(a, .inr (2, [.ref r, .int (nI 9), .int (nI 0), .int (nI p), .int (nI b)])), (r, .inl (cI, 9, .inl (fun j => nI (one j))))]) rfl ?_
        refine V_aload_n hC dX2_start_38 rfl 0 rfl ?_
        refine V_iload_n hC dX2_start_39 rfl 1 rfl ?_
        refine V_put (ci := 2) (v := .int (nI p2)) hC tyX2 tyX2_ok nmX2 in_X2 0 rfl cls_X2 3 (by decide) fl_X2_22 rfl rfl rfl (Nat.le_of_ble_eq_true rfl) dX2_start_40 (ws2 := [(a, .inr (2, [.ref r, .int (nI 9), .int (nI 0), .int (nI p2), .int (nI b)])), (r, .inl (cI, 9, .inl (fun j => nI (one j))))]) rfl ?_
        refine V_aload_n hC dX2_start_43 rfl 0 rfl ?_
        refine V_iload_n hC dX2_start_44 rfl 2 rfl ?_
        refine V_put (ci := 2) (v := .int (nI b2)) hC tyX2 tyX2_ok nmX2 in_X2 0 rfl cls_X2 4 (by decide) fl_X2_25 rfl rfl rfl (Nat.le_of_ble_eq_true rfl) dX2_start_45 (ws2 := [(a, .inr (2, [.ref r, .int (nI 9), .int (nI 0), .int (nI p2), .int (nI b2)])), (r, .inl (cI, 9, .inl (fun j => nI (one j))))]) rfl ?_
        subst hQ
        exact V_vret hC hr hlk (by decide) (by decide) dX2_start_48 (()) [0, 1] rfl (by decide) (trivial)
      · refine V_aload_n hC dX2_start_11 rfl 0 rfl ?_
        refine V_get (ci := 2) (v := .ref r) hC in_X2 0 rfl cls_X2 0 (by decide) fl_X2_9 rfl dX2_start_12 ?_
        refine V_iload_n hC dX2_start_15 rfl 3 rfl ?_
        refine V_iconst (v := nI 1) hC dX2_start_16 (by decide) ?_
        refine V_iast hC 1 0 rfl rfl (by omega) (by decide) dX2_start_17 (ws2 := [(a, .inr (2, [.ref r, .int (nI t), .int (nI h), .int (nI p), .int (nI b)])), (r, .inl (cI, 9, .inl (fun j => nI ((va_up f2 i 1) j))))]) rfl ?_
        refine V_iinc (v := (nI (i + 1))) (lv2 := [(0, .ref a), (1, .int (nI p2)), (2, .int (nI b2)), (3, .int (nI (i + 1)))]) (q := 3) hC dX2_start_18 rfl (nI_add _ _) (by decide) [1, 2, 3, 0] rfl ?_
        refine V_goto (tgt := 2) hC dX2_start_21 (by decide) ?_
        exact ih (i + 1) (va_up f2 i 1) (by omega) (lt_s (fun j hj => by rw [va_up_ne f2 1 (show j ≠ i by omega)]; exact h2 j hj) (va_up_self f2 i 1)) (by omega)
  exact L2 _ 0 f (by omega) (fun j hj => absurd hj (Nat.not_lt_zero j)) (Nat.lt_succ_self _)
abbrev rm_X2_countAt : Room := { frames := 0, cells := 0, slots := 0, locals := 0 }
set_option maxHeartbeats 4000000 in
set_option maxRecDepth 100000 in
theorem c_X2_countAt (l : Launch) (D : va_G) (cI cQ : ClassId) (a r t h p b k : Nat) (f : Nat → Nat) (hk : k < 9) : MI l yX2_countAt cX2_countAt 2 (some .int) rm_X2_countAt D (TY cI cQ) [.ref a, .int (nI k)] [(a, .inr (2, [.ref r, .int (nI t), .int (nI h), .int (nI p), .int (nI b)])), (r, .inl (cI, 9, .inl (fun j => nI (f j))))] (fun (r9 : Int32) (u : Unit) => r9 = (nI (f k)) ∧ True) (fun (u : Unit) => [(a, .inr (2, [.ref r, .int (nI t), .int (nI h), .int (nI p), .int (nI b)])), (r, .inl (cI, 9, .inl (fun j => nI (f j))))]) 0 0 := by
  refine MI.start (by decide) (Nat.le_of_ble_eq_true rfl) (lv0 := [(0, .ref a), (1, .int (nI k))]) rfl ?_
  intro pp9 ee9 ss9 mm9 args9 below9 meth9 co9 A9 Q9 hQ hC hr hlk hnm
  refine V_iload_n hC dX2_countAt_0 rfl 1 rfl ?_
  refine V_if_lt_F (tgt := 22) hC dX2_countAt_1 (by decide) (nI_pos (by omega)) ?_
  refine V_iload_n hC dX2_countAt_4 rfl 1 rfl ?_
  refine V_aload_n hC dX2_countAt_5 rfl 0 rfl ?_
  refine V_get (ci := 2) (v := .ref r) hC in_X2 0 rfl cls_X2 0 (by decide) fl_X2_9 rfl dX2_countAt_6 ?_
  refine V_alen (v := (nI 9)) hC 1 0 rfl rfl rfl dX2_countAt_9 ?_
  refine V_icmp_ge_F (tgt := 22) hC dX2_countAt_10 (by decide) (nI_ge (by omega) (by omega)) ?_
  refine V_aload_n hC dX2_countAt_13 rfl 0 rfl ?_
  refine V_get (ci := 2) (v := .ref r) hC in_X2 0 rfl cls_X2 0 (by decide) fl_X2_9 rfl dX2_countAt_14 ?_
  refine V_iload_n hC dX2_countAt_17 rfl 1 rfl ?_
  refine V_iald hC 1 0 rfl rfl (by omega) (by decide) dX2_countAt_18 ?_
  refine V_goto (tgt := 23) hC dX2_countAt_19 (by decide) ?_
  subst hQ
  exact V_iret hC hr hlk rfl (by decide) (by decide) dX2_countAt_23 (()) [0, 1] rfl (by decide) (⟨rfl, trivial⟩)
abbrev rm_X2_below : Room := { frames := 0, cells := 0, slots := 0, locals := 0 }
set_option maxHeartbeats 4000000 in
set_option maxRecDepth 100000 in
theorem c_X2_below (l : Launch) (D : va_G) (cI cQ : ClassId) (a r t h p b k : Nat) (f : Nat → Nat) (hk : k ≤ 9) : MI l yX2_below cX2_below 4 (some .int) rm_X2_below D (TY cI cQ) [.ref a, .int (nI k)] [(a, .inr (2, [.ref r, .int (nI t), .int (nI h), .int (nI p), .int (nI b)])), (r, .inl (cI, 9, .inl (fun j => nI (f j))))] (fun (r9 : Int32) (u : Unit) => r9 = (nI (cB f k)) ∧ True) (fun (u : Unit) => [(a, .inr (2, [.ref r, .int (nI t), .int (nI h), .int (nI p), .int (nI b)])), (r, .inl (cI, 9, .inl (fun j => nI (f j))))]) 0 0 := by
  refine MI.start (by decide) (Nat.le_of_ble_eq_true rfl) (lv0 := [(0, .ref a), (1, .int (nI k))]) rfl ?_
  intro pp9 ee9 ss9 mm9 args9 below9 meth9 co9 A9 Q9 hQ hC hr hlk hnm
  refine V_iconst (v := nI 0) hC dX2_below_0 (by decide) ?_
  refine V_istore_n (lv2 := [(0, .ref a), (1, .int (nI k)), (2, .int (nI 0))]) hC dX2_below_1 rfl (by decide) [1, 2, 0] rfl ?_
  refine V_iconst (v := nI 0) hC dX2_below_2 (by decide) ?_
  refine V_istore_n (lv2 := [(0, .ref a), (1, .int (nI k)), (2, .int (nI 0)), (3, .int (nI 0))]) hC dX2_below_3 rfl (by decide) [1, 2, 3, 0] rfl ?_
  have L4 : ∀ (n9 : Nat) (i : Nat) (s2 : Nat), (i ≤ k) → (s2 = cB f i) → k - i < n9 → V pp9 l ee9 rm_X2_below ss9 mm9 args9 below9 meth9 co9 D A9 ss9.heap 4 Q9 [(a, .inr (2, [.ref r, .int (nI t), .int (nI h), .int (nI p), .int (nI b)])), (r, .inl (cI, 9, .inl (fun j => nI (f j))))] [(0, .ref a), (1, .int (nI k)), (2, .int (nI s2)), (3, .int (nI i))] 0 0 4 [] := by
    intro n9
    induction n9 with
    | zero => intro i s2 h1 h2 h9; exact absurd h9 (Nat.not_lt_zero _)
    | succ n9 ih =>
      intro i s2 h1 h2 h9
      refine V_iload_n hC dX2_below_4 rfl 3 rfl ?_
      refine V_iload_n hC dX2_below_5 rfl 1 rfl ?_
      refine V_icmp_ge (tgt := 33) hC (by omega) (by omega) dX2_below_6 (by decide) (fun c6 => ?_) (fun c6 => ?_)
      · refine V_iload_n hC dX2_below_33 rfl 2 rfl ?_
        subst hQ
        exact V_iret hC hr hlk rfl (by decide) (by decide) dX2_below_34 (()) [0, 1] rfl (by decide) (⟨by rw [h2, show i = k by omega], trivial⟩)
      · refine V_iload_n hC dX2_below_9 rfl 3 rfl ?_
        refine V_aload_n hC dX2_below_10 rfl 0 rfl ?_
        refine V_get (ci := 2) (v := .ref r) hC in_X2 0 rfl cls_X2 0 (by decide) fl_X2_9 rfl dX2_below_11 ?_
        refine V_alen (v := (nI 9)) hC 1 0 rfl rfl rfl dX2_below_14 ?_
        refine V_icmp_ge_F (tgt := 33) hC dX2_below_15 (by decide) (nI_ge (by omega) (by omega)) ?_
        refine V_iload_n hC dX2_below_18 rfl 2 rfl ?_
        refine V_aload_n hC dX2_below_19 rfl 0 rfl ?_
        refine V_get (ci := 2) (v := .ref r) hC in_X2 0 rfl cls_X2 0 (by decide) fl_X2_9 rfl dX2_below_20 ?_
        refine V_iload_n hC dX2_below_23 rfl 3 rfl ?_
        refine V_iald hC 1 0 rfl rfl (by omega) (by decide) dX2_below_24 ?_
        refine V_iadd hC dX2_below_25 ?_
        refine V_istore_n (lv2 := [(0, .ref a), (1, .int (nI k)), (2, .int (nI (s2 + (f i)))), (3, .int (nI i))]) hC dX2_below_26 rfl (by decide) [1, 2, 0, 3] rfl ?_
        refine V_iinc (v := (nI (i + 1))) (lv2 := [(0, .ref a), (1, .int (nI k)), (2, .int (nI (s2 + (f i)))), (3, .int (nI (i + 1)))]) (q := 3) hC dX2_below_27 rfl (nI_add _ _) (by decide) [1, 2, 3, 0] rfl ?_
        refine V_goto (tgt := 4) hC dX2_below_30 (by decide) ?_
        exact ih (i + 1) (s2 + (f i)) (by omega) (by rw [h2, cB]) (by omega)
  exact L4 _ 0 0 (by omega) (rfl) (Nat.lt_succ_self _)
abbrev rm_X2_letterWith : Room := { frames := 0, cells := 0, slots := 0, locals := 0 }
set_option maxHeartbeats 4000000 in
set_option maxRecDepth 100000 in
theorem c_X2_letterWith (l : Launch) (D : va_G) (cI cQ : ClassId) (a r t h p b x : Nat) (f : Nat → Nat) (hx : x < 2147483648) (hb : ∀ j, j ≤ 9 → cB f j < 2147483648) : MI l yX2_letterWith cX2_letterWith 4 (some .int) rm_X2_letterWith D (TY cI cQ) [.ref a, .int (nI x)] [(a, .inr (2, [.ref r, .int (nI t), .int (nI h), .int (nI p), .int (nI b)])), (r, .inl (cI, 9, .inl (fun j => nI (f j))))] (fun (r9 : Int32) (u : Unit) => r9 = (nI (lw f x)) ∧ True) (fun (u : Unit) => [(a, .inr (2, [.ref r, .int (nI t), .int (nI h), .int (nI p), .int (nI b)])), (r, .inl (cI, 9, .inl (fun j => nI (f j))))]) 0 0 := by
  refine MI.start (by decide) (Nat.le_of_ble_eq_true rfl) (lv0 := [(0, .ref a), (1, .int (nI x))]) rfl ?_
  intro pp9 ee9 ss9 mm9 args9 below9 meth9 co9 A9 Q9 hQ hC hr hlk hnm
  refine V_iconst (v := nI 0) hC dX2_letterWith_0 (by decide) ?_
  refine V_istore_n (lv2 := [(0, .ref a), (1, .int (nI x)), (2, .int (nI 0))]) hC dX2_letterWith_1 rfl (by decide) [1, 2, 0] rfl ?_
  refine V_iconst (v := nI 0) hC dX2_letterWith_2 (by decide) ?_
  refine V_istore_n (lv2 := [(0, .ref a), (1, .int (nI x)), (2, .int (nI 0)), (3, .int (nI 0))]) hC dX2_letterWith_3 rfl (by decide) [1, 2, 3, 0] rfl ?_
  have L4 : ∀ (n9 : Nat) (i : Nat) (s2 : Nat), (i ≤ 9) → (s2 = cB f i) → (lwA f x (9 - i) i = lw f x) → 9 - i < n9 → V pp9 l ee9 rm_X2_letterWith ss9 mm9 args9 below9 meth9 co9 D A9 ss9.heap 4 Q9 [(a, .inr (2, [.ref r, .int (nI t), .int (nI h), .int (nI p), .int (nI b)])), (r, .inl (cI, 9, .inl (fun j => nI (f j))))] [(0, .ref a), (1, .int (nI x)), (2, .int (nI s2)), (3, .int (nI i))] 0 0 4 [] := by
    intro n9
    induction n9 with
    | zero => intro i s2 h1 h2 h3 h9; exact absurd h9 (Nat.not_lt_zero _)
    | succ n9 ih =>
      intro i s2 h1 h2 h3 h9
      refine V_iload_n hC dX2_letterWith_4 rfl 3 rfl ?_
      refine V_aload_n hC dX2_letterWith_5 rfl 0 rfl ?_
      refine V_get (ci := 2) (v := .ref r) hC in_X2 0 rfl cls_X2 0 (by decide) fl_X2_9 rfl dX2_letterWith_6 ?_
      refine V_alen (v := (nI 9)) hC 1 0 rfl rfl rfl dX2_letterWith_9 ?_
      refine V_icmp_ge (tgt := 35) hC (by omega) (by omega) dX2_letterWith_10 (by decide) (fun c10 => ?_) (fun c10 => ?_)
      · refine V_bipush (v := nI 8) hC dX2_letterWith_35 (by decide) ?_
        subst hQ
        exact V_iret hC hr hlk rfl (by decide) (by decide) dX2_letterWith_37 (()) [0, 1] rfl (by decide) (⟨by rw [← h3, show i = 9 by omega]; rfl, trivial⟩)
      · refine V_iload_n hC dX2_letterWith_13 rfl 2 rfl ?_
        refine V_aload_n hC dX2_letterWith_14 rfl 0 rfl ?_
        refine V_get (ci := 2) (v := .ref r) hC in_X2 0 rfl cls_X2 0 (by decide) fl_X2_9 rfl dX2_letterWith_15 ?_
        refine V_iload_n hC dX2_letterWith_18 rfl 3 rfl ?_
        refine V_iald hC 1 0 rfl rfl (by omega) (by decide) dX2_letterWith_19 ?_
        refine V_iadd hC dX2_letterWith_20 ?_
        refine V_istore_n (lv2 := [(0, .ref a), (1, .int (nI x)), (2, .int (nI (s2 + (f i)))), (3, .int (nI i))]) hC dX2_letterWith_21 rfl (by decide) [1, 2, 0, 3] rfl ?_
        refine V_iload_n hC dX2_letterWith_22 rfl 2 rfl ?_
        have h8 := hb (i + 1) (by omega)
        rw [cB] at h8
        refine V_iload_n hC dX2_letterWith_23 rfl 1 rfl ?_
        refine V_icmp_le (tgt := 29) hC (by omega) (by omega) dX2_letterWith_24 (by decide) (fun c24 => ?_) (fun c24 => ?_)
        · refine V_iinc (v := (nI (i + 1))) (lv2 := [(0, .ref a), (1, .int (nI x)), (2, .int (nI (s2 + (f i)))), (3, .int (nI (i + 1)))]) (q := 3) hC dX2_letterWith_29 rfl (nI_add _ _) (by decide) [1, 2, 3, 0] rfl ?_
          refine V_goto (tgt := 4) hC dX2_letterWith_32 (by decide) ?_
          exact ih (i + 1) (s2 + (f i)) (by omega) (by rw [h2, cB]) (by rw [← h3, show 9 - i = (9 - (i + 1)) + 1 by omega, lwA, if_neg (by rw [cB, ← h2]; omega)]) (by omega)
        · refine V_iload_n hC dX2_letterWith_27 rfl 3 rfl ?_
          subst hQ
          exact V_iret hC hr hlk rfl (by decide) (by decide) dX2_letterWith_28 (()) [0, 1] rfl (by decide) (⟨by rw [← h3, show 9 - i = (9 - (i + 1)) + 1 by omega, lwA, if_pos (by rw [cB, ← h2]; omega)], trivial⟩)
  exact L4 _ 0 0 (by omega) (rfl) (rfl) (Nat.lt_succ_self _)
abbrev rm_X2_halve : Room := { frames := 0, cells := 0, slots := 0, locals := 0 }
set_option maxHeartbeats 4000000 in
set_option maxRecDepth 100000 in
theorem c_X2_halve (l : Launch) (D : va_G) (cI cQ : ClassId) (a r t h p b : Nat) (f : Nat → Nat) (hf : ∀ j, j < 9 → f j < 100000) : MV l yX2_halve cX2_halve 2 none rm_X2_halve D (TY cI cQ) [.ref a] [(a, .inr (2, [.ref r, .int (nI t), .int (nI h), .int (nI p), .int (nI b)])), (r, .inl (cI, 9, .inl (fun j => nI (f j))))] (fun (u : Unit) => True) (fun (u : Unit) => [(a, .inr (2, [.ref r, .int (nI (cB (fun j => (f j + 1) / 2) 9)), .int (nI (h + 1)), .int (nI p), .int (nI b)])), (r, .inl (cI, 9, .inl (fun j => nI ((fun j => (f j + 1) / 2) j))))]) 0 0 := by
  refine MV.start (by decide) (Nat.le_of_ble_eq_true rfl) (lv0 := [(0, .ref a)]) rfl ?_
  intro pp9 ee9 ss9 mm9 args9 below9 meth9 co9 A9 Q9 hQ hC hr hlk hnm
  refine V_aload_n hC dX2_halve_0 rfl 0 rfl ?_
  refine V_iconst (v := nI 0) hC dX2_halve_1 (by decide) ?_
  refine V_put (ci := 2) (v := .int (nI 0)) hC tyX2 tyX2_ok nmX2 in_X2 0 rfl cls_X2 1 (by decide) fl_X2_15 rfl rfl rfl (Nat.le_of_ble_eq_true rfl) dX2_halve_2 (ws2 := [(a, .inr (2, [.ref r, .int (nI 0), .int (nI h), .int (nI p), .int (nI b)])), (r, .inl (cI, 9, .inl (fun j => nI (f j))))]) rfl ?_
  refine V_iconst (v := nI 0) hC dX2_halve_5 (by decide) ?_
  refine V_istore_n (lv2 := [(0, .ref a), (1, .int (nI 0))]) hC dX2_halve_6 rfl (by decide) [1, 0] rfl ?_
  have L7 : ∀ (n9 : Nat) (i : Nat) (t2 : Nat) (f2 : Nat → Nat), (i ≤ 9) → (t2 = cB (fun j => (f j + 1) / 2) i) → (∀ j, j < 9 → f2 j = if j < i then (f j + 1) / 2 else f j) → 9 - i < n9 → V pp9 l ee9 rm_X2_halve ss9 mm9 args9 below9 meth9 co9 D A9 ss9.heap 2 Q9 [(a, .inr (2, [.ref r, .int (nI t2), .int (nI h), .int (nI p), .int (nI b)])), (r, .inl (cI, 9, .inl (fun j => nI (f2 j))))] [(0, .ref a), (1, .int (nI i))] 0 0 7 [] := by
    intro n9
    induction n9 with
    | zero => intro i t2 f2 h1 h2 h3 h9; exact absurd h9 (Nat.not_lt_zero _)
    | succ n9 ih =>
      intro i t2 f2 h1 h2 h3 h9
      refine V_iload_n hC dX2_halve_7 rfl 1 rfl ?_
      refine V_aload_n hC dX2_halve_8 rfl 0 rfl ?_
      refine V_get (ci := 2) (v := .ref r) hC in_X2 0 rfl cls_X2 0 (by decide) fl_X2_9 rfl dX2_halve_9 ?_
      refine V_alen (v := (nI 9)) hC 1 0 rfl rfl rfl dX2_halve_12 ?_
      refine V_icmp_ge (tgt := 53) hC (by omega) (by omega) dX2_halve_13 (by decide) (fun c13 => ?_) (fun c13 => ?_)
      · have ei9 : i = 9 := by omega
        subst ei9
        have hcg : ∀ j, j < 9 → f2 j = (fun j => (f j + 1) / 2) j := fun j hj => by rw [h3 j hj, if_pos hj]
        refine V_cong (k := 1) (g := fun j => nI ((fun j => (f j + 1) / 2) j)) rfl (fun j hj => congrArg nI (hcg j hj)) (ws2 := [(a, .inr (2, [.ref r, .int (nI t2), .int (nI h), .int (nI p), .int (nI b)])), (r, .inl (cI, 9, .inl (fun j => nI ((fun j => (f j + 1) / 2) j))))]) rfl ?_
        clear hcg
        subst h2
        refine V_aload_n hC dX2_halve_53 rfl 0 rfl ?_
        refine V_dup hC dX2_halve_54 rfl ?_
        refine V_get (ci := 2) (v := .int (nI h)) hC in_X2 0 rfl cls_X2 2 (by decide) fl_X2_19 rfl dX2_halve_55 ?_
        refine V_iconst (v := nI 1) hC dX2_halve_58 (by decide) ?_
        refine V_iadd hC dX2_halve_59 ?_
        refine V_put (ci := 2) (v := .int (nI (h + 1))) hC tyX2 tyX2_ok nmX2 in_X2 0 rfl cls_X2 2 (by decide) fl_X2_19 rfl rfl rfl (Nat.le_of_ble_eq_true rfl) dX2_halve_60 (ws2 := [(a, .inr (2, [.ref r, .int (nI ((cB (fun j => (f j + 1) / 2) 9))), .int (nI (h + 1)), .int (nI p), .int (nI b)])), (r, .inl (cI, 9, .inl (fun j => nI ((fun j => (f j + 1) / 2) j))))]) rfl ?_
        subst hQ
        exact V_vret hC hr hlk (by decide) (by decide) dX2_halve_63 (()) [0, 1] rfl (by decide) (trivial)
      · have hfi : f2 i = f i := by rw [h3 i (by omega), if_neg (Nat.lt_irrefl i)]
        have hfl := hf i (by omega)
        rw [← hfi] at hfl
        refine V_aload_n hC dX2_halve_16 rfl 0 rfl ?_
        refine V_get (ci := 2) (v := .ref r) hC in_X2 0 rfl cls_X2 0 (by decide) fl_X2_9 rfl dX2_halve_17 ?_
        refine V_iload_n hC dX2_halve_20 rfl 1 rfl ?_
        refine V_aload_n hC dX2_halve_21 rfl 0 rfl ?_
        refine V_get (ci := 2) (v := .ref r) hC in_X2 0 rfl cls_X2 0 (by decide) fl_X2_9 rfl dX2_halve_22 ?_
        refine V_iload_n hC dX2_halve_25 rfl 1 rfl ?_
        refine V_iald hC 1 0 rfl rfl (by omega) (by decide) dX2_halve_26 ?_
        refine V_iconst (v := nI 1) hC dX2_halve_27 (by decide) ?_
        refine V_iadd hC dX2_halve_28 ?_
        refine V_iconst (v := nI 2) hC dX2_halve_29 (by decide) ?_
        refine V_idiv hC dX2_halve_30 (by omega) (by omega) (by omega) ?_
        refine V_iast hC 1 0 rfl rfl (by omega) (by decide) dX2_halve_31 (ws2 := [(a, .inr (2, [.ref r, .int (nI t2), .int (nI h), .int (nI p), .int (nI b)])), (r, .inl (cI, 9, .inl (fun j => nI ((va_up f2 i (((f2 i) + 1) / 2)) j))))]) rfl ?_
        refine V_aload_n hC dX2_halve_32 rfl 0 rfl ?_
        refine V_dup hC dX2_halve_33 rfl ?_
        refine V_get (ci := 2) (v := .int (nI t2)) hC in_X2 0 rfl cls_X2 1 (by decide) fl_X2_15 rfl dX2_halve_34 ?_
        refine V_aload_n hC dX2_halve_37 rfl 0 rfl ?_
        refine V_get (ci := 2) (v := .ref r) hC in_X2 0 rfl cls_X2 0 (by decide) fl_X2_9 rfl dX2_halve_38 ?_
        refine V_iload_n hC dX2_halve_41 rfl 1 rfl ?_
        refine V_iald hC 1 0 rfl rfl (by omega) (by decide) dX2_halve_42 ?_
        refine V_iadd hC dX2_halve_43 ?_
        refine V_put (ci := 2) (v := .int (nI (t2 + ((va_up f2 i (((f2 i) + 1) / 2)) i)))) hC tyX2 tyX2_ok nmX2 in_X2 0 rfl cls_X2 1 (by decide) fl_X2_15 rfl rfl rfl (Nat.le_of_ble_eq_true rfl) dX2_halve_44 (ws2 := [(a, .inr (2, [.ref r, .int (nI (t2 + ((va_up f2 i (((f2 i) + 1) / 2)) i))), .int (nI h), .int (nI p), .int (nI b)])), (r, .inl (cI, 9, .inl (fun j => nI ((va_up f2 i (((f2 i) + 1) / 2)) j))))]) rfl ?_
        refine V_iinc (v := (nI (i + 1))) (lv2 := [(0, .ref a), (1, .int (nI (i + 1)))]) (q := 1) hC dX2_halve_47 rfl (nI_add _ _) (by decide) [1, 0] rfl ?_
        refine V_goto (tgt := 7) hC dX2_halve_50 (by decide) ?_
        exact ih (i + 1) (t2 + ((va_up f2 i (((f2 i) + 1) / 2)) i)) (va_up f2 i (((f2 i) + 1) / 2)) (by omega) (by rw [h2, cB, va_up_self, hfi]) (fun j hj => by
  by_cases e : j = i
  · subst e; rw [va_up_self, if_pos (Nat.lt_succ_self _), hfi]
  · rw [va_up_ne _ _ e, h3 j hj]; by_cases q : j < i
    · rw [if_pos q, if_pos (by omega)]
    · rw [if_neg q, if_neg (by omega)]) (by omega)
  exact L7 _ 0 0 f (by omega) (rfl) (fun j _ => by rw [if_neg (Nat.not_lt_zero j)]) (Nat.lt_succ_self _)
abbrev rm_X2_learn : Room := { frames := 1, cells := 0, slots := 0, locals := 21 }
set_option maxHeartbeats 4000000 in
set_option maxRecDepth 100000 in
theorem c_X2_learn (l : Launch) (D : va_G) (cI cQ : ClassId) (a r t h p b k : Nat) (f : Nat → Nat) (hk : k < 9) (hf : ∀ j, j < 9 → f j ≤ 2000) (ht : t ≤ 2000) (hp : p ≤ 64) (hb : b ≤ 2000) : MV l yX2_learn cX2_learn 2 none rm_X2_learn D (TY cI cQ) [.ref a, .int (nI k)] [(a, .inr (2, [.ref r, .int (nI t), .int (nI h), .int (nI p), .int (nI b)])), (r, .inl (cI, 9, .inl (fun j => nI (f j))))] (fun (u : Unit) => True) (fun (u : Unit) => [(a, .inr (2, [.ref r, .int (nI (lrT p b f t k)), .int (nI (lrH p b t h)), .int (nI p), .int (nI b)])), (r, .inl (cI, 9, .inl (fun j => nI ((lrF p b f t k) j))))]) 0 0 := by
  refine MV.start (by decide) (Nat.le_of_ble_eq_true rfl) (lv0 := [(0, .ref a), (1, .int (nI k))]) rfl ?_
  intro pp9 ee9 ss9 mm9 args9 below9 meth9 co9 A9 Q9 hQ hC hr hlk hnm
  refine V_iload_n hC dX2_learn_0 rfl 1 rfl ?_
  refine V_if_lt_F (tgt := 13) hC dX2_learn_1 (by decide) (nI_pos (by omega)) ?_
  refine V_iload_n hC dX2_learn_4 rfl 1 rfl ?_
  refine V_aload_n hC dX2_learn_5 rfl 0 rfl ?_
  refine V_get (ci := 2) (v := .ref r) hC in_X2 0 rfl cls_X2 0 (by decide) fl_X2_9 rfl dX2_learn_6 ?_
  refine V_alen (v := (nI 9)) hC 1 0 rfl rfl rfl dX2_learn_9 ?_
  refine V_icmp_lt_T (tgt := 14) hC dX2_learn_10 (by decide) (nI_lt (by omega) (by omega)) ?_
  refine V_aload_n hC dX2_learn_14 rfl 0 rfl ?_
  refine V_get (ci := 2) (v := .ref r) hC in_X2 0 rfl cls_X2 0 (by decide) fl_X2_9 rfl dX2_learn_15 ?_
  refine V_iload_n hC dX2_learn_18 rfl 1 rfl ?_
  refine V_dup2 hC dX2_learn_19 rfl rfl ?_
  refine V_iald hC 1 0 rfl rfl (by omega) (by decide) dX2_learn_20 ?_
  refine V_aload_n hC dX2_learn_21 rfl 0 rfl ?_
  refine V_get (ci := 2) (v := .int (nI p)) hC in_X2 0 rfl cls_X2 3 (by decide) fl_X2_22 rfl dX2_learn_22 ?_
  refine V_iadd hC dX2_learn_25 ?_
  refine V_iast hC 1 0 rfl rfl (by omega) (by decide) dX2_learn_26 (ws2 := [(a, .inr (2, [.ref r, .int (nI t), .int (nI h), .int (nI p), .int (nI b)])), (r, .inl (cI, 9, .inl (fun j => nI ((va_up f k ((f k) + p)) j))))]) rfl ?_
  refine V_aload_n hC dX2_learn_27 rfl 0 rfl ?_
  refine V_dup hC dX2_learn_28 rfl ?_
  refine V_get (ci := 2) (v := .int (nI t)) hC in_X2 0 rfl cls_X2 1 (by decide) fl_X2_15 rfl dX2_learn_29 ?_
  refine V_aload_n hC dX2_learn_32 rfl 0 rfl ?_
  refine V_get (ci := 2) (v := .int (nI p)) hC in_X2 0 rfl cls_X2 3 (by decide) fl_X2_22 rfl dX2_learn_33 ?_
  refine V_iadd hC dX2_learn_36 ?_
  refine V_put (ci := 2) (v := .int (nI (t + p))) hC tyX2 tyX2_ok nmX2 in_X2 0 rfl cls_X2 1 (by decide) fl_X2_15 rfl rfl rfl (Nat.le_of_ble_eq_true rfl) dX2_learn_37 (ws2 := [(a, .inr (2, [.ref r, .int (nI (t + p)), .int (nI h), .int (nI p), .int (nI b)])), (r, .inl (cI, 9, .inl (fun j => nI ((va_up f k ((f k) + p)) j))))]) rfl ?_
  refine V_aload_n hC dX2_learn_40 rfl 0 rfl ?_
  refine V_get (ci := 2) (v := .int (nI (t + p))) hC in_X2 0 rfl cls_X2 1 (by decide) fl_X2_15 rfl dX2_learn_41 ?_
  refine V_aload_n hC dX2_learn_44 rfl 0 rfl ?_
  refine V_get (ci := 2) (v := .int (nI b)) hC in_X2 0 rfl cls_X2 4 (by decide) fl_X2_25 rfl dX2_learn_45 ?_
  refine V_icmp_le (tgt := 55) hC (by omega) (by omega) dX2_learn_48 (by decide) (fun c48 => ?_) (fun c48 => ?_)
  · refine V_ws (ws2 := [(a, .inr (2, [.ref r, .int (nI (lrT p b f t k)), .int (nI (lrH p b t h)), .int (nI p), .int (nI b)])), (r, .inl (cI, 9, .inl (fun j => nI ((lrF p b f t k) j))))]) (by simp only [lrF, lrT, lrH, if_neg (show ¬ b < t + p by omega)]) ?_
    subst hQ
    exact V_vret hC hr hlk (by decide) (by decide) dX2_learn_55 (()) [0, 1] rfl (by decide) (trivial)
  · refine V_aload_n hC dX2_learn_51 rfl 0 rfl ?_
    refine V_callvV (As := []) (rest := []) (wr := []) hC (c_X2_halve l D cI cQ a r (t + p) h p b (va_up f k ((f k) + p)) (fun j hj => by
  have h1 := hf j hj
  have h2 := hf k hk
  by_cases e : j = k
  · subst e; rw [va_up_self]; omega
  · rw [va_up_ne _ _ e]; omega)) mok_X2_halve ml_X2_28 (q1 := 0) rfl cls_X2 rfl rfl rfl (by decide) (by decide) (by decide) (Nat.le_of_ble_eq_true rfl) [0, 1] [] rfl (by decide) rfl (by decide) (by decide) dX2_learn_52 rfl (fun u9 h52 => ?_)
    clear h52
    refine V_perm (ws2 := [(a, .inr (2, [.ref r, .int (nI (cB (fun j => ((va_up f k ((f k) + p)) j + 1) / 2) 9)), .int (nI (h + 1)), .int (nI p), .int (nI b)])), (r, .inl (cI, 9, .inl (fun j => nI ((fun j => ((va_up f k ((f k) + p)) j + 1) / 2) j))))]) [0, 1] rfl (by decide) ?_
    refine V_ws (ws2 := [(a, .inr (2, [.ref r, .int (nI (lrT p b f t k)), .int (nI (lrH p b t h)), .int (nI p), .int (nI b)])), (r, .inl (cI, 9, .inl (fun j => nI ((lrF p b f t k) j))))]) (by simp only [lrF, lrT, lrH, if_pos (show b < t + p by omega)]) ?_
    subst hQ
    exact V_vret hC hr hlk (by decide) (by decide) dX2_learn_55 (()) [0, 1] rfl (by decide) (trivial)
abbrev rm_X6_start : Room := { frames := 0, cells := 0, slots := 0, locals := 0 }
set_option maxHeartbeats 4000000 in
set_option maxRecDepth 100000 in
theorem c_X6_start (l : Launch) (D : va_G) (cI cQ : ClassId) (a lo hi : Nat)  : MV l yX6_start cX6_start 1 none rm_X6_start D (TY cI cQ) [.ref a] [(a, .inr (6, [.int (nI lo), .int (nI hi)]))] (fun (u : Unit) => True) (fun (u : Unit) => [(a, .inr (6, [.int (nI 0), .int (nI 65535)]))]) 0 0 := by
  refine MV.start (by decide) (Nat.le_of_ble_eq_true rfl) (lv0 := [(0, .ref a)]) rfl ?_
  intro pp9 ee9 ss9 mm9 args9 below9 meth9 co9 A9 Q9 hQ hC hr hlk hnm
  refine V_aload_n hC dX6_start_0 rfl 0 rfl ?_
  refine V_iconst (v := nI 0) hC dX6_start_1 (by decide) ?_
  refine V_put (ci := 6) (v := .int (nI 0)) hC tyX6 tyX6_ok nmX6 in_X6 0 rfl cls_X6 0 (by decide) fl_X6_9 rfl rfl rfl (Nat.le_of_ble_eq_true rfl) dX6_start_2 (ws2 := [(a, .inr (6, [.int (nI 0), .int (nI hi)]))]) rfl ?_
  refine V_aload_n hC dX6_start_5 rfl 0 rfl ?_
  refine V_ldc (v2 := nI 65535) hC dX6_start_6 cst_X6_15 rfl ?_
  refine V_put (ci := 6) (v := .int (nI 65535)) hC tyX6 tyX6_ok nmX6 in_X6 0 rfl cls_X6 1 (by decide) fl_X6_16 rfl rfl rfl (Nat.le_of_ble_eq_true rfl) dX6_start_8 (ws2 := [(a, .inr (6, [.int (nI 0), .int (nI 65535)]))]) rfl ?_
  subst hQ
  exact V_vret hC hr hlk (by decide) (by decide) dX6_start_11 (()) [0] rfl (by decide) (trivial)
abbrev rm_X6_shrink : Room := { frames := 1, cells := 0, slots := 0, locals := 23 }
set_option maxHeartbeats 4000000 in
set_option maxRecDepth 100000 in
theorem c_X6_shrink (l : Launch) (D : va_G) (cI cQ : ClassId) (a lo hi o r t h p b k : Nat) (f : Nat → Nat) (hk : k < 9) (hc : okC f t) (hs : lo ≤ hi ∧ hi ≤ 65535) (hw : t ≤ hi - lo + 1) : MV l yX6_shrink cX6_shrink 7 none rm_X6_shrink D (TY cI cQ) [.ref a, .ref o, .int (nI k)] [(a, .inr (6, [.int (nI lo), .int (nI hi)])), (o, .inr (2, [.ref r, .int (nI t), .int (nI h), .int (nI p), .int (nI b)])), (r, .inl (cI, 9, .inl (fun j => nI (f j))))] (fun (u : Unit) => True) (fun (u : Unit) => [(a, .inr (6, [.int (nI (shL f t k lo hi)), .int (nI (shU f t k lo hi))])), (o, .inr (2, [.ref r, .int (nI t), .int (nI h), .int (nI p), .int (nI b)])), (r, .inl (cI, 9, .inl (fun j => nI (f j))))]) 0 0 := by
  refine MV.start (by decide) (Nat.le_of_ble_eq_true rfl) (lv0 := [(0, .ref a), (1, .ref o), (2, .int (nI k))]) rfl ?_
  intro pp9 ee9 ss9 mm9 args9 below9 meth9 co9 A9 Q9 hQ hC hr hlk hnm
  have ht9 := hc.t9
  have htm := hc.2.2
  have hup := hc.up hk
  have hr1 : (hi - lo + 1) * (cB f k + f k) ≤ 65536 * 2000 := Nat.mul_le_mul (by omega) (by omega)
  have hr2 : (hi - lo + 1) * cB f k ≤ 65536 * 2000 := Nat.mul_le_mul (by omega) (by omega)
  have hr3 := shU_ge hc hk hs hw
  refine V_aload_n hC dX6_shrink_0 rfl 1 rfl ?_
  refine V_getN (ci := 2) (v := .int (nI t)) hC in_X2 1 rfl cls_X2 1 (by decide) fn_X6_19 rfl dX6_shrink_1 ?_
  refine V_istore_n (lv2 := [(0, .ref a), (1, .ref o), (2, .int (nI k)), (3, .int (nI t))]) hC dX6_shrink_4 rfl (by decide) [1, 2, 3, 0] rfl ?_
  refine V_iload_n hC dX6_shrink_5 rfl 3 rfl ?_
  refine V_iconst (v := nI 1) hC dX6_shrink_6 (by decide) ?_
  refine V_icmp_ge_T (tgt := 11) hC dX6_shrink_7 (by decide) (nI_le (by omega) (by omega)) ?_
  refine V_aload_n hC dX6_shrink_11 rfl 0 rfl ?_
  refine V_get (ci := 6) (v := .int (nI hi)) hC in_X6 0 rfl cls_X6 1 (by decide) fl_X6_16 rfl dX6_shrink_12 ?_
  refine V_aload_n hC dX6_shrink_15 rfl 0 rfl ?_
  refine V_get (ci := 6) (v := .int (nI lo)) hC in_X6 0 rfl cls_X6 0 (by decide) fl_X6_9 rfl dX6_shrink_16 ?_
  refine V_isub hC dX6_shrink_19 (by omega) ?_
  refine V_iconst (v := nI 1) hC dX6_shrink_20 (by decide) ?_
  refine V_iadd hC dX6_shrink_21 ?_
  refine V_istore (lv2 := [(0, .ref a), (1, .ref o), (2, .int (nI k)), (3, .int (nI t)), (4, .int (nI ((hi - lo) + 1)))]) hC dX6_shrink_22 (by decide) [1, 2, 3, 4, 0] rfl ?_
  refine V_aload_n hC dX6_shrink_24 rfl 1 rfl ?_
  refine V_iload_n hC dX6_shrink_25 rfl 2 rfl ?_
  refine V_calliV (As := [.int (nI k)]) (rest := []) (wr := [(a, .inr (6, [.int (nI lo), .int (nI hi)]))]) hC (c_X2_below l D cI cQ o r t h p b k f (by omega)) mok_X2_below ml_X6_24 (q1 := 0) rfl cls_X2 rfl rfl rfl (by decide) (by decide) (by decide) (Nat.le_of_ble_eq_true rfl) [1, 2] [0] rfl (by decide) rfl (by decide) (by decide) dX6_shrink_26 rfl (fun r9 u9 h26 => ?_)
  obtain ⟨rfl, h26⟩ := h26
  clear h26
  refine V_perm (ws2 := [(a, .inr (6, [.int (nI lo), .int (nI hi)])), (o, .inr (2, [.ref r, .int (nI t), .int (nI h), .int (nI p), .int (nI b)])), (r, .inl (cI, 9, .inl (fun j => nI (f j))))]) [0, 1, 2] rfl (by decide) ?_
  refine V_istore (lv2 := [(0, .ref a), (1, .ref o), (2, .int (nI k)), (3, .int (nI t)), (4, .int (nI ((hi - lo) + 1))), (5, .int (nI (cB f k)))]) hC dX6_shrink_29 (by decide) [1, 2, 3, 4, 5, 0] rfl ?_
  refine V_iload hC dX6_shrink_31 5 rfl ?_
  refine V_aload_n hC dX6_shrink_33 rfl 1 rfl ?_
  refine V_iload_n hC dX6_shrink_34 rfl 2 rfl ?_
  refine V_calliV (As := [.int (nI k)]) (rest := [.int (nI (cB f k))]) (wr := [(a, .inr (6, [.int (nI lo), .int (nI hi)]))]) hC (c_X2_countAt l D cI cQ o r t h p b k f (by omega)) mok_X2_countAt ml_X6_28 (q1 := 0) rfl cls_X2 rfl rfl rfl (by decide) (by decide) (by decide) (Nat.le_of_ble_eq_true rfl) [1, 2] [0] rfl (by decide) rfl (by decide) (by decide) dX6_shrink_35 rfl (fun r9 u9 h35 => ?_)
  obtain ⟨rfl, h35⟩ := h35
  clear h35
  refine V_perm (ws2 := [(a, .inr (6, [.int (nI lo), .int (nI hi)])), (o, .inr (2, [.ref r, .int (nI t), .int (nI h), .int (nI p), .int (nI b)])), (r, .inl (cI, 9, .inl (fun j => nI (f j))))]) [0, 1, 2] rfl (by decide) ?_
  refine V_iadd hC dX6_shrink_38 ?_
  refine V_istore (lv2 := [(0, .ref a), (1, .ref o), (2, .int (nI k)), (3, .int (nI t)), (4, .int (nI ((hi - lo) + 1))), (5, .int (nI (cB f k))), (6, .int (nI ((cB f k) + (f k))))]) hC dX6_shrink_39 (by decide) [1, 2, 3, 4, 5, 6, 0] rfl ?_
  refine V_aload_n hC dX6_shrink_41 rfl 0 rfl ?_
  refine V_aload_n hC dX6_shrink_42 rfl 0 rfl ?_
  refine V_get (ci := 6) (v := .int (nI lo)) hC in_X6 0 rfl cls_X6 0 (by decide) fl_X6_9 rfl dX6_shrink_43 ?_
  refine V_iload hC dX6_shrink_46 4 rfl ?_
  refine V_iload hC dX6_shrink_48 6 rfl ?_
  refine V_imul hC dX6_shrink_50 ?_
  refine V_iload_n hC dX6_shrink_51 rfl 3 rfl ?_
  refine V_idiv hC dX6_shrink_52 (by omega) (by omega) (by omega) ?_
  refine V_iadd hC dX6_shrink_53 ?_
  refine V_iconst (v := nI 1) hC dX6_shrink_54 (by decide) ?_
  refine V_isub hC dX6_shrink_55 (by omega) ?_
  refine V_put (ci := 6) (v := .int (nI ((lo + ((((hi - lo) + 1) * ((cB f k) + (f k))) / t)) - 1))) hC tyX6 tyX6_ok nmX6 in_X6 0 rfl cls_X6 1 (by decide) fl_X6_16 rfl rfl rfl (Nat.le_of_ble_eq_true rfl) dX6_shrink_56 (ws2 := [(a, .inr (6, [.int (nI lo), .int (nI ((lo + ((((hi - lo) + 1) * ((cB f k) + (f k))) / t)) - 1))])), (o, .inr (2, [.ref r, .int (nI t), .int (nI h), .int (nI p), .int (nI b)])), (r, .inl (cI, 9, .inl (fun j => nI (f j))))]) rfl ?_
  refine V_aload_n hC dX6_shrink_59 rfl 0 rfl ?_
  refine V_aload_n hC dX6_shrink_60 rfl 0 rfl ?_
  refine V_get (ci := 6) (v := .int (nI lo)) hC in_X6 0 rfl cls_X6 0 (by decide) fl_X6_9 rfl dX6_shrink_61 ?_
  refine V_iload hC dX6_shrink_64 4 rfl ?_
  refine V_iload hC dX6_shrink_66 5 rfl ?_
  refine V_imul hC dX6_shrink_68 ?_
  refine V_iload_n hC dX6_shrink_69 rfl 3 rfl ?_
  refine V_idiv hC dX6_shrink_70 (by omega) (by omega) (by omega) ?_
  refine V_iadd hC dX6_shrink_71 ?_
  refine V_put (ci := 6) (v := .int (nI (lo + ((((hi - lo) + 1) * (cB f k)) / t)))) hC tyX6 tyX6_ok nmX6 in_X6 0 rfl cls_X6 0 (by decide) fl_X6_9 rfl rfl rfl (Nat.le_of_ble_eq_true rfl) dX6_shrink_72 (ws2 := [(a, .inr (6, [.int (nI (lo + ((((hi - lo) + 1) * (cB f k)) / t))), .int (nI ((lo + ((((hi - lo) + 1) * ((cB f k) + (f k))) / t)) - 1))])), (o, .inr (2, [.ref r, .int (nI t), .int (nI h), .int (nI p), .int (nI b)])), (r, .inl (cI, 9, .inl (fun j => nI (f j))))]) rfl ?_
  subst hQ
  exact V_vret hC hr hlk (by decide) (by decide) dX6_shrink_75 (()) [0, 1, 2] rfl (by decide) (trivial)
abbrev rm_X6_widen_go : Room := { frames := 0, cells := 0, slots := 0, locals := 0 }
set_option maxHeartbeats 4000000 in
set_option maxRecDepth 100000 in
theorem c_X6_widen_go (l : Launch) (D : va_G) (cI cQ : ClassId) (a lo hi : Nat) (hs : lo ≤ hi ∧ hi ≤ 65535) (hw : wO lo hi ≠ 1) : MI l yX6_widen cX6_widen 2 (some .int) rm_X6_widen_go D (TY cI cQ) [.ref a] [(a, .inr (6, [.int (nI lo), .int (nI hi)]))] (fun (r9 : Int32) (u : Unit) => r9 = (nI (wO lo hi)) ∧ True) (fun (u : Unit) => [(a, .inr (6, [.int (nI ((lo - wO lo hi) * 2)), .int (nI ((hi - wO lo hi) * 2 + 1))]))]) 0 0 := by
  refine MI.start (by decide) (Nat.le_of_ble_eq_true rfl) (lv0 := [(0, .ref a)]) rfl ?_
  intro pp9 ee9 ss9 mm9 args9 below9 meth9 co9 A9 Q9 hQ hC hr hlk hnm
  have hwc := wO_cases lo hi
  refine V_aload_n hC dX6_widen_0 rfl 0 rfl ?_
  refine V_get (ci := 6) (v := .int (nI hi)) hC in_X6 0 rfl cls_X6 1 (by decide) fl_X6_16 rfl dX6_widen_1 ?_
  refine V_ldc (v2 := nI 32768) hC dX6_widen_4 cst_X6_31 rfl ?_
  refine V_icmp_ge (tgt := 14) hC (by omega) (by omega) dX6_widen_6 (by decide) (fun c6 => ?_) (fun c6 => ?_)
  · refine V_aload_n hC dX6_widen_14 rfl 0 rfl ?_
    refine V_get (ci := 6) (v := .int (nI lo)) hC in_X6 0 rfl cls_X6 0 (by decide) fl_X6_9 rfl dX6_widen_15 ?_
    refine V_ldc (v2 := nI 32768) hC dX6_widen_18 cst_X6_31 rfl ?_
    refine V_icmp_lt (tgt := 29) hC (by omega) (by omega) dX6_widen_20 (by decide) (fun c20 => ?_) (fun c20 => ?_)
    · refine V_aload_n hC dX6_widen_29 rfl 0 rfl ?_
      refine V_get (ci := 6) (v := .int (nI lo)) hC in_X6 0 rfl cls_X6 0 (by decide) fl_X6_9 rfl dX6_widen_30 ?_
      refine V_sipush (v := nI 16384) hC dX6_widen_33 (by decide) ?_
      refine V_icmp_lt (tgt := 55) hC (by omega) (by omega) dX6_widen_36 (by decide) (fun c36 => ?_) (fun c36 => ?_)
      · exact False.elim (by omega)
      · refine V_aload_n hC dX6_widen_39 rfl 0 rfl ?_
        refine V_get (ci := 6) (v := .int (nI hi)) hC in_X6 0 rfl cls_X6 1 (by decide) fl_X6_16 rfl dX6_widen_40 ?_
        refine V_ldc (v2 := nI 49152) hC dX6_widen_43 cst_X6_32 rfl ?_
        refine V_icmp_ge_F (tgt := 55) hC dX6_widen_45 (by decide) (nI_ge (by omega) (by omega)) ?_
        refine V_sipush (v := nI 16384) hC dX6_widen_48 (by decide) ?_
        refine V_istore_n (lv2 := [(0, .ref a), (1, .int (nI 16384))]) hC dX6_widen_51 rfl (by decide) [1, 0] rfl ?_
        refine V_goto (tgt := 57) hC dX6_widen_52 (by decide) ?_
        refine V_lv (lv2 := [(0, .ref a), (1, .int (nI (wO lo hi)))]) (by rw [show (16384) = (wO lo hi) from (by omega)]) ?_
        refine V_aload_n hC dX6_widen_57 rfl 0 rfl ?_
        refine V_aload_n hC dX6_widen_58 rfl 0 rfl ?_
        refine V_get (ci := 6) (v := .int (nI lo)) hC in_X6 0 rfl cls_X6 0 (by decide) fl_X6_9 rfl dX6_widen_59 ?_
        refine V_iload_n hC dX6_widen_62 rfl 1 rfl ?_
        refine V_isub hC dX6_widen_63 (by omega) ?_
        refine V_iconst (v := nI 2) hC dX6_widen_64 (by decide) ?_
        refine V_imul hC dX6_widen_65 ?_
        refine V_put (ci := 6) (v := .int (nI ((lo - (wO lo hi)) * 2))) hC tyX6 tyX6_ok nmX6 in_X6 0 rfl cls_X6 0 (by decide) fl_X6_9 rfl rfl rfl (Nat.le_of_ble_eq_true rfl) dX6_widen_66 (ws2 := [(a, .inr (6, [.int (nI ((lo - (wO lo hi)) * 2)), .int (nI hi)]))]) rfl ?_
        refine V_aload_n hC dX6_widen_69 rfl 0 rfl ?_
        refine V_aload_n hC dX6_widen_70 rfl 0 rfl ?_
        refine V_get (ci := 6) (v := .int (nI hi)) hC in_X6 0 rfl cls_X6 1 (by decide) fl_X6_16 rfl dX6_widen_71 ?_
        refine V_iload_n hC dX6_widen_74 rfl 1 rfl ?_
        refine V_isub hC dX6_widen_75 (by omega) ?_
        refine V_iconst (v := nI 2) hC dX6_widen_76 (by decide) ?_
        refine V_imul hC dX6_widen_77 ?_
        refine V_iconst (v := nI 1) hC dX6_widen_78 (by decide) ?_
        refine V_iadd hC dX6_widen_79 ?_
        refine V_put (ci := 6) (v := .int (nI (((hi - (wO lo hi)) * 2) + 1))) hC tyX6 tyX6_ok nmX6 in_X6 0 rfl cls_X6 1 (by decide) fl_X6_16 rfl rfl rfl (Nat.le_of_ble_eq_true rfl) dX6_widen_80 (ws2 := [(a, .inr (6, [.int (nI ((lo - (wO lo hi)) * 2)), .int (nI (((hi - (wO lo hi)) * 2) + 1))]))]) rfl ?_
        refine V_iload_n hC dX6_widen_83 rfl 1 rfl ?_
        subst hQ
        exact V_iret hC hr hlk rfl (by decide) (by decide) dX6_widen_84 (()) [0] rfl (by decide) (⟨rfl, trivial⟩)
    · refine V_ldc (v2 := nI 32768) hC dX6_widen_23 cst_X6_31 rfl ?_
      refine V_istore_n (lv2 := [(0, .ref a), (1, .int (nI 32768))]) hC dX6_widen_25 rfl (by decide) [1, 0] rfl ?_
      refine V_goto (tgt := 57) hC dX6_widen_26 (by decide) ?_
      refine V_lv (lv2 := [(0, .ref a), (1, .int (nI (wO lo hi)))]) (by rw [show (32768) = (wO lo hi) from (by omega)]) ?_
      refine V_aload_n hC dX6_widen_57 rfl 0 rfl ?_
      refine V_aload_n hC dX6_widen_58 rfl 0 rfl ?_
      refine V_get (ci := 6) (v := .int (nI lo)) hC in_X6 0 rfl cls_X6 0 (by decide) fl_X6_9 rfl dX6_widen_59 ?_
      refine V_iload_n hC dX6_widen_62 rfl 1 rfl ?_
      refine V_isub hC dX6_widen_63 (by omega) ?_
      refine V_iconst (v := nI 2) hC dX6_widen_64 (by decide) ?_
      refine V_imul hC dX6_widen_65 ?_
      refine V_put (ci := 6) (v := .int (nI ((lo - (wO lo hi)) * 2))) hC tyX6 tyX6_ok nmX6 in_X6 0 rfl cls_X6 0 (by decide) fl_X6_9 rfl rfl rfl (Nat.le_of_ble_eq_true rfl) dX6_widen_66 (ws2 := [(a, .inr (6, [.int (nI ((lo - (wO lo hi)) * 2)), .int (nI hi)]))]) rfl ?_
      refine V_aload_n hC dX6_widen_69 rfl 0 rfl ?_
      refine V_aload_n hC dX6_widen_70 rfl 0 rfl ?_
      refine V_get (ci := 6) (v := .int (nI hi)) hC in_X6 0 rfl cls_X6 1 (by decide) fl_X6_16 rfl dX6_widen_71 ?_
      refine V_iload_n hC dX6_widen_74 rfl 1 rfl ?_
      refine V_isub hC dX6_widen_75 (by omega) ?_
      refine V_iconst (v := nI 2) hC dX6_widen_76 (by decide) ?_
      refine V_imul hC dX6_widen_77 ?_
      refine V_iconst (v := nI 1) hC dX6_widen_78 (by decide) ?_
      refine V_iadd hC dX6_widen_79 ?_
      refine V_put (ci := 6) (v := .int (nI (((hi - (wO lo hi)) * 2) + 1))) hC tyX6 tyX6_ok nmX6 in_X6 0 rfl cls_X6 1 (by decide) fl_X6_16 rfl rfl rfl (Nat.le_of_ble_eq_true rfl) dX6_widen_80 (ws2 := [(a, .inr (6, [.int (nI ((lo - (wO lo hi)) * 2)), .int (nI (((hi - (wO lo hi)) * 2) + 1))]))]) rfl ?_
      refine V_iload_n hC dX6_widen_83 rfl 1 rfl ?_
      subst hQ
      exact V_iret hC hr hlk rfl (by decide) (by decide) dX6_widen_84 (()) [0] rfl (by decide) (⟨rfl, trivial⟩)
  · refine V_iconst (v := nI 0) hC dX6_widen_9 (by decide) ?_
    refine V_istore_n (lv2 := [(0, .ref a), (1, .int (nI 0))]) hC dX6_widen_10 rfl (by decide) [1, 0] rfl ?_
    refine V_goto (tgt := 57) hC dX6_widen_11 (by decide) ?_
    refine V_lv (lv2 := [(0, .ref a), (1, .int (nI (wO lo hi)))]) (by rw [show (0) = (wO lo hi) from (by omega)]) ?_
    refine V_aload_n hC dX6_widen_57 rfl 0 rfl ?_
    refine V_aload_n hC dX6_widen_58 rfl 0 rfl ?_
    refine V_get (ci := 6) (v := .int (nI lo)) hC in_X6 0 rfl cls_X6 0 (by decide) fl_X6_9 rfl dX6_widen_59 ?_
    refine V_iload_n hC dX6_widen_62 rfl 1 rfl ?_
    refine V_isub hC dX6_widen_63 (by omega) ?_
    refine V_iconst (v := nI 2) hC dX6_widen_64 (by decide) ?_
    refine V_imul hC dX6_widen_65 ?_
    refine V_put (ci := 6) (v := .int (nI ((lo - (wO lo hi)) * 2))) hC tyX6 tyX6_ok nmX6 in_X6 0 rfl cls_X6 0 (by decide) fl_X6_9 rfl rfl rfl (Nat.le_of_ble_eq_true rfl) dX6_widen_66 (ws2 := [(a, .inr (6, [.int (nI ((lo - (wO lo hi)) * 2)), .int (nI hi)]))]) rfl ?_
    refine V_aload_n hC dX6_widen_69 rfl 0 rfl ?_
    refine V_aload_n hC dX6_widen_70 rfl 0 rfl ?_
    refine V_get (ci := 6) (v := .int (nI hi)) hC in_X6 0 rfl cls_X6 1 (by decide) fl_X6_16 rfl dX6_widen_71 ?_
    refine V_iload_n hC dX6_widen_74 rfl 1 rfl ?_
    refine V_isub hC dX6_widen_75 (by omega) ?_
    refine V_iconst (v := nI 2) hC dX6_widen_76 (by decide) ?_
    refine V_imul hC dX6_widen_77 ?_
    refine V_iconst (v := nI 1) hC dX6_widen_78 (by decide) ?_
    refine V_iadd hC dX6_widen_79 ?_
    refine V_put (ci := 6) (v := .int (nI (((hi - (wO lo hi)) * 2) + 1))) hC tyX6 tyX6_ok nmX6 in_X6 0 rfl cls_X6 1 (by decide) fl_X6_16 rfl rfl rfl (Nat.le_of_ble_eq_true rfl) dX6_widen_80 (ws2 := [(a, .inr (6, [.int (nI ((lo - (wO lo hi)) * 2)), .int (nI (((hi - (wO lo hi)) * 2) + 1))]))]) rfl ?_
    refine V_iload_n hC dX6_widen_83 rfl 1 rfl ?_
    subst hQ
    exact V_iret hC hr hlk rfl (by decide) (by decide) dX6_widen_84 (()) [0] rfl (by decide) (⟨rfl, trivial⟩)
abbrev rm_X6_widen_stop : Room := { frames := 0, cells := 0, slots := 0, locals := 0 }
set_option maxHeartbeats 4000000 in
set_option maxRecDepth 100000 in
theorem c_X6_widen_stop (l : Launch) (D : va_G) (cI cQ : ClassId) (a lo hi : Nat) (hs : lo ≤ hi ∧ hi ≤ 65535) (hw : wO lo hi = 1) : MI l yX6_widen cX6_widen 2 (some .int) rm_X6_widen_stop D (TY cI cQ) [.ref a] [(a, .inr (6, [.int (nI lo), .int (nI hi)]))] (fun (r9 : Int32) (u : Unit) => r9 = (-1) ∧ True) (fun (u : Unit) => [(a, .inr (6, [.int (nI lo), .int (nI hi)]))]) 0 0 := by
  refine MI.start (by decide) (Nat.le_of_ble_eq_true rfl) (lv0 := [(0, .ref a)]) rfl ?_
  intro pp9 ee9 ss9 mm9 args9 below9 meth9 co9 A9 Q9 hQ hC hr hlk hnm
  have hwc := wO_cases lo hi
  refine V_aload_n hC dX6_widen_0 rfl 0 rfl ?_
  refine V_get (ci := 6) (v := .int (nI hi)) hC in_X6 0 rfl cls_X6 1 (by decide) fl_X6_16 rfl dX6_widen_1 ?_
  refine V_ldc (v2 := nI 32768) hC dX6_widen_4 cst_X6_31 rfl ?_
  refine V_icmp_ge_T (tgt := 14) hC dX6_widen_6 (by decide) (nI_le (by omega) (by omega)) ?_
  refine V_aload_n hC dX6_widen_14 rfl 0 rfl ?_
  refine V_get (ci := 6) (v := .int (nI lo)) hC in_X6 0 rfl cls_X6 0 (by decide) fl_X6_9 rfl dX6_widen_15 ?_
  refine V_ldc (v2 := nI 32768) hC dX6_widen_18 cst_X6_31 rfl ?_
  refine V_icmp_lt_T (tgt := 29) hC dX6_widen_20 (by decide) (nI_lt (by omega) (by omega)) ?_
  refine V_aload_n hC dX6_widen_29 rfl 0 rfl ?_
  refine V_get (ci := 6) (v := .int (nI lo)) hC in_X6 0 rfl cls_X6 0 (by decide) fl_X6_9 rfl dX6_widen_30 ?_
  refine V_sipush (v := nI 16384) hC dX6_widen_33 (by decide) ?_
  refine V_icmp_lt (tgt := 55) hC (by omega) (by omega) dX6_widen_36 (by decide) (fun c36 => ?_) (fun c36 => ?_)
  · refine V_iconst (v := -1) hC dX6_widen_55 (by decide) ?_
    subst hQ
    exact V_iret hC hr hlk rfl (by decide) (by decide) dX6_widen_56 (()) [0] rfl (by decide) (⟨rfl, trivial⟩)
  · refine V_aload_n hC dX6_widen_39 rfl 0 rfl ?_
    refine V_get (ci := 6) (v := .int (nI hi)) hC in_X6 0 rfl cls_X6 1 (by decide) fl_X6_16 rfl dX6_widen_40 ?_
    refine V_ldc (v2 := nI 49152) hC dX6_widen_43 cst_X6_32 rfl ?_
    refine V_icmp_ge_T (tgt := 55) hC dX6_widen_45 (by decide) (nI_le (by omega) (by omega)) ?_
    refine V_iconst (v := -1) hC dX6_widen_55 (by decide) ?_
    subst hQ
    exact V_iret hC hr hlk rfl (by decide) (by decide) dX6_widen_56 (()) [0] rfl (by decide) (⟨rfl, trivial⟩)
