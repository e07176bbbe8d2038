abbrev rm_X4_append : Room := { frames := 0, cells := 0, slots := 0, locals := 0 }
set_option maxHeartbeats 4000000 in
set_option maxRecDepth 100000 in
theorem c_X4_append (l : Launch) (D : va_G) (cI cQ : ClassId) (a r n e p b x : Nat) (g : Nat → Nat) (hn : n < 40) : MV l yX4_append cX4_append 2 none rm_X4_append D (TY cI cQ) [.ref a, .int (nI x)] [(a, .inr (4, [.ref r, .int (nI n), .int (nI e), .int (nI p), .int (nI b)])), (r, .inl (cI, 40, .inl (fun j => nI (g j))))] (fun (u : Unit) => True) (fun (u : Unit) => [(a, .inr (4, [.ref r, .int (nI (n + 1)), .int (nI e), .int (nI p), .int (nI b)])), (r, .inl (cI, 40, .inl (fun j => nI ((va_up g n x) j))))]) 0 0 := by
  refine MV.start (by decide) (Nat.le_of_ble_eq_true rfl) (lv0 := [(0, .ref a), (1, .int (nI x))]) rfl ?_
  intro pp9 ee9 ss9 mm9 args9 below9 meth9 co9 A9 Q9 hQ hC hr hlk hnm
  refine V_aload_n hC dX4_append_0 rfl 0 rfl ?_
  refine V_get (ci := 4) (v := .int (nI n)) hC in_X4 0 rfl cls_X4 1 (by decide) fl_X4_15 rfl dX4_append_1 ?_
  refine V_if_lt_F (tgt := 39) hC dX4_append_4 (by decide) (nI_pos (by omega)) ?_
  refine V_aload_n hC dX4_append_7 rfl 0 rfl ?_
  refine V_get (ci := 4) (v := .int (nI n)) hC in_X4 0 rfl cls_X4 1 (by decide) fl_X4_15 rfl dX4_append_8 ?_
  refine V_aload_n hC dX4_append_11 rfl 0 rfl ?_
  refine V_get (ci := 4) (v := .ref r) hC in_X4 0 rfl cls_X4 0 (by decide) fl_X4_9 rfl dX4_append_12 ?_
  refine V_alen (v := (nI 40)) hC 1 0 rfl rfl rfl dX4_append_15 ?_
  refine V_icmp_ge_F (tgt := 39) hC dX4_append_16 (by decide) (nI_ge (by omega) (by omega)) ?_
  refine V_aload_n hC dX4_append_19 rfl 0 rfl ?_
  refine V_get (ci := 4) (v := .ref r) hC in_X4 0 rfl cls_X4 0 (by decide) fl_X4_9 rfl dX4_append_20 ?_
  refine V_aload_n hC dX4_append_23 rfl 0 rfl ?_
  refine V_get (ci := 4) (v := .int (nI n)) hC in_X4 0 rfl cls_X4 1 (by decide) fl_X4_15 rfl dX4_append_24 ?_
  refine V_iload_n hC dX4_append_27 rfl 1 rfl ?_
  refine V_iast hC 1 0 rfl rfl (by omega) (by decide) dX4_append_28 (ws2 := [(a, .inr (4, [.ref r, .int (nI n), .int (nI e), .int (nI p), .int (nI b)])), (r, .inl (cI, 40, .inl (fun j => nI ((va_up g n x) j))))]) rfl ?_
  refine V_aload_n hC dX4_append_29 rfl 0 rfl ?_
  refine V_dup hC dX4_append_30 rfl ?_
  refine V_get (ci := 4) (v := .int (nI n)) hC in_X4 0 rfl cls_X4 1 (by decide) fl_X4_15 rfl dX4_append_31 ?_
  refine V_iconst (v := nI 1) hC dX4_append_34 (by decide) ?_
  refine V_iadd hC dX4_append_35 ?_
  refine V_put (ci := 4) (v := .int (nI (n + 1))) hC tyX4 tyX4_ok nmX4 in_X4 0 rfl cls_X4 1 (by decide) fl_X4_15 rfl rfl rfl (Nat.le_of_ble_eq_true rfl) dX4_append_36 (ws2 := [(a, .inr (4, [.ref r, .int (nI (n + 1)), .int (nI e), .int (nI p), .int (nI b)])), (r, .inl (cI, 40, .inl (fun j => nI ((va_up g n x) j))))]) rfl ?_
  subst hQ
  exact V_vret hC hr hlk (by decide) (by decide) dX4_append_39 (()) [0, 1] rfl (by decide) (trivial)
abbrev rm_X4_replace : Room := { frames := 0, cells := 0, slots := 0, locals := 0 }
set_option maxHeartbeats 4000000 in
set_option maxRecDepth 100000 in
theorem c_X4_replace (l : Launch) (D : va_G) (cI cQ : ClassId) (a r n e p b i x : Nat) (g : Nat → Nat) (hi : i < 40) : MV l yX4_replace cX4_replace 3 none rm_X4_replace D (TY cI cQ) [.ref a, .int (nI i), .int (nI x)] [(a, .inr (4, [.ref r, .int (nI n), .int (nI e), .int (nI p), .int (nI b)])), (r, .inl (cI, 40, .inl (fun j => nI (g j))))] (fun (u : Unit) => True) (fun (u : Unit) => [(a, .inr (4, [.ref r, .int (nI n), .int (nI e), .int (nI p), .int (nI b)])), (r, .inl (cI, 40, .inl (fun j => nI ((va_up g i x) j))))]) 0 0 := by
  refine MV.start (by decide) (Nat.le_of_ble_eq_true rfl) (lv0 := [(0, .ref a), (1, .int (nI i)), (2, .int (nI x))]) rfl ?_
  intro pp9 ee9 ss9 mm9 args9 below9 meth9 co9 A9 Q9 hQ hC hr hlk hnm
  refine V_iload_n hC dX4_replace_0 rfl 1 rfl ?_
  refine V_if_lt_F (tgt := 20) hC dX4_replace_1 (by decide) (nI_pos (by omega)) ?_
  refine V_iload_n hC dX4_replace_4 rfl 1 rfl ?_
  refine V_aload_n hC dX4_replace_5 rfl 0 rfl ?_
  refine V_get (ci := 4) (v := .ref r) hC in_X4 0 rfl cls_X4 0 (by decide) fl_X4_9 rfl dX4_replace_6 ?_
  refine V_alen (v := (nI 40)) hC 1 0 rfl rfl rfl dX4_replace_9 ?_
  refine V_icmp_ge_F (tgt := 20) hC dX4_replace_10 (by decide) (nI_ge (by omega) (by omega)) ?_
  refine V_aload_n hC dX4_replace_13 rfl 0 rfl ?_
  refine V_get (ci := 4) (v := .ref r) hC in_X4 0 rfl cls_X4 0 (by decide) fl_X4_9 rfl dX4_replace_14 ?_
  refine V_iload_n hC dX4_replace_17 rfl 1 rfl ?_
  refine V_iload_n hC dX4_replace_18 rfl 2 rfl ?_
  refine V_iast hC 1 0 rfl rfl (by omega) (by decide) dX4_replace_19 (ws2 := [(a, .inr (4, [.ref r, .int (nI n), .int (nI e), .int (nI p), .int (nI b)])), (r, .inl (cI, 40, .inl (fun j => nI ((va_up g i x) j))))]) rfl ?_
  subst hQ
  exact V_vret hC hr hlk (by decide) (by decide) dX4_replace_20 (()) [0, 1] rfl (by decide) (trivial)
abbrev rm_X4_shorten : Room := { frames := 1, cells := 0, slots := 0, locals := 21 }
set_option maxHeartbeats 4000000 in
set_option maxRecDepth 100000 in
theorem c_X4_shorten (l : Launch) (D : va_G) (cI cQ : ClassId) (a r n e p b k : Nat) (hn : n ≤ 40) (hk : k ≤ n) : MV l yX4_shorten cX4_shorten 2 none rm_X4_shorten D (TY cI cQ) [.ref a, .int (nI k)] [(a, .inr (4, [.ref r, .int (nI n), .int (nI e), .int (nI p), .int (nI b)]))] (fun (u : Unit) => True) (fun (u : Unit) => [(a, .inr (4, [.ref r, .int (nI (n - k)), .int (nI 0), .int (nI p), .int (nI b)]))]) 0 0 := by
  refine MV.start (by decide) (Nat.le_of_ble_eq_true rfl) (lv0 := [(0, .ref a), (1, .int (nI k))]) rfl ?_
  intro pp9 ee9 ss9 mm9 args9 below9 meth9 co9 A9 Q9 hQ hC hr hlk hnm
  refine V_aload_n hC dX4_shorten_0 rfl 0 rfl ?_
  refine V_iconst (v := nI 0) hC dX4_shorten_1 (by decide) ?_
  refine V_aload_n hC dX4_shorten_2 rfl 0 rfl ?_
  refine V_get (ci := 4) (v := .int (nI n)) hC in_X4 0 rfl cls_X4 1 (by decide) fl_X4_15 rfl dX4_shorten_3 ?_
  refine V_iload_n hC dX4_shorten_6 rfl 1 rfl ?_
  refine V_isub hC dX4_shorten_7 (by omega) ?_
  refine V_mmax hC ml_X4_29 stt_max ini_Math cd_max (by omega) (by omega) (by decide) (Nat.le_of_ble_eq_true rfl) (by decide) (by decide) dX4_shorten_8 ?_
  refine V_st (st2 := [.int (nI (n - k)), .ref a]) (by rw [show (max 0 (n - k)) = (n - k) from (by omega)]) ?_
  refine V_put (ci := 4) (v := .int (nI (n - k))) hC tyX4 tyX4_ok nmX4 in_X4 0 rfl cls_X4 1 (by decide) fl_X4_15 rfl rfl rfl (Nat.le_of_ble_eq_true rfl) dX4_shorten_11 (ws2 := [(a, .inr (4, [.ref r, .int (nI (n - k)), .int (nI e), .int (nI p), .int (nI b)]))]) rfl ?_
  refine V_aload_n hC dX4_shorten_14 rfl 0 rfl ?_
  refine V_iconst (v := nI 0) hC dX4_shorten_15 (by decide) ?_
  refine V_put (ci := 4) (v := .int (nI 0)) hC tyX4 tyX4_ok nmX4 in_X4 0 rfl cls_X4 2 (by decide) fl_X4_19 rfl rfl rfl (Nat.le_of_ble_eq_true rfl) dX4_shorten_16 (ws2 := [(a, .inr (4, [.ref r, .int (nI (n - k)), .int (nI 0), .int (nI p), .int (nI b)]))]) rfl ?_
  subst hQ
  exact V_vret hC hr hlk (by decide) (by decide) dX4_shorten_19 (()) [0] rfl (by decide) (trivial)
abbrev rm_X4_empty : Room := { frames := 0, cells := 0, slots := 0, locals := 0 }
set_option maxHeartbeats 4000000 in
set_option maxRecDepth 100000 in
theorem c_X4_empty (l : Launch) (D : va_G) (cI cQ : ClassId) (a r n e p b : Nat)  : MV l yX4_empty cX4_empty 1 none rm_X4_empty D (TY cI cQ) [.ref a] [(a, .inr (4, [.ref r, .int (nI n), .int (nI e), .int (nI p), .int (nI b)]))] (fun (u : Unit) => True) (fun (u : Unit) => [(a, .inr (4, [.ref r, .int (nI 0), .int (nI 0), .int (nI p), .int (nI b)]))]) 0 0 := by
  refine MV.start (by decide) (Nat.le_of_ble_eq_true rfl) (lv0 := [(0, .ref a)]) rfl ?_
  intro pp9 ee9 ss9 mm9 args9 below9 meth9 co9 A9 Q9 hQ hC hr hlk hnm
  refine V_aload_n hC dX4_empty_0 rfl 0 rfl ?_
  refine V_iconst (v := nI 0) hC dX4_empty_1 (by decide) ?_
  refine V_put (ci := 4) (v := .int (nI 0)) hC tyX4 tyX4_ok nmX4 in_X4 0 rfl cls_X4 1 (by decide) fl_X4_15 rfl rfl rfl (Nat.le_of_ble_eq_true rfl) dX4_empty_2 (ws2 := [(a, .inr (4, [.ref r, .int (nI 0), .int (nI e), .int (nI p), .int (nI b)]))]) rfl ?_
  refine V_aload_n hC dX4_empty_5 rfl 0 rfl ?_
  refine V_iconst (v := nI 0) hC dX4_empty_6 (by decide) ?_
  refine V_put (ci := 4) (v := .int (nI 0)) hC tyX4 tyX4_ok nmX4 in_X4 0 rfl cls_X4 2 (by decide) fl_X4_19 rfl rfl rfl (Nat.le_of_ble_eq_true rfl) dX4_empty_7 (ws2 := [(a, .inr (4, [.ref r, .int (nI 0), .int (nI 0), .int (nI p), .int (nI b)]))]) rfl ?_
  subst hQ
  exact V_vret hC hr hlk (by decide) (by decide) dX4_empty_10 (()) [0] rfl (by decide) (trivial)
abbrev rm_X4_howOften : Room := { frames := 1, cells := 0, slots := 0, locals := 21 }
set_option maxHeartbeats 4000000 in
set_option maxRecDepth 100000 in
theorem c_X4_howOften (l : Launch) (D : va_G) (cI cQ : ClassId) (a r n e p b k : Nat) (g : Nat → Nat) (hn : n ≤ 40) (hk : k < 2147483648) (hg : ∀ j, j < n → g j < 2147483648) : MI l yX4_howOften cX4_howOften 4 (some .int) rm_X4_howOften D (TY cI cQ) [.ref a, .int (nI k)] [(a, .inr (4, [.ref r, .int (nI n), .int (nI e), .int (nI p), .int (nI b)])), (r, .inl (cI, 40, .inl (fun j => nI (g j))))] (fun (r9 : Int32) (u : Unit) => r9 = (nI (hO g k n)) ∧ True) (fun (u : Unit) => [(a, .inr (4, [.ref r, .int (nI n), .int (nI e), .int (nI p), .int (nI b)])), (r, .inl (cI, 40, .inl (fun j => nI (g j))))]) 0 0 := by
  refine MI.start (by decide) (Nat.le_of_ble_eq_true rfl) (lv0 := [(0, .ref a), (1, .int (nI k))]) rfl ?_
  intro pp9 ee9 ss9 mm9 args9 below9 meth9 co9 A9 Q9 hQ hC hr hlk hnm
  refine V_iconst (v := nI 0) hC dX4_howOften_0 (by decide) ?_
  refine V_istore_n (lv2 := [(0, .ref a), (1, .int (nI k)), (2, .int (nI 0))]) hC dX4_howOften_1 rfl (by decide) [1, 2, 0] rfl ?_
  refine V_iconst (v := nI 0) hC dX4_howOften_2 (by decide) ?_
  refine V_istore_n (lv2 := [(0, .ref a), (1, .int (nI k)), (2, .int (nI 0)), (3, .int (nI 0))]) hC dX4_howOften_3 rfl (by decide) [1, 2, 3, 0] rfl ?_
  have L4 : ∀ (n9 : Nat) (i : Nat) (c2 : Nat), (i ≤ n) → (c2 = hO g k i) → n - i < n9 → V pp9 l ee9 rm_X4_howOften ss9 mm9 args9 below9 meth9 co9 D A9 ss9.heap 4 Q9 [(a, .inr (4, [.ref r, .int (nI n), .int (nI e), .int (nI p), .int (nI b)])), (r, .inl (cI, 40, .inl (fun j => nI (g j))))] [(0, .ref a), (1, .int (nI k)), (2, .int (nI c2)), (3, .int (nI i))] 0 0 4 [] := by
    intro n9
    induction n9 with
    | zero => intro i c2 h1 h2 h9; exact absurd h9 (Nat.not_lt_zero _)
    | succ n9 ih =>
      intro i c2 h1 h2 h9
      refine V_iload_n hC dX4_howOften_4 rfl 3 rfl ?_
      refine V_aload_n hC dX4_howOften_5 rfl 0 rfl ?_
      refine V_get (ci := 4) (v := .int (nI n)) hC in_X4 0 rfl cls_X4 1 (by decide) fl_X4_15 rfl dX4_howOften_6 ?_
      refine V_icmp_ge (tgt := 30) hC (by omega) (by omega) dX4_howOften_9 (by decide) (fun c9 => ?_) (fun c9 => ?_)
      · refine V_iload_n hC dX4_howOften_30 rfl 2 rfl ?_
        subst hQ
        exact V_iret hC hr hlk rfl (by decide) (by decide) dX4_howOften_31 (()) [0, 1] rfl (by decide) (⟨by rw [h2, show i = n by omega], trivial⟩)
      · refine V_aload_n hC dX4_howOften_12 rfl 0 rfl ?_
        refine V_iload_n hC dX4_howOften_13 rfl 3 rfl ?_
        refine V_calliV (As := [.int (nI i)]) (rest := []) (wr := []) hC (c_X4_letterAt l D cI cQ a r n e p b i g (by omega)) mok_X4_letterAt ml_X4_35 (q1 := 0) rfl cls_X4 rfl rfl rfl (by decide) (by decide) (by decide) (Nat.le_of_ble_eq_true rfl) [0, 1] [] rfl (by decide) rfl (by decide) (by decide) dX4_howOften_14 rfl (fun r9 u9 h14 => ?_)
        obtain ⟨rfl, h14⟩ := h14
        clear h14
        refine V_perm (ws2 := [(a, .inr (4, [.ref r, .int (nI n), .int (nI e), .int (nI p), .int (nI b)])), (r, .inl (cI, 40, .inl (fun j => nI (g j))))]) [0, 1] rfl (by decide) ?_
        have hgi := hg i c9
        refine V_iload_n hC dX4_howOften_17 rfl 1 rfl ?_
        refine V_icmp_ne (tgt := 24) hC (by omega) (by omega) dX4_howOften_18 (by decide) (fun c18 => ?_) (fun c18 => ?_)
        · refine V_iinc (v := (nI (i + 1))) (lv2 := [(0, .ref a), (1, .int (nI k)), (2, .int (nI c2)), (3, .int (nI (i + 1)))]) (q := 3) hC dX4_howOften_24 rfl (nI_add _ _) (by decide) [1, 2, 3, 0] rfl ?_
          refine V_goto (tgt := 4) hC dX4_howOften_27 (by decide) ?_
          exact ih (i + 1) c2 (by omega) (by rw [h2, hO, if_neg c18]; rfl) (by omega)
        · refine V_iinc (v := (nI (c2 + 1))) (lv2 := [(0, .ref a), (1, .int (nI k)), (2, .int (nI (c2 + 1))), (3, .int (nI i))]) (q := 2) hC dX4_howOften_21 rfl (nI_add _ _) (by decide) [1, 2, 0, 3] rfl ?_
          refine V_iinc (v := (nI (i + 1))) (lv2 := [(0, .ref a), (1, .int (nI k)), (2, .int (nI (c2 + 1))), (3, .int (nI (i + 1)))]) (q := 3) hC dX4_howOften_24 rfl (nI_add _ _) (by decide) [1, 2, 3, 0] rfl ?_
          refine V_goto (tgt := 4) hC dX4_howOften_27 (by decide) ?_
          exact ih (i + 1) (c2 + 1) (by omega) (by rw [h2, hO, if_pos c18]) (by omega)
  exact L4 _ 0 0 (by omega) (rfl) (Nat.lt_succ_self _)
abbrev rm_X4_copyFrom : Room := { frames := 1, cells := 0, slots := 0, locals := 21 }
set_option maxHeartbeats 4000000 in
set_option maxRecDepth 100000 in
theorem c_X4_copyFrom (l : Launch) (D : va_G) (cI cQ : ClassId) (a r n e p b a2 r2 n2 e2 p2 b2 : Nat) (g g2 : Nat → Nat) (he : e2 < 2) : MV l yX4_copyFrom cX4_copyFrom 3 none rm_X4_copyFrom D (TY cI cQ) [.ref a, .ref a2] [(a, .inr (4, [.ref r, .int (nI n), .int (nI e), .int (nI p), .int (nI b)])), (r, .inl (cI, 40, .inl (fun j => nI (g j)))), (a2, .inr (4, [.ref r2, .int (nI n2), .int (nI e2), .int (nI p2), .int (nI b2)])), (r2, .inl (cI, 40, .inl (fun j => nI (g2 j))))] (fun (u : Unit) => True) (fun (u : Unit) => [(a, .inr (4, [.ref r, .int (nI n2), .int (nI e2), .int (nI p2), .int (nI b2)])), (r, .inl (cI, 40, .inl (fun j => nI (g2 j)))), (a2, .inr (4, [.ref r2, .int (nI n2), .int (nI e2), .int (nI p2), .int (nI b2)])), (r2, .inl (cI, 40, .inl (fun j => nI (g2 j))))]) 0 0 := by
  refine MV.start (by decide) (Nat.le_of_ble_eq_true rfl) (lv0 := [(0, .ref a), (1, .ref a2)]) rfl ?_
  intro pp9 ee9 ss9 mm9 args9 below9 meth9 co9 A9 Q9 hQ hC hr hlk hnm
  refine V_iconst (v := nI 0) hC dX4_copyFrom_0 (by decide) ?_
  refine V_istore_n (lv2 := [(0, .ref a), (1, .ref a2), (2, .int (nI 0))]) hC dX4_copyFrom_1 rfl (by decide) [1, 2, 0] rfl ?_
  have L2 : ∀ (n9 : Nat) (i : Nat) (g3 : Nat → Nat), (i ≤ 40) → (∀ j, j < i → g3 j = g2 j) → 40 - i < n9 → V pp9 l ee9 rm_X4_copyFrom ss9 mm9 args9 below9 meth9 co9 D A9 ss9.heap 3 Q9 [(a, .inr (4, [.ref r, .int (nI n), .int (nI e), .int (nI p), .int (nI b)])), (r, .inl (cI, 40, .inl (fun j => nI (g3 j)))), (a2, .inr (4, [.ref r2, .int (nI n2), .int (nI e2), .int (nI p2), .int (nI b2)])), (r2, .inl (cI, 40, .inl (fun j => nI (g2 j))))] [(0, .ref a), (1, .ref a2), (2, .int (nI i))] 0 0 2 [] := by
    intro n9
    induction n9 with
    | zero => intro i g3 h1 h2 h9; exact absurd h9 (Nat.not_lt_zero _)
    | succ n9 ih =>
      intro i g3 h1 h2 h9
      refine V_iload_n hC dX4_copyFrom_2 rfl 2 rfl ?_
      refine V_aload_n hC dX4_copyFrom_3 rfl 0 rfl ?_
      refine V_get (ci := 4) (v := .ref r) hC in_X4 0 rfl cls_X4 0 (by decide) fl_X4_9 rfl dX4_copyFrom_4 ?_
      refine V_alen (v := (nI 40)) hC 1 0 rfl rfl rfl dX4_copyFrom_7 ?_
      refine V_icmp_ge (tgt := 28) hC (by omega) (by omega) dX4_copyFrom_8 (by decide) (fun c8 => ?_) (fun c8 => ?_)
      · have hcg : ∀ j, j < 40 → g3 j = g2 j := fun j hj => h2 j (by omega)
        refine V_cong (k := 1) (g := fun j => nI (g2 j)) rfl (fun j hj => congrArg nI (hcg j hj)) (ws2 := [(a, .inr (4, [.ref r, .int (nI n), .int (nI e), .int (nI p), .int (nI b)])), (r, .inl (cI, 40, .inl (fun j => nI (g2 j)))), (a2, .inr (4, [.ref r2, .int (nI n2), .int (nI e2), .int (nI p2), .int (nI b2)])), (r2, .inl (cI, 40, .inl (fun j => nI (g2 j))))]) rfl ?_
        clear hcg
        refine V_aload_n hC dX4_copyFrom_28 rfl 0 rfl ?_
        refine V_aload_n hC dX4_copyFrom_29 rfl 1 rfl ?_
        refine V_get (ci := 4) (v := .int (nI n2)) hC in_X4 2 rfl cls_X4 1 (by decide) fl_X4_15 rfl dX4_copyFrom_30 ?_
        refine V_put (ci := 4) (v := .int (nI n2)) hC tyX4 tyX4_ok nmX4 in_X4 0 rfl cls_X4 1 (by decide) fl_X4_15 rfl rfl rfl (Nat.le_of_ble_eq_true rfl) dX4_copyFrom_33 (ws2 := [(a, .inr (4, [.ref r, .int (nI n2), .int (nI e), .int (nI p), .int (nI b)])), (r, .inl (cI, 40, .inl (fun j => nI (g2 j)))), (a2, .inr (4, [.ref r2, .int (nI n2), .int (nI e2), .int (nI p2), .int (nI b2)])), (r2, .inl (cI, 40, .inl (fun j => nI (g2 j))))]) rfl ?_
        refine V_aload_n hC dX4_copyFrom_36 rfl 0 rfl ?_
        refine V_aload_n hC dX4_copyFrom_37 rfl 1 rfl ?_
        refine V_get (ci := 4) (v := .int (nI e2)) hC in_X4 2 rfl cls_X4 2 (by decide) fl_X4_19 rfl dX4_copyFrom_38 ?_
        refine V_put (ci := 4) (v := .int (nI e2)) hC tyX4 tyX4_ok nmX4 in_X4 0 rfl cls_X4 2 (by decide) fl_X4_19 rfl (nar_bool (by omega)) (fit_bool (by omega)) (Nat.le_of_ble_eq_true rfl) dX4_copyFrom_41 (ws2 := [(a, .inr (4, [.ref r, .int (nI n2), .int (nI e2), .int (nI p), .int (nI b)])), (r, .inl (cI, 40, .inl (fun j => nI (g2 j)))), (a2, .inr (4, [.ref r2, .int (nI n2), .int (nI e2), .int (nI p2), .int (nI b2)])), (r2, .inl (cI, 40, .inl (fun j => nI (g2 j))))]) rfl ?_
        refine V_aload_n hC dX4_copyFrom_44 rfl 0 rfl ?_
        refine V_aload_n hC dX4_copyFrom_45 rfl 1 rfl ?_
        refine V_get (ci := 4) (v := .int (nI p2)) hC in_X4 2 rfl cls_X4 3 (by decide) fl_X4_23 rfl dX4_copyFrom_46 ?_
        refine V_put (ci := 4) (v := .int (nI p2)) hC tyX4 tyX4_ok nmX4 in_X4 0 rfl cls_X4 3 (by decide) fl_X4_23 rfl rfl rfl (Nat.le_of_ble_eq_true rfl) dX4_copyFrom_49 (ws2 := [(a, .inr (4, [.ref r, .int (nI n2), .int (nI e2), .int (nI p2), .int (nI b)])), (r, .inl (cI, 40, .inl (fun j => nI (g2 j)))), (a2, .inr (4, [.ref r2, .int (nI n2), .int (nI e2), .int (nI p2), .int (nI b2)])), (r2, .inl (cI, 40, .inl (fun j => nI (g2 j))))]) rfl ?_
        refine V_aload_n hC dX4_copyFrom_52 rfl 0 rfl ?_
        refine V_aload_n hC dX4_copyFrom_53 rfl 1 rfl ?_
        refine V_get (ci := 4) (v := .int (nI b2)) hC in_X4 2 rfl cls_X4 4 (by decide) fl_X4_26 rfl dX4_copyFrom_54 ?_
        refine V_put (ci := 4) (v := .int (nI b2)) hC tyX4 tyX4_ok nmX4 in_X4 0 rfl cls_X4 4 (by decide) fl_X4_26 rfl rfl rfl (Nat.le_of_ble_eq_true rfl) dX4_copyFrom_57 (ws2 := [(a, .inr (4, [.ref r, .int (nI n2), .int (nI e2), .int (nI p2), .int (nI b2)])), (r, .inl (cI, 40, .inl (fun j => nI (g2 j)))), (a2, .inr (4, [.ref r2, .int (nI n2), .int (nI e2), .int (nI p2), .int (nI b2)])), (r2, .inl (cI, 40, .inl (fun j => nI (g2 j))))]) rfl ?_
        subst hQ
        exact V_vret hC hr hlk (by decide) (by decide) dX4_copyFrom_60 (()) [0, 1, 2, 3] rfl (by decide) (trivial)
      · refine V_aload_n hC dX4_copyFrom_11 rfl 0 rfl ?_
        refine V_get (ci := 4) (v := .ref r) hC in_X4 0 rfl cls_X4 0 (by decide) fl_X4_9 rfl dX4_copyFrom_12 ?_
        refine V_iload_n hC dX4_copyFrom_15 rfl 2 rfl ?_
        refine V_aload_n hC dX4_copyFrom_16 rfl 1 rfl ?_
        refine V_iload_n hC dX4_copyFrom_17 rfl 2 rfl ?_
        refine V_calliV (As := [.int (nI i)]) (rest := [.int (nI i), .ref r]) (wr := [(a, .inr (4, [.ref r, .int (nI n), .int (nI e), .int (nI p), .int (nI b)])), (r, .inl (cI, 40, .inl (fun j => nI (g3 j))))]) hC (c_X4_letterAt l D cI cQ a2 r2 n2 e2 p2 b2 i g2 (by omega)) mok_X4_letterAt ml_X4_35 (q1 := 0) rfl cls_X4 rfl rfl rfl (by decide) (by decide) (by decide) (Nat.le_of_ble_eq_true rfl) [2, 3] [0, 1] rfl (by decide) rfl (by decide) (by decide) dX4_copyFrom_18 rfl (fun r9 u9 h18 => ?_)
        obtain ⟨rfl, h18⟩ := h18
        clear h18
        refine V_perm (ws2 := [(a, .inr (4, [.ref r, .int (nI n), .int (nI e), .int (nI p), .int (nI b)])), (r, .inl (cI, 40, .inl (fun j => nI (g3 j)))), (a2, .inr (4, [.ref r2, .int (nI n2), .int (nI e2), .int (nI p2), .int (nI b2)])), (r2, .inl (cI, 40, .inl (fun j => nI (g2 j))))]) [0, 1, 2, 3] rfl (by decide) ?_
        refine V_iast hC 1 0 rfl rfl (by omega) (by decide) dX4_copyFrom_21 (ws2 := [(a, .inr (4, [.ref r, .int (nI n), .int (nI e), .int (nI p), .int (nI b)])), (r, .inl (cI, 40, .inl (fun j => nI ((va_up g3 i (g2 i)) j)))), (a2, .inr (4, [.ref r2, .int (nI n2), .int (nI e2), .int (nI p2), .int (nI b2)])), (r2, .inl (cI, 40, .inl (fun j => nI (g2 j))))]) rfl ?_
        refine V_iinc (v := (nI (i + 1))) (lv2 := [(0, .ref a), (1, .ref a2), (2, .int (nI (i + 1)))]) (q := 2) hC dX4_copyFrom_22 rfl (nI_add _ _) (by decide) [1, 2, 0] rfl ?_
        refine V_goto (tgt := 2) hC dX4_copyFrom_25 (by decide) ?_
        exact ih (i + 1) (va_up g3 i (g2 i)) (by omega) (lt_s (fun j hj => by rw [va_up_ne g3 _ (show j ≠ i by omega)]; exact h2 j hj) (va_up_self g3 i _)) (by omega)
  exact L2 _ 0 g (by omega) (fun j hj => absurd hj (Nat.not_lt_zero j)) (Nat.lt_succ_self _)
abbrev rm_X7_empty : Room := { frames := 0, cells := 0, slots := 0, locals := 0 }
set_option maxHeartbeats 4000000 in
set_option maxRecDepth 100000 in
theorem c_X7_empty (l : Launch) (D : va_G) (cI cQ : ClassId) (a r n : Nat)  : MV l yX7_empty cX7_empty 1 none rm_X7_empty D (TY cI cQ) [.ref a] [(a, .inr (7, [.ref r, .int (nI n)]))] (fun (u : Unit) => True) (fun (u : Unit) => [(a, .inr (7, [.ref r, .int (nI 0)]))]) 0 0 := by
  refine MV.start (by decide) (Nat.le_of_ble_eq_true rfl) (lv0 := [(0, .ref a)]) rfl ?_
  intro pp9 ee9 ss9 mm9 args9 below9 meth9 co9 A9 Q9 hQ hC hr hlk hnm
  refine V_aload_n hC dX7_empty_0 rfl 0 rfl ?_
  refine V_iconst (v := nI 0) hC dX7_empty_1 (by decide) ?_
  refine V_put (ci := 7) (v := .int (nI 0)) hC tyX7 tyX7_ok nmX7 in_X7 0 rfl cls_X7 1 (by decide) fl_X7_15 rfl rfl rfl (Nat.le_of_ble_eq_true rfl) dX7_empty_2 (ws2 := [(a, .inr (7, [.ref r, .int (nI 0)]))]) rfl ?_
  subst hQ
  exact V_vret hC hr hlk (by decide) (by decide) dX7_empty_5 (()) [0] rfl (by decide) (trivial)
abbrev rm_X7_append : Room := { frames := 0, cells := 0, slots := 0, locals := 0 }
set_option maxHeartbeats 4000000 in
set_option maxRecDepth 100000 in
theorem c_X7_append (l : Launch) (D : va_G) (cI cQ : ClassId) (a r n x : Nat) (f : Nat → Nat) (hn : n < 120) : MV l yX7_append cX7_append 2 none rm_X7_append D (TY cI cQ) [.ref a, .int (nI x)] [(a, .inr (7, [.ref r, .int (nI n)])), (r, .inl (cI, 120, .inl (fun j => nI (f j))))] (fun (u : Unit) => True) (fun (u : Unit) => [(a, .inr (7, [.ref r, .int (nI (n + 1))])), (r, .inl (cI, 120, .inl (fun j => nI ((va_up f n x) j))))]) 0 0 := by
  refine MV.start (by decide) (Nat.le_of_ble_eq_true rfl) (lv0 := [(0, .ref a), (1, .int (nI x))]) rfl ?_
  intro pp9 ee9 ss9 mm9 args9 below9 meth9 co9 A9 Q9 hQ hC hr hlk hnm
  refine V_aload_n hC dX7_append_0 rfl 0 rfl ?_
  refine V_get (ci := 7) (v := .int (nI n)) hC in_X7 0 rfl cls_X7 1 (by decide) fl_X7_15 rfl dX7_append_1 ?_
  refine V_if_lt_F (tgt := 39) hC dX7_append_4 (by decide) (nI_pos (by omega)) ?_
  refine V_aload_n hC dX7_append_7 rfl 0 rfl ?_
  refine V_get (ci := 7) (v := .int (nI n)) hC in_X7 0 rfl cls_X7 1 (by decide) fl_X7_15 rfl dX7_append_8 ?_
  refine V_aload_n hC dX7_append_11 rfl 0 rfl ?_
  refine V_get (ci := 7) (v := .ref r) hC in_X7 0 rfl cls_X7 0 (by decide) fl_X7_9 rfl dX7_append_12 ?_
  refine V_alen (v := (nI 120)) hC 1 0 rfl rfl rfl dX7_append_15 ?_
  refine V_icmp_ge_F (tgt := 39) hC dX7_append_16 (by decide) (nI_ge (by omega) (by omega)) ?_
  refine V_aload_n hC dX7_append_19 rfl 0 rfl ?_
  refine V_get (ci := 7) (v := .ref r) hC in_X7 0 rfl cls_X7 0 (by decide) fl_X7_9 rfl dX7_append_20 ?_
  refine V_aload_n hC dX7_append_23 rfl 0 rfl ?_
  refine V_get (ci := 7) (v := .int (nI n)) hC in_X7 0 rfl cls_X7 1 (by decide) fl_X7_15 rfl dX7_append_24 ?_
  refine V_iload_n hC dX7_append_27 rfl 1 rfl ?_
  refine V_iast hC 1 0 rfl rfl (by omega) (by decide) dX7_append_28 (ws2 := [(a, .inr (7, [.ref r, .int (nI n)])), (r, .inl (cI, 120, .inl (fun j => nI ((va_up f n x) j))))]) rfl ?_
  refine V_aload_n hC dX7_append_29 rfl 0 rfl ?_
  refine V_dup hC dX7_append_30 rfl ?_
  refine V_get (ci := 7) (v := .int (nI n)) hC in_X7 0 rfl cls_X7 1 (by decide) fl_X7_15 rfl dX7_append_31 ?_
  refine V_iconst (v := nI 1) hC dX7_append_34 (by decide) ?_
  refine V_iadd hC dX7_append_35 ?_
  refine V_put (ci := 7) (v := .int (nI (n + 1))) hC tyX7 tyX7_ok nmX7 in_X7 0 rfl cls_X7 1 (by decide) fl_X7_15 rfl rfl rfl (Nat.le_of_ble_eq_true rfl) dX7_append_36 (ws2 := [(a, .inr (7, [.ref r, .int (nI (n + 1))])), (r, .inl (cI, 120, .inl (fun j => nI ((va_up f n x) j))))]) rfl ?_
  subst hQ
  exact V_vret hC hr hlk (by decide) (by decide) dX7_append_39 (()) [0, 1] rfl (by decide) (trivial)
abbrev rm_X7_copyFrom : Room := { frames := 1, cells := 0, slots := 0, locals := 21 }
set_option maxHeartbeats 4000000 in
set_option maxRecDepth 100000 in
theorem c_X7_copyFrom (l : Launch) (D : va_G) (cI cQ : ClassId) (a r n bi br n2 : Nat) (f g : Nat → Nat) (hn : n2 ≤ 120) (hg : ∀ j, j < n2 → g j < 2) : MV l yX7_copyFrom cX7_copyFrom 3 none rm_X7_copyFrom D (TY cI cQ) [.ref a, .ref bi] [(a, .inr (7, [.ref r, .int (nI n)])), (r, .inl (cI, 120, .inl (fun j => nI (f j)))), (bi, .inr (0, [.ref br, .int (nI n2)])), (br, .inl (cI, 658, .inl (fun j => nI (g j))))] (fun (u : (Nat → Nat)) => ∀ j, j < n2 → u j = if g j = 1 then 49 else 48) (fun (u : (Nat → Nat)) => [(a, .inr (7, [.ref r, .int (nI n2)])), (r, .inl (cI, 120, .inl (fun j => nI (u j)))), (bi, .inr (0, [.ref br, .int (nI n2)])), (br, .inl (cI, 658, .inl (fun j => nI (g j))))]) 0 0 := by
  refine MV.start (by decide) (Nat.le_of_ble_eq_true rfl) (lv0 := [(0, .ref a), (1, .ref bi)]) rfl ?_
  intro pp9 ee9 ss9 mm9 args9 below9 meth9 co9 A9 Q9 hQ hC hr hlk hnm
  refine V_aload_n hC dX7_copyFrom_0 rfl 0 rfl ?_
  refine V_callvV (As := []) (rest := []) (wr := [(r, .inl (cI, 120, .inl (fun j => nI (f j)))), (bi, .inr (0, [.ref br, .int (nI n2)])), (br, .inl (cI, 658, .inl (fun j => nI (g j))))]) hC (c_X7_empty l D cI cQ a r n ) mok_X7_empty ml_X7_19 (q1 := 0) rfl cls_X7 rfl rfl rfl (by decide) (by decide) (by decide) (Nat.le_of_ble_eq_true rfl) [0] [1, 2, 3] rfl (by decide) rfl (by decide) (by decide) dX7_copyFrom_1 rfl (fun u9 h1 => ?_)
  clear h1
  refine V_perm (ws2 := [(a, .inr (7, [.ref r, .int (nI 0)])), (r, .inl (cI, 120, .inl (fun j => nI (f j)))), (bi, .inr (0, [.ref br, .int (nI n2)])), (br, .inl (cI, 658, .inl (fun j => nI (g j))))]) [3, 0, 1, 2] rfl (by decide) ?_
  refine V_iconst (v := nI 0) hC dX7_copyFrom_4 (by decide) ?_
  refine V_istore_n (lv2 := [(0, .ref a), (1, .ref bi), (2, .int (nI 0))]) hC dX7_copyFrom_5 rfl (by decide) [1, 2, 0] rfl ?_
  have L6 : ∀ (n9 : Nat) (i : Nat) (f2 : Nat → Nat), (i ≤ n2) → (∀ j, j < i → f2 j = if g j = 1 then 49 else 48) → n2 - i < n9 → V pp9 l ee9 rm_X7_copyFrom ss9 mm9 args9 below9 meth9 co9 D A9 ss9.heap 3 Q9 [(a, .inr (7, [.ref r, .int (nI i)])), (r, .inl (cI, 120, .inl (fun j => nI (f2 j)))), (bi, .inr (0, [.ref br, .int (nI n2)])), (br, .inl (cI, 658, .inl (fun j => nI (g j))))] [(0, .ref a), (1, .ref bi), (2, .int (nI i))] 0 0 6 [] := by
    intro n9
    induction n9 with
    | zero => intro i f2 h1 h2 h9; exact absurd h9 (Nat.not_lt_zero _)
    | succ n9 ih =>
      intro i f2 h1 h2 h9
      refine V_iload_n hC dX7_copyFrom_6 rfl 2 rfl ?_
      refine V_aload_n hC dX7_copyFrom_7 rfl 1 rfl ?_
      refine V_getN (ci := 0) (v := .int (nI n2)) hC in_X0 2 rfl cls_X0 1 (by decide) fn_X7_22 rfl dX7_copyFrom_8 ?_
      refine V_icmp_ge (tgt := 40) hC (by omega) (by omega) dX7_copyFrom_11 (by decide) (fun c11 => ?_) (fun c11 => ?_)
      · have ei9 : i = n2 := by omega
        subst ei9
        subst hQ
        exact V_vret hC hr hlk (by decide) (by decide) dX7_copyFrom_40 (f2) [0, 1, 2, 3] rfl (by decide) (h2)
      · refine V_aload_n hC dX7_copyFrom_14 rfl 0 rfl ?_
        refine V_aload_n hC dX7_copyFrom_15 rfl 1 rfl ?_
        refine V_iload_n hC dX7_copyFrom_16 rfl 2 rfl ?_
        refine V_calliV (As := [.int (nI i)]) (rest := [.ref a]) (wr := [(a, .inr (7, [.ref r, .int (nI i)])), (r, .inl (cI, 120, .inl (fun j => nI (f2 j))))]) hC (c_X0_bitAt l D cI cQ bi br n2 i g (by omega) (by omega)) mok_X0_bitAt ml_X7_25 (q1 := 0) rfl cls_X0 rfl rfl rfl (by decide) (by decide) (by decide) (Nat.le_of_ble_eq_true rfl) [2, 3] [0, 1] rfl (by decide) rfl (by decide) (by decide) dX7_copyFrom_17 rfl (fun r9 u9 h17 => ?_)
        obtain ⟨rfl, h17⟩ := h17
        clear h17
        refine V_perm (ws2 := [(a, .inr (7, [.ref r, .int (nI i)])), (r, .inl (cI, 120, .inl (fun j => nI (f2 j)))), (bi, .inr (0, [.ref br, .int (nI n2)])), (br, .inl (cI, 658, .inl (fun j => nI (g j))))]) [0, 1, 2, 3] rfl (by decide) ?_
        refine V_st (st2 := [.int (nI (g i)), .ref a]) (by rw [show (if i < n2 then g i else 0) = (g i) from if_pos c11]) ?_
        have hgi := hg i c11
        refine V_iconst (v := nI 1) hC dX7_copyFrom_20 (by decide) ?_
        refine V_icmp_ne (tgt := 29) hC (by omega) (by omega) dX7_copyFrom_21 (by decide) (fun c21 => ?_) (fun c21 => ?_)
        · refine V_bipush (v := nI 48) hC dX7_copyFrom_29 (by decide) ?_
          refine V_callvV (As := [.int (nI 48)]) (rest := []) (wr := [(bi, .inr (0, [.ref br, .int (nI n2)])), (br, .inl (cI, 658, .inl (fun j => nI (g j))))]) hC (c_X7_append l D cI cQ a r i 48 f2 (by omega)) mok_X7_append ml_X7_29 (q1 := 0) rfl cls_X7 rfl rfl rfl (by decide) (by decide) (by decide) (Nat.le_of_ble_eq_true rfl) [0, 1] [2, 3] rfl (by decide) rfl (by decide) (by decide) dX7_copyFrom_31 rfl (fun u9 h31 => ?_)
          clear h31
          refine V_perm (ws2 := [(a, .inr (7, [.ref r, .int (nI (i + 1))])), (r, .inl (cI, 120, .inl (fun j => nI ((va_up f2 i 48) j)))), (bi, .inr (0, [.ref br, .int (nI n2)])), (br, .inl (cI, 658, .inl (fun j => nI (g j))))]) [2, 3, 0, 1] rfl (by decide) ?_
          refine V_iinc (v := (nI (i + 1))) (lv2 := [(0, .ref a), (1, .ref bi), (2, .int (nI (i + 1)))]) (q := 2) hC dX7_copyFrom_34 rfl (nI_add _ _) (by decide) [1, 2, 0] rfl ?_
          refine V_goto (tgt := 6) hC dX7_copyFrom_37 (by decide) ?_
          exact ih (i + 1) (va_up f2 i 48) (by omega) (lt_s (fun j hj => by rw [va_up_ne f2 _ (show j ≠ i by omega)]; exact h2 j hj) (by rw [va_up_self, if_neg c21])) (by omega)
        · refine V_bipush (v := nI 49) hC dX7_copyFrom_24 (by decide) ?_
          refine V_goto (tgt := 31) hC dX7_copyFrom_26 (by decide) ?_
          refine V_callvV (As := [.int (nI 49)]) (rest := []) (wr := [(bi, .inr (0, [.ref br, .int (nI n2)])), (br, .inl (cI, 658, .inl (fun j => nI (g j))))]) hC (c_X7_append l D cI cQ a r i 49 f2 (by omega)) mok_X7_append ml_X7_29 (q1 := 0) rfl cls_X7 rfl rfl rfl (by decide) (by decide) (by decide) (Nat.le_of_ble_eq_true rfl) [0, 1] [2, 3] rfl (by decide) rfl (by decide) (by decide) dX7_copyFrom_31 rfl (fun u9 h31 => ?_)
          clear h31
          refine V_perm (ws2 := [(a, .inr (7, [.ref r, .int (nI (i + 1))])), (r, .inl (cI, 120, .inl (fun j => nI ((va_up f2 i 49) j)))), (bi, .inr (0, [.ref br, .int (nI n2)])), (br, .inl (cI, 658, .inl (fun j => nI (g j))))]) [2, 3, 0, 1] rfl (by decide) ?_
          refine V_iinc (v := (nI (i + 1))) (lv2 := [(0, .ref a), (1, .ref bi), (2, .int (nI (i + 1)))]) (q := 2) hC dX7_copyFrom_34 rfl (nI_add _ _) (by decide) [1, 2, 0] rfl ?_
          refine V_goto (tgt := 6) hC dX7_copyFrom_37 (by decide) ?_
          exact ih (i + 1) (va_up f2 i 49) (by omega) (lt_s (fun j hj => by rw [va_up_ne f2 _ (show j ≠ i by omega)]; exact h2 j hj) (by rw [va_up_self, if_pos c21])) (by omega)
  exact L6 _ 0 f (by omega) (fun j hj => absurd hj (Nat.not_lt_zero j)) (Nat.lt_succ_self _)
abbrev rm_X7_copyTo : Room := { frames := 1, cells := 0, slots := 0, locals := 21 }
set_option maxHeartbeats 4000000 in
set_option maxRecDepth 100000 in
theorem c_X7_copyTo (l : Launch) (D : va_G) (cI cQ : ClassId) (a r n bi br n2 : Nat) (f g : Nat → Nat) (hn : n ≤ 120) (hf : ∀ j, j < n → f j < 1000) : MV l yX7_copyTo cX7_copyTo 3 none rm_X7_copyTo D (TY cI cQ) [.ref a, .ref bi] [(a, .inr (7, [.ref r, .int (nI n)])), (r, .inl (cI, 120, .inl (fun j => nI (f j)))), (bi, .inr (0, [.ref br, .int (nI n2)])), (br, .inl (cI, 658, .inl (fun j => nI (g j))))] (fun (u : (Nat → Nat)) => ∀ j, j < n → u j = if f j = 49 then 1 else 0) (fun (u : (Nat → Nat)) => [(a, .inr (7, [.ref r, .int (nI n)])), (r, .inl (cI, 120, .inl (fun j => nI (f j)))), (bi, .inr (0, [.ref br, .int (nI n)])), (br, .inl (cI, 658, .inl (fun j => nI (u j))))]) 0 0 := by
  refine MV.start (by decide) (Nat.le_of_ble_eq_true rfl) (lv0 := [(0, .ref a), (1, .ref bi)]) rfl ?_
  intro pp9 ee9 ss9 mm9 args9 below9 meth9 co9 A9 Q9 hQ hC hr hlk hnm
  refine V_aload_n hC dX7_copyTo_0 rfl 1 rfl ?_
  refine V_callvV (As := []) (rest := []) (wr := [(a, .inr (7, [.ref r, .int (nI n)])), (r, .inl (cI, 120, .inl (fun j => nI (f j)))), (br, .inl (cI, 658, .inl (fun j => nI (g j))))]) hC (c_X0_empty l D cI cQ bi br n2 ) mok_X0_empty ml_X7_33 (q1 := 0) rfl cls_X0 rfl rfl rfl (by decide) (by decide) (by decide) (Nat.le_of_ble_eq_true rfl) [2] [0, 1, 3] rfl (by decide) rfl (by decide) (by decide) dX7_copyTo_1 rfl (fun u9 h1 => ?_)
  clear h1
  refine V_perm (ws2 := [(a, .inr (7, [.ref r, .int (nI n)])), (r, .inl (cI, 120, .inl (fun j => nI (f j)))), (bi, .inr (0, [.ref br, .int (nI 0)])), (br, .inl (cI, 658, .inl (fun j => nI (g j))))]) [0, 1, 3, 2] rfl (by decide) ?_
  refine V_iconst (v := nI 0) hC dX7_copyTo_4 (by decide) ?_
  refine V_istore_n (lv2 := [(0, .ref a), (1, .ref bi), (2, .int (nI 0))]) hC dX7_copyTo_5 rfl (by decide) [1, 2, 0] rfl ?_
  have L6 : ∀ (n9 : Nat) (i : Nat) (g2 : Nat → Nat), (i ≤ n) → (∀ j, j < i → g2 j = if f j = 49 then 1 else 0) → n - i < n9 → V pp9 l ee9 rm_X7_copyTo ss9 mm9 args9 below9 meth9 co9 D A9 ss9.heap 3 Q9 [(a, .inr (7, [.ref r, .int (nI n)])), (r, .inl (cI, 120, .inl (fun j => nI (f j)))), (bi, .inr (0, [.ref br, .int (nI i)])), (br, .inl (cI, 658, .inl (fun j => nI (g2 j))))] [(0, .ref a), (1, .ref bi), (2, .int (nI i))] 0 0 6 [] := by
    intro n9
    induction n9 with
    | zero => intro i g2 h1 h2 h9; exact absurd h9 (Nat.not_lt_zero _)
    | succ n9 ih =>
      intro i g2 h1 h2 h9
      refine V_iload_n hC dX7_copyTo_6 rfl 2 rfl ?_
      refine V_aload_n hC dX7_copyTo_7 rfl 0 rfl ?_
      refine V_get (ci := 7) (v := .int (nI n)) hC in_X7 0 rfl cls_X7 1 (by decide) fl_X7_15 rfl dX7_copyTo_8 ?_
      refine V_icmp_ge (tgt := 49) hC (by omega) (by omega) dX7_copyTo_11 (by decide) (fun c11 => ?_) (fun c11 => ?_)
      · have ei9 : i = n := by omega
        subst ei9
        subst hQ
        exact V_vret hC hr hlk (by decide) (by decide) dX7_copyTo_49 (g2) [0, 1, 2, 3] rfl (by decide) (h2)
      · refine V_iload_n hC dX7_copyTo_14 rfl 2 rfl ?_
        refine V_aload_n hC dX7_copyTo_15 rfl 0 rfl ?_
        refine V_get (ci := 7) (v := .ref r) hC in_X7 0 rfl cls_X7 0 (by decide) fl_X7_9 rfl dX7_copyTo_16 ?_
        refine V_alen (v := (nI 120)) hC 1 0 rfl rfl rfl dX7_copyTo_19 ?_
        refine V_icmp_ge_F (tgt := 49) hC dX7_copyTo_20 (by decide) (nI_ge (by omega) (by omega)) ?_
        refine V_aload_n hC dX7_copyTo_23 rfl 1 rfl ?_
        refine V_aload_n hC dX7_copyTo_24 rfl 0 rfl ?_
        refine V_get (ci := 7) (v := .ref r) hC in_X7 0 rfl cls_X7 0 (by decide) fl_X7_9 rfl dX7_copyTo_25 ?_
        refine V_iload_n hC dX7_copyTo_28 rfl 2 rfl ?_
        refine V_iald hC 1 0 rfl rfl (by omega) (by decide) dX7_copyTo_29 ?_
        have hfi := hf i c11
        refine V_bipush (v := nI 49) hC dX7_copyTo_30 (by decide) ?_
        refine V_icmp_ne (tgt := 39) hC (by omega) (by omega) dX7_copyTo_32 (by decide) (fun c32 => ?_) (fun c32 => ?_)
        · refine V_iconst (v := nI 0) hC dX7_copyTo_39 (by decide) ?_
          refine V_callvV (As := [.int (nI 0)]) (rest := []) (wr := [(a, .inr (7, [.ref r, .int (nI n)])), (r, .inl (cI, 120, .inl (fun j => nI (f j))))]) hC (c_X0_append l D cI cQ bi br i 0 g2 (by omega)) mok_X0_append ml_X7_34 (q1 := 0) rfl cls_X0 rfl rfl rfl (by decide) (by decide) (by decide) (Nat.le_of_ble_eq_true rfl) [2, 3] [0, 1] rfl (by decide) rfl (by decide) (by decide) dX7_copyTo_40 rfl (fun u9 h40 => ?_)
          clear h40
          refine V_perm (ws2 := [(a, .inr (7, [.ref r, .int (nI n)])), (r, .inl (cI, 120, .inl (fun j => nI (f j)))), (bi, .inr (0, [.ref br, .int (nI (i + 1))])), (br, .inl (cI, 658, .inl (fun j => nI ((va_up g2 i 0) j))))]) [0, 1, 2, 3] rfl (by decide) ?_
          refine V_iinc (v := (nI (i + 1))) (lv2 := [(0, .ref a), (1, .ref bi), (2, .int (nI (i + 1)))]) (q := 2) hC dX7_copyTo_43 rfl (nI_add _ _) (by decide) [1, 2, 0] rfl ?_
          refine V_goto (tgt := 6) hC dX7_copyTo_46 (by decide) ?_
          exact ih (i + 1) (va_up g2 i 0) (by omega) (lt_s (fun j hj => by rw [va_up_ne g2 _ (show j ≠ i by omega)]; exact h2 j hj) (by rw [va_up_self, if_neg c32])) (by omega)
        · refine V_iconst (v := nI 1) hC dX7_copyTo_35 (by decide) ?_
          refine V_goto (tgt := 40) hC dX7_copyTo_36 (by decide) ?_
          refine V_callvV (As := [.int (nI 1)]) (rest := []) (wr := [(a, .inr (7, [.ref r, .int (nI n)])), (r, .inl (cI, 120, .inl (fun j => nI (f j))))]) hC (c_X0_append l D cI cQ bi br i 1 g2 (by omega)) mok_X0_append ml_X7_34 (q1 := 0) rfl cls_X0 rfl rfl rfl (by decide) (by decide) (by decide) (Nat.le_of_ble_eq_true rfl) [2, 3] [0, 1] rfl (by decide) rfl (by decide) (by decide) dX7_copyTo_40 rfl (fun u9 h40 => ?_)
          clear h40
          refine V_perm (ws2 := [(a, .inr (7, [.ref r, .int (nI n)])), (r, .inl (cI, 120, .inl (fun j => nI (f j)))), (bi, .inr (0, [.ref br, .int (nI (i + 1))])), (br, .inl (cI, 658, .inl (fun j => nI ((va_up g2 i 1) j))))]) [0, 1, 2, 3] rfl (by decide) ?_
          refine V_iinc (v := (nI (i + 1))) (lv2 := [(0, .ref a), (1, .ref bi), (2, .int (nI (i + 1)))]) (q := 2) hC dX7_copyTo_43 rfl (nI_add _ _) (by decide) [1, 2, 0] rfl ?_
          refine V_goto (tgt := 6) hC dX7_copyTo_46 (by decide) ?_
          exact ih (i + 1) (va_up g2 i 1) (by omega) (lt_s (fun j hj => by rw [va_up_ne g2 _ (show j ≠ i by omega)]; exact h2 j hj) (by rw [va_up_self, if_pos c32])) (by omega)
  exact L6 _ 0 g (by omega) (fun j hj => absurd hj (Nat.not_lt_zero j)) (Nat.lt_succ_self _)
abbrev rm_X7_firstStrange : Room := { frames := 0, cells := 0, slots := 0, locals := 0 }
set_option maxHeartbeats 4000000 in
set_option maxRecDepth 100000 in
theorem c_X7_firstStrange (l : Launch) (D : va_G) (cI cQ : ClassId) (a r n : Nat) (f : Nat → Nat) (hn : n ≤ 120) (hf : ∀ j, j < n → f j < 1000) : MI l yX7_firstStrange cX7_firstStrange 2 (some .int) rm_X7_firstStrange D (TY cI cQ) [.ref a] [(a, .inr (7, [.ref r, .int (nI n)])), (r, .inl (cI, 120, .inl (fun j => nI (f j))))] (fun (r9 : Int32) (u : Unit) => r9 = (nI (st f n)) ∧ True) (fun (u : Unit) => [(a, .inr (7, [.ref r, .int (nI n)])), (r, .inl (cI, 120, .inl (fun j => nI (f j))))]) 0 0 := by
  refine MI.start (by decide) (Nat.le_of_ble_eq_true rfl) (lv0 := [(0, .ref a)]) rfl ?_
  intro pp9 ee9 ss9 mm9 args9 below9 meth9 co9 A9 Q9 hQ hC hr hlk hnm
  refine V_iconst (v := nI 0) hC dX7_firstStrange_0 (by decide) ?_
  refine V_istore_n (lv2 := [(0, .ref a), (1, .int (nI 0))]) hC dX7_firstStrange_1 rfl (by decide) [1, 0] rfl ?_
  have L2 : ∀ (n9 : Nat) (i : Nat), (i ≤ n) → (stA f (n - i) i = st f n) → n - i < n9 → V pp9 l ee9 rm_X7_firstStrange ss9 mm9 args9 below9 meth9 co9 D A9 ss9.heap 2 Q9 [(a, .inr (7, [.ref r, .int (nI n)])), (r, .inl (cI, 120, .inl (fun j => nI (f j))))] [(0, .ref a), (1, .int (nI i))] 0 0 2 [] := by
    intro n9
    induction n9 with
    | zero => intro i h1 h2 h9; exact absurd h9 (Nat.not_lt_zero _)
    | succ n9 ih =>
      intro i h1 h2 h9
      refine V_iload_n hC dX7_firstStrange_2 rfl 1 rfl ?_
      refine V_aload_n hC dX7_firstStrange_3 rfl 0 rfl ?_
      refine V_get (ci := 7) (v := .int (nI n)) hC in_X7 0 rfl cls_X7 1 (by decide) fl_X7_15 rfl dX7_firstStrange_4 ?_
      refine V_icmp_ge (tgt := 49) hC (by omega) (by omega) dX7_firstStrange_7 (by decide) (fun c7 => ?_) (fun c7 => ?_)
      · refine V_aload_n hC dX7_firstStrange_49 rfl 0 rfl ?_
        refine V_get (ci := 7) (v := .int (nI n)) hC in_X7 0 rfl cls_X7 1 (by decide) fl_X7_15 rfl dX7_firstStrange_50 ?_
        subst hQ
        exact V_iret hC hr hlk rfl (by decide) (by decide) dX7_firstStrange_53 (()) [0, 1] rfl (by decide) (⟨by rw [← h2, show i = n by omega, Nat.sub_self, stA], trivial⟩)
      · refine V_iload_n hC dX7_firstStrange_10 rfl 1 rfl ?_
        refine V_aload_n hC dX7_firstStrange_11 rfl 0 rfl ?_
        refine V_get (ci := 7) (v := .ref r) hC in_X7 0 rfl cls_X7 0 (by decide) fl_X7_9 rfl dX7_firstStrange_12 ?_
        refine V_alen (v := (nI 120)) hC 1 0 rfl rfl rfl dX7_firstStrange_15 ?_
        refine V_icmp_ge_F (tgt := 49) hC dX7_firstStrange_16 (by decide) (nI_ge (by omega) (by omega)) ?_
        refine V_aload_n hC dX7_firstStrange_19 rfl 0 rfl ?_
        refine V_get (ci := 7) (v := .ref r) hC in_X7 0 rfl cls_X7 0 (by decide) fl_X7_9 rfl dX7_firstStrange_20 ?_
        refine V_iload_n hC dX7_firstStrange_23 rfl 1 rfl ?_
        refine V_iald hC 1 0 rfl rfl (by omega) (by decide) dX7_firstStrange_24 ?_
        have hfi := hf i c7
        refine V_bipush (v := nI 48) hC dX7_firstStrange_25 (by decide) ?_
        refine V_icmp_eq (tgt := 43) hC (by omega) (by omega) dX7_firstStrange_27 (by decide) (fun c27 => ?_) (fun c27 => ?_)
        · refine V_iinc (v := (nI (i + 1))) (lv2 := [(0, .ref a), (1, .int (nI (i + 1)))]) (q := 1) hC dX7_firstStrange_43 rfl (nI_add _ _) (by decide) [1, 0] rfl ?_
          refine V_goto (tgt := 2) hC dX7_firstStrange_46 (by decide) ?_
          exact ih (i + 1) (by omega) (by rw [← h2, show n - i = (n - (i + 1)) + 1 by omega, stA, if_pos (by omega)]) (by omega)
        · refine V_aload_n hC dX7_firstStrange_30 rfl 0 rfl ?_
          refine V_get (ci := 7) (v := .ref r) hC in_X7 0 rfl cls_X7 0 (by decide) fl_X7_9 rfl dX7_firstStrange_31 ?_
          refine V_iload_n hC dX7_firstStrange_34 rfl 1 rfl ?_
          refine V_iald hC 1 0 rfl rfl (by omega) (by decide) dX7_firstStrange_35 ?_
          refine V_bipush (v := nI 49) hC dX7_firstStrange_36 (by decide) ?_
          refine V_icmp_eq (tgt := 43) hC (by omega) (by omega) dX7_firstStrange_38 (by decide) (fun c38 => ?_) (fun c38 => ?_)
          · refine V_iinc (v := (nI (i + 1))) (lv2 := [(0, .ref a), (1, .int (nI (i + 1)))]) (q := 1) hC dX7_firstStrange_43 rfl (nI_add _ _) (by decide) [1, 0] rfl ?_
            refine V_goto (tgt := 2) hC dX7_firstStrange_46 (by decide) ?_
            exact ih (i + 1) (by omega) (by rw [← h2, show n - i = (n - (i + 1)) + 1 by omega, stA, if_pos (by omega)]) (by omega)
          · refine V_iload_n hC dX7_firstStrange_41 rfl 1 rfl ?_
            subst hQ
            exact V_iret hC hr hlk rfl (by decide) (by decide) dX7_firstStrange_42 (()) [0, 1] rfl (by decide) (⟨by rw [← h2, show n - i = (n - (i + 1)) + 1 by omega, stA, if_neg (by omega)], trivial⟩)
  exact L2 _ 0 (by omega) (rfl) (Nat.lt_succ_self _)
abbrev rm_X3_copy : Room := { frames := 2, cells := 0, slots := 0, locals := 43 }
set_option maxHeartbeats 4000000 in
set_option maxRecDepth 100000 in
theorem c_X3_copy (l : Launch) (D : va_G) (cI cQ : ClassId) (a r n e p b a2 r2 n2 e2 p2 b2 : Nat) (g g2 : Nat → Nat) (he : e2 < 2) : MV l yX3_copy cX3_copy 2 none rm_X3_copy D (TY cI cQ) [.ref a2, .ref a] [(a, .inr (4, [.ref r, .int (nI n), .int (nI e), .int (nI p), .int (nI b)])), (r, .inl (cI, 40, .inl (fun j => nI (g j)))), (a2, .inr (4, [.ref r2, .int (nI n2), .int (nI e2), .int (nI p2), .int (nI b2)])), (r2, .inl (cI, 40, .inl (fun j => nI (g2 j))))] (fun (u : Unit) => True) (fun (u : Unit) => [(a, .inr (4, [.ref r, .int (nI n2), .int (nI e2), .int (nI p2), .int (nI b2)])), (r, .inl (cI, 40, .inl (fun j => nI (g2 j)))), (a2, .inr (4, [.ref r2, .int (nI n2), .int (nI e2), .int (nI p2), .int (nI b2)])), (r2, .inl (cI, 40, .inl (fun j => nI (g2 j))))]) 0 0 := by
  refine MV.start (by decide) (Nat.le_of_ble_eq_true rfl) (lv0 := [(0, .ref a2), (1, .ref a)]) rfl ?_
  intro pp9 ee9 ss9 mm9 args9 below9 meth9 co9 A9 Q9 hQ hC hr hlk hnm
  refine V_aload_n hC dX3_copy_0 rfl 0 rfl ?_
  refine V_ifnull hC dX3_copy_1 ?_
  refine V_aload_n hC dX3_copy_4 rfl 1 rfl ?_
  refine V_ifnull hC dX3_copy_5 ?_
  refine V_aload_n hC dX3_copy_8 rfl 1 rfl ?_
  refine V_aload_n hC dX3_copy_9 rfl 0 rfl ?_
  refine V_callvV (As := [.ref a2]) (rest := []) (wr := []) hC (c_X4_copyFrom l D cI cQ a r n e p b a2 r2 n2 e2 p2 b2 g g2 (by omega)) mok_X4_copyFrom ml_X3_29 (q1 := 0) rfl cls_X4 rfl rfl rfl (by decide) (by decide) (by decide) (Nat.le_of_ble_eq_true rfl) [0, 1, 2, 3] [] rfl (by decide) rfl (by decide) (by decide) dX3_copy_10 rfl (fun u9 h10 => ?_)
  clear h10
  refine V_perm (ws2 := [(a, .inr (4, [.ref r, .int (nI n2), .int (nI e2), .int (nI p2), .int (nI b2)])), (r, .inl (cI, 40, .inl (fun j => nI (g2 j)))), (a2, .inr (4, [.ref r2, .int (nI n2), .int (nI e2), .int (nI p2), .int (nI b2)])), (r2, .inl (cI, 40, .inl (fun j => nI (g2 j))))]) [0, 1, 2, 3] rfl (by decide) ?_
  subst hQ
  exact V_vret hC hr hlk (by decide) (by decide) dX3_copy_13 (()) [0, 1, 2, 3] rfl (by decide) (trivial)
abbrev rm_X3_dropOldest : Room := { frames := 3, cells := 0, slots := 0, locals := 64 }
set_option maxHeartbeats 4000000 in
set_option maxRecDepth 100000 in
theorem c_X3_dropOldest (l : Launch) (D : va_G) (cI cQ : ClassId) (o st sz m0 r0 m1 r1 m2 r2 m3 r3 : Nat) (G : Nat → Nat → Nat) (NS ES PS BS : Nat → Nat) (he : ∀ j, j < 4 → ES j < 2) : MV l yX3_dropOldest cX3_dropOldest 2 none rm_X3_dropOldest D (TY cI cQ) [.ref o] [(o, .inr (3, [.ref st, .int (nI sz)])), (st, .inl (cQ, 4, .inr (.inr (.inr (.inr (hq m0 m1 m2 m3)))))), (m0, .inr (4, [.ref r0, .int (nI (NS 0)), .int (nI (ES 0)), .int (nI (PS 0)), .int (nI (BS 0))])), (r0, .inl (cI, 40, .inl (fun j => nI ((G 0) j)))), (m1, .inr (4, [.ref r1, .int (nI (NS 1)), .int (nI (ES 1)), .int (nI (PS 1)), .int (nI (BS 1))])), (r1, .inl (cI, 40, .inl (fun j => nI ((G 1) j)))), (m2, .inr (4, [.ref r2, .int (nI (NS 2)), .int (nI (ES 2)), .int (nI (PS 2)), .int (nI (BS 2))])), (r2, .inl (cI, 40, .inl (fun j => nI ((G 2) j)))), (m3, .inr (4, [.ref r3, .int (nI (NS 3)), .int (nI (ES 3)), .int (nI (PS 3)), .int (nI (BS 3))])), (r3, .inl (cI, 40, .inl (fun j => nI ((G 3) j))))] (fun (u : Unit) => True) (fun (u : Unit) => [(o, .inr (3, [.ref st, .int (nI 3)])), (st, .inl (cQ, 4, .inr (.inr (.inr (.inr (hq m0 m1 m2 m3)))))), (m0, .inr (4, [.ref r0, .int (nI (NS 1)), .int (nI (ES 1)), .int (nI (PS 1)), .int (nI (BS 1))])), (r0, .inl (cI, 40, .inl (fun j => nI ((G 1) j)))), (m1, .inr (4, [.ref r1, .int (nI (NS 2)), .int (nI (ES 2)), .int (nI (PS 2)), .int (nI (BS 2))])), (r1, .inl (cI, 40, .inl (fun j => nI ((G 2) j)))), (m2, .inr (4, [.ref r2, .int (nI (NS 3)), .int (nI (ES 3)), .int (nI (PS 3)), .int (nI (BS 3))])), (r2, .inl (cI, 40, .inl (fun j => nI ((G 3) j)))), (m3, .inr (4, [.ref r3, .int (nI (NS 3)), .int (nI (ES 3)), .int (nI (PS 3)), .int (nI (BS 3))])), (r3, .inl (cI, 40, .inl (fun j => nI ((G 3) j))))]) 0 0 := by
  refine MV.start (by decide) (Nat.le_of_ble_eq_true rfl) (lv0 := [(0, .ref o)]) rfl ?_
  intro pp9 ee9 ss9 mm9 args9 below9 meth9 co9 A9 Q9 hQ hC hr hlk hnm
  refine V_iconst (v := nI 1) hC dX3_dropOldest_0 (by decide) ?_
  refine V_istore_n (lv2 := [(0, .ref o), (1, .int (nI 1))]) hC dX3_dropOldest_1 rfl (by decide) [1, 0] rfl ?_
  refine V_iload_n hC dX3_dropOldest_2 rfl 1 rfl ?_
  refine V_aload_n hC dX3_dropOldest_3 rfl 0 rfl ?_
  refine V_get (ci := 3) (v := .ref st) hC in_X3 0 rfl cls_X3 0 (by decide) fl_X3_11 rfl dX3_dropOldest_4 ?_
  refine V_alen (v := (nI 4)) hC 1 1 rfl rfl rfl dX3_dropOldest_7 ?_
  refine V_icmp_ge_F (tgt := 34) hC dX3_dropOldest_8 (by decide) (nI_ge (by omega) (by omega)) ?_
  refine V_aload_n hC dX3_dropOldest_11 rfl 0 rfl ?_
  refine V_get (ci := 3) (v := .ref st) hC in_X3 0 rfl cls_X3 0 (by decide) fl_X3_11 rfl dX3_dropOldest_12 ?_
  refine V_iload_n hC dX3_dropOldest_15 rfl 1 rfl ?_
  refine V_aldq (v := .ref m1) hC 1 1 rfl rfl (by decide) (by decide) rfl dX3_dropOldest_16 ?_
  refine V_aload_n hC dX3_dropOldest_17 rfl 0 rfl ?_
  refine V_get (ci := 3) (v := .ref st) hC in_X3 0 rfl cls_X3 0 (by decide) fl_X3_11 rfl dX3_dropOldest_18 ?_
  refine V_iload_n hC dX3_dropOldest_21 rfl 1 rfl ?_
  refine V_iconst (v := nI 1) hC dX3_dropOldest_22 (by decide) ?_
  refine V_isub hC dX3_dropOldest_23 (by omega) ?_
  refine V_aldq (v := .ref m0) hC 1 1 rfl rfl (by decide) (by decide) rfl dX3_dropOldest_24 ?_
  refine V_callvS (As := [.ref m1, .ref m0]) (rest := []) (wr := [(o, .inr (3, [.ref st, .int (nI sz)])), (st, .inl (cQ, 4, .inr (.inr (.inr (.inr (hq m0 m1 m2 m3)))))), (m2, .inr (4, [.ref r2, .int (nI (NS 2)), .int (nI (ES 2)), .int (nI (PS 2)), .int (nI (BS 2))])), (r2, .inl (cI, 40, .inl (fun j => nI ((G 2) j)))), (m3, .inr (4, [.ref r3, .int (nI (NS 3)), .int (nI (ES 3)), .int (nI (PS 3)), .int (nI (BS 3))])), (r3, .inl (cI, 40, .inl (fun j => nI ((G 3) j))))]) hC (c_X3_copy l D cI cQ m0 r0 (NS 0) (ES 0) (PS 0) (BS 0) m1 r1 (NS 1) (ES 1) (PS 1) (BS 1) (G 0) (G 1) (he _ (by decide))) mok_X3_copy ml_X3_25 rfl rfl rfl (by decide) (by decide) (by decide) (Nat.le_of_ble_eq_true rfl) [2, 3, 4, 5] [0, 1, 6, 7, 8, 9] rfl (by decide) rfl (by decide) (by decide) dX3_dropOldest_25 rfl (fun u9 h25 => ?_)
  clear h25
  refine V_perm (ws2 := [(o, .inr (3, [.ref st, .int (nI sz)])), (st, .inl (cQ, 4, .inr (.inr (.inr (.inr (hq m0 m1 m2 m3)))))), (m0, .inr (4, [.ref r0, .int (nI ((NS 1))), .int (nI ((ES 1))), .int (nI ((PS 1))), .int (nI ((BS 1)))])), (r0, .inl (cI, 40, .inl (fun j => nI (((G 1)) j)))), (m1, .inr (4, [.ref r1, .int (nI ((NS 1))), .int (nI ((ES 1))), .int (nI ((PS 1))), .int (nI ((BS 1)))])), (r1, .inl (cI, 40, .inl (fun j => nI (((G 1)) j)))), (m2, .inr (4, [.ref r2, .int (nI (NS 2)), .int (nI (ES 2)), .int (nI (PS 2)), .int (nI (BS 2))])), (r2, .inl (cI, 40, .inl (fun j => nI ((G 2) j)))), (m3, .inr (4, [.ref r3, .int (nI (NS 3)), .int (nI (ES 3)), .int (nI (PS 3)), .int (nI (BS 3))])), (r3, .inl (cI, 40, .inl (fun j => nI ((G 3) j))))]) [0, 1, 6, 7, 8, 9, 2, 3, 4, 5] rfl (by decide) ?_
  refine V_iinc (v := (nI 2)) (lv2 := [(0, .ref o), (1, .int (nI 2))]) (q := 1) hC dX3_dropOldest_28 rfl (nI_add _ _) (by decide) [1, 0] rfl ?_
  refine V_goto (tgt := 2) hC dX3_dropOldest_31 (by decide) ?_
  refine V_iload_n hC dX3_dropOldest_2 rfl 1 rfl ?_
  refine V_aload_n hC dX3_dropOldest_3 rfl 0 rfl ?_
  refine V_get (ci := 3) (v := .ref st) hC in_X3 0 rfl cls_X3 0 (by decide) fl_X3_11 rfl dX3_dropOldest_4 ?_
  refine V_alen (v := (nI 4)) hC 1 1 rfl rfl rfl dX3_dropOldest_7 ?_
  refine V_icmp_ge_F (tgt := 34) hC dX3_dropOldest_8 (by decide) (nI_ge (by omega) (by omega)) ?_
  refine V_aload_n hC dX3_dropOldest_11 rfl 0 rfl ?_
  refine V_get (ci := 3) (v := .ref st) hC in_X3 0 rfl cls_X3 0 (by decide) fl_X3_11 rfl dX3_dropOldest_12 ?_
  refine V_iload_n hC dX3_dropOldest_15 rfl 1 rfl ?_
  refine V_aldq (v := .ref m2) hC 1 1 rfl rfl (by decide) (by decide) rfl dX3_dropOldest_16 ?_
  refine V_aload_n hC dX3_dropOldest_17 rfl 0 rfl ?_
  refine V_get (ci := 3) (v := .ref st) hC in_X3 0 rfl cls_X3 0 (by decide) fl_X3_11 rfl dX3_dropOldest_18 ?_
  refine V_iload_n hC dX3_dropOldest_21 rfl 1 rfl ?_
  refine V_iconst (v := nI 1) hC dX3_dropOldest_22 (by decide) ?_
  refine V_isub hC dX3_dropOldest_23 (by omega) ?_
  refine V_aldq (v := .ref m1) hC 1 1 rfl rfl (by decide) (by decide) rfl dX3_dropOldest_24 ?_
  refine V_callvS (As := [.ref m2, .ref m1]) (rest := []) (wr := [(o, .inr (3, [.ref st, .int (nI sz)])), (st, .inl (cQ, 4, .inr (.inr (.inr (.inr (hq m0 m1 m2 m3)))))), (m0, .inr (4, [.ref r0, .int (nI ((NS 1))), .int (nI ((ES 1))), .int (nI ((PS 1))), .int (nI ((BS 1)))])), (r0, .inl (cI, 40, .inl (fun j => nI (((G 1)) j)))), (m3, .inr (4, [.ref r3, .int (nI (NS 3)), .int (nI (ES 3)), .int (nI (PS 3)), .int (nI (BS 3))])), (r3, .inl (cI, 40, .inl (fun j => nI ((G 3) j))))]) hC (c_X3_copy l D cI cQ m1 r1 ((NS 1)) ((ES 1)) ((PS 1)) ((BS 1)) m2 r2 (NS 2) (ES 2) (PS 2) (BS 2) ((G 1)) (G 2) (he _ (by decide))) mok_X3_copy ml_X3_25 rfl rfl rfl (by decide) (by decide) (by decide) (Nat.le_of_ble_eq_true rfl) [4, 5, 6, 7] [0, 1, 2, 3, 8, 9] rfl (by decide) rfl (by decide) (by decide) dX3_dropOldest_25 rfl (fun u9 h25 => ?_)
  clear h25
  refine V_perm (ws2 := [(o, .inr (3, [.ref st, .int (nI sz)])), (st, .inl (cQ, 4, .inr (.inr (.inr (.inr (hq m0 m1 m2 m3)))))), (m0, .inr (4, [.ref r0, .int (nI ((NS 1))), .int (nI ((ES 1))), .int (nI ((PS 1))), .int (nI ((BS 1)))])), (r0, .inl (cI, 40, .inl (fun j => nI (((G 1)) j)))), (m1, .inr (4, [.ref r1, .int (nI ((NS 2))), .int (nI ((ES 2))), .int (nI ((PS 2))), .int (nI ((BS 2)))])), (r1, .inl (cI, 40, .inl (fun j => nI (((G 2)) j)))), (m2, .inr (4, [.ref r2, .int (nI ((NS 2))), .int (nI ((ES 2))), .int (nI ((PS 2))), .int (nI ((BS 2)))])), (r2, .inl (cI, 40, .inl (fun j => nI (((G 2)) j)))), (m3, .inr (4, [.ref r3, .int (nI (NS 3)), .int (nI (ES 3)), .int (nI (PS 3)), .int (nI (BS 3))])), (r3, .inl (cI, 40, .inl (fun j => nI ((G 3) j))))]) [0, 1, 2, 3, 6, 7, 8, 9, 4, 5] rfl (by decide) ?_
  refine V_iinc (v := (nI 3)) (lv2 := [(0, .ref o), (1, .int (nI 3))]) (q := 1) hC dX3_dropOldest_28 rfl (nI_add _ _) (by decide) [1, 0] rfl ?_
  refine V_goto (tgt := 2) hC dX3_dropOldest_31 (by decide) ?_
  refine V_iload_n hC dX3_dropOldest_2 rfl 1 rfl ?_
  refine V_aload_n hC dX3_dropOldest_3 rfl 0 rfl ?_
  refine V_get (ci := 3) (v := .ref st) hC in_X3 0 rfl cls_X3 0 (by decide) fl_X3_11 rfl dX3_dropOldest_4 ?_
  refine V_alen (v := (nI 4)) hC 1 1 rfl rfl rfl dX3_dropOldest_7 ?_
  refine V_icmp_ge_F (tgt := 34) hC dX3_dropOldest_8 (by decide) (nI_ge (by omega) (by omega)) ?_
  refine V_aload_n hC dX3_dropOldest_11 rfl 0 rfl ?_
  refine V_get (ci := 3) (v := .ref st) hC in_X3 0 rfl cls_X3 0 (by decide) fl_X3_11 rfl dX3_dropOldest_12 ?_
  refine V_iload_n hC dX3_dropOldest_15 rfl 1 rfl ?_
  refine V_aldq (v := .ref m3) hC 1 1 rfl rfl (by decide) (by decide) rfl dX3_dropOldest_16 ?_
  refine V_aload_n hC dX3_dropOldest_17 rfl 0 rfl ?_
  refine V_get (ci := 3) (v := .ref st) hC in_X3 0 rfl cls_X3 0 (by decide) fl_X3_11 rfl dX3_dropOldest_18 ?_
  refine V_iload_n hC dX3_dropOldest_21 rfl 1 rfl ?_
  refine V_iconst (v := nI 1) hC dX3_dropOldest_22 (by decide) ?_
  refine V_isub hC dX3_dropOldest_23 (by omega) ?_
  refine V_aldq (v := .ref m2) hC 1 1 rfl rfl (by decide) (by decide) rfl dX3_dropOldest_24 ?_
  refine V_callvS (As := [.ref m3, .ref m2]) (rest := []) (wr := [(o, .inr (3, [.ref st, .int (nI sz)])), (st, .inl (cQ, 4, .inr (.inr (.inr (.inr (hq m0 m1 m2 m3)))))), (m0, .inr (4, [.ref r0, .int (nI ((NS 1))), .int (nI ((ES 1))), .int (nI ((PS 1))), .int (nI ((BS 1)))])), (r0, .inl (cI, 40, .inl (fun j => nI (((G 1)) j)))), (m1, .inr (4, [.ref r1, .int (nI ((NS 2))), .int (nI ((ES 2))), .int (nI ((PS 2))), .int (nI ((BS 2)))])), (r1, .inl (cI, 40, .inl (fun j => nI (((G 2)) j))))]) hC (c_X3_copy l D cI cQ m2 r2 ((NS 2)) ((ES 2)) ((PS 2)) ((BS 2)) m3 r3 (NS 3) (ES 3) (PS 3) (BS 3) ((G 2)) (G 3) (he _ (by decide))) mok_X3_copy ml_X3_25 rfl rfl rfl (by decide) (by decide) (by decide) (Nat.le_of_ble_eq_true rfl) [6, 7, 8, 9] [0, 1, 2, 3, 4, 5] rfl (by decide) rfl (by decide) (by decide) dX3_dropOldest_25 rfl (fun u9 h25 => ?_)
  clear h25
  refine V_perm (ws2 := [(o, .inr (3, [.ref st, .int (nI sz)])), (st, .inl (cQ, 4, .inr (.inr (.inr (.inr (hq m0 m1 m2 m3)))))), (m0, .inr (4, [.ref r0, .int (nI ((NS 1))), .int (nI ((ES 1))), .int (nI ((PS 1))), .int (nI ((BS 1)))])), (r0, .inl (cI, 40, .inl (fun j => nI (((G 1)) j)))), (m1, .inr (4, [.ref r1, .int (nI ((NS 2))), .int (nI ((ES 2))), .int (nI ((PS 2))), .int (nI ((BS 2)))])), (r1, .inl (cI, 40, .inl (fun j => nI (((G 2)) j)))), (m2, .inr (4, [.ref r2, .int (nI ((NS 3))), .int (nI ((ES 3))), .int (nI ((PS 3))), .int (nI ((BS 3)))])), (r2, .inl (cI, 40, .inl (fun j => nI (((G 3)) j)))), (m3, .inr (4, [.ref r3, .int (nI ((NS 3))), .int (nI ((ES 3))), .int (nI ((PS 3))), .int (nI ((BS 3)))])), (r3, .inl (cI, 40, .inl (fun j => nI (((G 3)) j))))]) [0, 1, 2, 3, 4, 5, 6, 7, 8, 9] rfl (by decide) ?_
  refine V_iinc (v := (nI 4)) (lv2 := [(0, .ref o), (1, .int (nI 4))]) (q := 1) hC dX3_dropOldest_28 rfl (nI_add _ _) (by decide) [1, 0] rfl ?_
  refine V_goto (tgt := 2) hC dX3_dropOldest_31 (by decide) ?_
  refine V_iload_n hC dX3_dropOldest_2 rfl 1 rfl ?_
  refine V_aload_n hC dX3_dropOldest_3 rfl 0 rfl ?_
  refine V_get (ci := 3) (v := .ref st) hC in_X3 0 rfl cls_X3 0 (by decide) fl_X3_11 rfl dX3_dropOldest_4 ?_
  refine V_alen (v := (nI 4)) hC 1 1 rfl rfl rfl dX3_dropOldest_7 ?_
  refine V_icmp_ge_T (tgt := 34) hC dX3_dropOldest_8 (by decide) (nI_le (by omega) (by omega)) ?_
  refine V_aload_n hC dX3_dropOldest_34 rfl 0 rfl ?_
  refine V_aload_n hC dX3_dropOldest_35 rfl 0 rfl ?_
  refine V_get (ci := 3) (v := .ref st) hC in_X3 0 rfl cls_X3 0 (by decide) fl_X3_11 rfl dX3_dropOldest_36 ?_
  refine V_alen (v := (nI 4)) hC 1 1 rfl rfl rfl dX3_dropOldest_39 ?_
  refine V_iconst (v := nI 1) hC dX3_dropOldest_40 (by decide) ?_
  refine V_isub hC dX3_dropOldest_41 (by omega) ?_
  refine V_put (ci := 3) (v := .int (nI 3)) hC tyX3 tyX3_ok nmX3 in_X3 0 rfl cls_X3 1 (by decide) fl_X3_17 rfl rfl rfl (Nat.le_of_ble_eq_true rfl) dX3_dropOldest_42 (ws2 := [(o, .inr (3, [.ref st, .int (nI 3)])), (st, .inl (cQ, 4, .inr (.inr (.inr (.inr (hq m0 m1 m2 m3)))))), (m0, .inr (4, [.ref r0, .int (nI ((NS 1))), .int (nI ((ES 1))), .int (nI ((PS 1))), .int (nI ((BS 1)))])), (r0, .inl (cI, 40, .inl (fun j => nI (((G 1)) j)))), (m1, .inr (4, [.ref r1, .int (nI ((NS 2))), .int (nI ((ES 2))), .int (nI ((PS 2))), .int (nI ((BS 2)))])), (r1, .inl (cI, 40, .inl (fun j => nI (((G 2)) j)))), (m2, .inr (4, [.ref r2, .int (nI ((NS 3))), .int (nI ((ES 3))), .int (nI ((PS 3))), .int (nI ((BS 3)))])), (r2, .inl (cI, 40, .inl (fun j => nI (((G 3)) j)))), (m3, .inr (4, [.ref r3, .int (nI ((NS 3))), .int (nI ((ES 3))), .int (nI ((PS 3))), .int (nI ((BS 3)))])), (r3, .inl (cI, 40, .inl (fun j => nI (((G 3)) j))))]) rfl ?_
  subst hQ
  exact V_vret hC hr hlk (by decide) (by decide) dX3_dropOldest_45 (()) [0, 1, 2, 3, 4, 5, 6, 7, 8, 9] rfl (by decide) (trivial)
abbrev rm_X3_keep : Room := { frames := 4, cells := 0, slots := 0, locals := 85 }
set_option maxHeartbeats 4000000 in
set_option maxRecDepth 100000 in
theorem c_X3_keep (l : Launch) (D : va_G) (cI cQ : ClassId) (o st sz m0 r0 m1 r1 m2 r2 m3 r3 : Nat) (G : Nat → Nat → Nat) (NS ES PS BS : Nat → Nat) (x xr n e p b : Nat) (g : Nat → Nat) (hz : sz ≤ 4) (hES : ∀ j, j < 4 → ES j < 2) (he : e < 2) : MV l yX3_keep cX3_keep 2 none rm_X3_keep D (TY cI cQ) [.ref o, .ref x] [(o, .inr (3, [.ref st, .int (nI sz)])), (st, .inl (cQ, 4, .inr (.inr (.inr (.inr (hq m0 m1 m2 m3)))))), (m0, .inr (4, [.ref r0, .int (nI (NS 0)), .int (nI (ES 0)), .int (nI (PS 0)), .int (nI (BS 0))])), (r0, .inl (cI, 40, .inl (fun j => nI ((G 0) j)))), (m1, .inr (4, [.ref r1, .int (nI (NS 1)), .int (nI (ES 1)), .int (nI (PS 1)), .int (nI (BS 1))])), (r1, .inl (cI, 40, .inl (fun j => nI ((G 1) j)))), (m2, .inr (4, [.ref r2, .int (nI (NS 2)), .int (nI (ES 2)), .int (nI (PS 2)), .int (nI (BS 2))])), (r2, .inl (cI, 40, .inl (fun j => nI ((G 2) j)))), (m3, .inr (4, [.ref r3, .int (nI (NS 3)), .int (nI (ES 3)), .int (nI (PS 3)), .int (nI (BS 3))])), (r3, .inl (cI, 40, .inl (fun j => nI ((G 3) j)))), (x, .inr (4, [.ref xr, .int (nI n), .int (nI e), .int (nI p), .int (nI b)])), (xr, .inl (cI, 40, .inl (fun j => nI (g j))))] (fun (u : Unit) => True) (fun (u : Unit) => [(o, .inr (3, [.ref st, .int (nI (hsz sz))])), (st, .inl (cQ, 4, .inr (.inr (.inr (.inr (hq m0 m1 m2 m3)))))), (m0, .inr (4, [.ref r0, .int (nI (hup NS sz n 0)), .int (nI (hup ES sz e 0)), .int (nI (hup PS sz p 0)), .int (nI (hup BS sz b 0))])), (r0, .inl (cI, 40, .inl (fun j => nI ((hup G sz g 0) j)))), (m1, .inr (4, [.ref r1, .int (nI (hup NS sz n 1)), .int (nI (hup ES sz e 1)), .int (nI (hup PS sz p 1)), .int (nI (hup BS sz b 1))])), (r1, .inl (cI, 40, .inl (fun j => nI ((hup G sz g 1) j)))), (m2, .inr (4, [.ref r2, .int (nI (hup NS sz n 2)), .int (nI (hup ES sz e 2)), .int (nI (hup PS sz p 2)), .int (nI (hup BS sz b 2))])), (r2, .inl (cI, 40, .inl (fun j => nI ((hup G sz g 2) j)))), (m3, .inr (4, [.ref r3, .int (nI (hup NS sz n 3)), .int (nI (hup ES sz e 3)), .int (nI (hup PS sz p 3)), .int (nI (hup BS sz b 3))])), (r3, .inl (cI, 40, .inl (fun j => nI ((hup G sz g 3) j)))), (x, .inr (4, [.ref xr, .int (nI n), .int (nI e), .int (nI p), .int (nI b)])), (xr, .inl (cI, 40, .inl (fun j => nI (g j))))]) 0 0 := by
  refine MV.start (by decide) (Nat.le_of_ble_eq_true rfl) (lv0 := [(0, .ref o), (1, .ref x)]) rfl ?_
  intro pp9 ee9 ss9 mm9 args9 below9 meth9 co9 A9 Q9 hQ hC hr hlk hnm
  rcases (show sz = 0 ∨ sz = 1 ∨ sz = 2 ∨ sz = 3 ∨ sz = 4 by omega) with rfl | rfl | rfl | rfl | rfl
  · refine V_aload_n hC dX3_keep_0 rfl 0 rfl ?_
    refine V_get (ci := 3) (v := .int (nI 0)) hC in_X3 0 rfl cls_X3 1 (by decide) fl_X3_17 rfl dX3_keep_1 ?_
    refine V_aload_n hC dX3_keep_4 rfl 0 rfl ?_
    refine V_get (ci := 3) (v := .ref st) hC in_X3 0 rfl cls_X3 0 (by decide) fl_X3_11 rfl dX3_keep_5 ?_
    refine V_alen (v := (nI 4)) hC 1 1 rfl rfl rfl dX3_keep_8 ?_
    refine V_icmp_lt_T (tgt := 16) hC dX3_keep_9 (by decide) (nI_lt (by omega) (by omega)) ?_
    refine V_aload_n hC dX3_keep_16 rfl 0 rfl ?_
    refine V_get (ci := 3) (v := .int (nI 0)) hC in_X3 0 rfl cls_X3 1 (by decide) fl_X3_17 rfl dX3_keep_17 ?_
    refine V_if_lt_F (tgt := 58) hC dX3_keep_20 (by decide) (nI_pos (by omega)) ?_
    refine V_aload_n hC dX3_keep_23 rfl 0 rfl ?_
    refine V_get (ci := 3) (v := .int (nI 0)) hC in_X3 0 rfl cls_X3 1 (by decide) fl_X3_17 rfl dX3_keep_24 ?_
    refine V_aload_n hC dX3_keep_27 rfl 0 rfl ?_
    refine V_get (ci := 3) (v := .ref st) hC in_X3 0 rfl cls_X3 0 (by decide) fl_X3_11 rfl dX3_keep_28 ?_
    refine V_alen (v := (nI 4)) hC 1 1 rfl rfl rfl dX3_keep_31 ?_
    refine V_icmp_ge_F (tgt := 58) hC dX3_keep_32 (by decide) (nI_ge (by omega) (by omega)) ?_
    refine V_aload_n hC dX3_keep_35 rfl 1 rfl ?_
    refine V_aload_n hC dX3_keep_36 rfl 0 rfl ?_
    refine V_get (ci := 3) (v := .ref st) hC in_X3 0 rfl cls_X3 0 (by decide) fl_X3_11 rfl dX3_keep_37 ?_
    refine V_aload_n hC dX3_keep_40 rfl 0 rfl ?_
    refine V_get (ci := 3) (v := .int (nI 0)) hC in_X3 0 rfl cls_X3 1 (by decide) fl_X3_17 rfl dX3_keep_41 ?_
    refine V_aldq (v := .ref m0) hC 1 1 rfl rfl (by decide) (by decide) rfl dX3_keep_44 ?_
    refine V_callvS (As := [.ref x, .ref m0]) (rest := []) (wr := [(o, .inr (3, [.ref st, .int (nI 0)])), (st, .inl (cQ, 4, .inr (.inr (.inr (.inr (hq m0 m1 m2 m3)))))), (m1, .inr (4, [.ref r1, .int (nI (NS 1)), .int (nI (ES 1)), .int (nI (PS 1)), .int (nI (BS 1))])), (r1, .inl (cI, 40, .inl (fun j => nI ((G 1) j)))), (m2, .inr (4, [.ref r2, .int (nI (NS 2)), .int (nI (ES 2)), .int (nI (PS 2)), .int (nI (BS 2))])), (r2, .inl (cI, 40, .inl (fun j => nI ((G 2) j)))), (m3, .inr (4, [.ref r3, .int (nI (NS 3)), .int (nI (ES 3)), .int (nI (PS 3)), .int (nI (BS 3))])), (r3, .inl (cI, 40, .inl (fun j => nI ((G 3) j))))]) hC (c_X3_copy l D cI cQ m0 r0 (NS 0) (ES 0) (PS 0) (BS 0) x xr n e p b (G 0) g (he)) mok_X3_copy ml_X3_25 rfl rfl rfl (by decide) (by decide) (by decide) (Nat.le_of_ble_eq_true rfl) [2, 3, 10, 11] [0, 1, 4, 5, 6, 7, 8, 9] rfl (by decide) rfl (by decide) (by decide) dX3_keep_45 rfl (fun u9 h45 => ?_)
    clear h45
    refine V_perm (ws2 := [(o, .inr (3, [.ref st, .int (nI 0)])), (st, .inl (cQ, 4, .inr (.inr (.inr (.inr (hq m0 m1 m2 m3)))))), (m0, .inr (4, [.ref r0, .int (nI n), .int (nI e), .int (nI p), .int (nI b)])), (r0, .inl (cI, 40, .inl (fun j => nI (g j)))), (m1, .inr (4, [.ref r1, .int (nI (NS 1)), .int (nI (ES 1)), .int (nI (PS 1)), .int (nI (BS 1))])), (r1, .inl (cI, 40, .inl (fun j => nI ((G 1) j)))), (m2, .inr (4, [.ref r2, .int (nI (NS 2)), .int (nI (ES 2)), .int (nI (PS 2)), .int (nI (BS 2))])), (r2, .inl (cI, 40, .inl (fun j => nI ((G 2) j)))), (m3, .inr (4, [.ref r3, .int (nI (NS 3)), .int (nI (ES 3)), .int (nI (PS 3)), .int (nI (BS 3))])), (r3, .inl (cI, 40, .inl (fun j => nI ((G 3) j)))), (x, .inr (4, [.ref xr, .int (nI n), .int (nI e), .int (nI p), .int (nI b)])), (xr, .inl (cI, 40, .inl (fun j => nI (g j))))]) [0, 1, 8, 9, 2, 3, 4, 5, 6, 7, 10, 11] rfl (by decide) ?_
    refine V_aload_n hC dX3_keep_48 rfl 0 rfl ?_
    refine V_dup hC dX3_keep_49 rfl ?_
    refine V_get (ci := 3) (v := .int (nI 0)) hC in_X3 0 rfl cls_X3 1 (by decide) fl_X3_17 rfl dX3_keep_50 ?_
    refine V_iconst (v := nI 1) hC dX3_keep_53 (by decide) ?_
    refine V_iadd hC dX3_keep_54 ?_
    refine V_put (ci := 3) (v := .int (nI 1)) hC tyX3 tyX3_ok nmX3 in_X3 0 rfl cls_X3 1 (by decide) fl_X3_17 rfl rfl rfl (Nat.le_of_ble_eq_true rfl) dX3_keep_55 (ws2 := [(o, .inr (3, [.ref st, .int (nI 1)])), (st, .inl (cQ, 4, .inr (.inr (.inr (.inr (hq m0 m1 m2 m3)))))), (m0, .inr (4, [.ref r0, .int (nI n), .int (nI e), .int (nI p), .int (nI b)])), (r0, .inl (cI, 40, .inl (fun j => nI (g j)))), (m1, .inr (4, [.ref r1, .int (nI (NS 1)), .int (nI (ES 1)), .int (nI (PS 1)), .int (nI (BS 1))])), (r1, .inl (cI, 40, .inl (fun j => nI ((G 1) j)))), (m2, .inr (4, [.ref r2, .int (nI (NS 2)), .int (nI (ES 2)), .int (nI (PS 2)), .int (nI (BS 2))])), (r2, .inl (cI, 40, .inl (fun j => nI ((G 2) j)))), (m3, .inr (4, [.ref r3, .int (nI (NS 3)), .int (nI (ES 3)), .int (nI (PS 3)), .int (nI (BS 3))])), (r3, .inl (cI, 40, .inl (fun j => nI ((G 3) j)))), (x, .inr (4, [.ref xr, .int (nI n), .int (nI e), .int (nI p), .int (nI b)])), (xr, .inl (cI, 40, .inl (fun j => nI (g j))))]) rfl ?_
    refine V_ws (ws2 := [(o, .inr (3, [.ref st, .int (nI (hsz 0))])), (st, .inl (cQ, 4, .inr (.inr (.inr (.inr (hq m0 m1 m2 m3)))))), (m0, .inr (4, [.ref r0, .int (nI (hup NS 0 n 0)), .int (nI (hup ES 0 e 0)), .int (nI (hup PS 0 p 0)), .int (nI (hup BS 0 b 0))])), (r0, .inl (cI, 40, .inl (fun j => nI ((hup G 0 g 0) j)))), (m1, .inr (4, [.ref r1, .int (nI (hup NS 0 n 1)), .int (nI (hup ES 0 e 1)), .int (nI (hup PS 0 p 1)), .int (nI (hup BS 0 b 1))])), (r1, .inl (cI, 40, .inl (fun j => nI ((hup G 0 g 1) j)))), (m2, .inr (4, [.ref r2, .int (nI (hup NS 0 n 2)), .int (nI (hup ES 0 e 2)), .int (nI (hup PS 0 p 2)), .int (nI (hup BS 0 b 2))])), (r2, .inl (cI, 40, .inl (fun j => nI ((hup G 0 g 2) j)))), (m3, .inr (4, [.ref r3, .int (nI (hup NS 0 n 3)), .int (nI (hup ES 0 e 3)), .int (nI (hup PS 0 p 3)), .int (nI (hup BS 0 b 3))])), (r3, .inl (cI, 40, .inl (fun j => nI ((hup G 0 g 3) j)))), (x, .inr (4, [.ref xr, .int (nI n), .int (nI e), .int (nI p), .int (nI b)])), (xr, .inl (cI, 40, .inl (fun j => nI (g j))))]) (rfl) ?_
    subst hQ
    exact V_vret hC hr hlk (by decide) (by decide) dX3_keep_58 (()) [0, 1, 2, 3, 4, 5, 6, 7, 8, 9, 10, 11] rfl (by decide) (trivial)
  · refine V_aload_n hC dX3_keep_0 rfl 0 rfl ?_
    refine V_get (ci := 3) (v := .int (nI 1)) hC in_X3 0 rfl cls_X3 1 (by decide) fl_X3_17 rfl dX3_keep_1 ?_
    refine V_aload_n hC dX3_keep_4 rfl 0 rfl ?_
    refine V_get (ci := 3) (v := .ref st) hC in_X3 0 rfl cls_X3 0 (by decide) fl_X3_11 rfl dX3_keep_5 ?_
    refine V_alen (v := (nI 4)) hC 1 1 rfl rfl rfl dX3_keep_8 ?_
    refine V_icmp_lt_T (tgt := 16) hC dX3_keep_9 (by decide) (nI_lt (by omega) (by omega)) ?_
    refine V_aload_n hC dX3_keep_16 rfl 0 rfl ?_
    refine V_get (ci := 3) (v := .int (nI 1)) hC in_X3 0 rfl cls_X3 1 (by decide) fl_X3_17 rfl dX3_keep_17 ?_
    refine V_if_lt_F (tgt := 58) hC dX3_keep_20 (by decide) (nI_pos (by omega)) ?_
    refine V_aload_n hC dX3_keep_23 rfl 0 rfl ?_
    refine V_get (ci := 3) (v := .int (nI 1)) hC in_X3 0 rfl cls_X3 1 (by decide) fl_X3_17 rfl dX3_keep_24 ?_
    refine V_aload_n hC dX3_keep_27 rfl 0 rfl ?_
    refine V_get (ci := 3) (v := .ref st) hC in_X3 0 rfl cls_X3 0 (by decide) fl_X3_11 rfl dX3_keep_28 ?_
    refine V_alen (v := (nI 4)) hC 1 1 rfl rfl rfl dX3_keep_31 ?_
    refine V_icmp_ge_F (tgt := 58) hC dX3_keep_32 (by decide) (nI_ge (by omega) (by omega)) ?_
    refine V_aload_n hC dX3_keep_35 rfl 1 rfl ?_
    refine V_aload_n hC dX3_keep_36 rfl 0 rfl ?_
    refine V_get (ci := 3) (v := .ref st) hC in_X3 0 rfl cls_X3 0 (by decide) fl_X3_11 rfl dX3_keep_37 ?_
    refine V_aload_n hC dX3_keep_40 rfl 0 rfl ?_
    refine V_get (ci := 3) (v := .int (nI 1)) hC in_X3 0 rfl cls_X3 1 (by decide) fl_X3_17 rfl dX3_keep_41 ?_
    refine V_aldq (v := .ref m1) hC 1 1 rfl rfl (by decide) (by decide) rfl dX3_keep_44 ?_
    refine V_callvS (As := [.ref x, .ref m1]) (rest := []) (wr := [(o, .inr (3, [.ref st, .int (nI 1)])), (st, .inl (cQ, 4, .inr (.inr (.inr (.inr (hq m0 m1 m2 m3)))))), (m0, .inr (4, [.ref r0, .int (nI (NS 0)), .int (nI (ES 0)), .int (nI (PS 0)), .int (nI (BS 0))])), (r0, .inl (cI, 40, .inl (fun j => nI ((G 0) j)))), (m2, .inr (4, [.ref r2, .int (nI (NS 2)), .int (nI (ES 2)), .int (nI (PS 2)), .int (nI (BS 2))])), (r2, .inl (cI, 40, .inl (fun j => nI ((G 2) j)))), (m3, .inr (4, [.ref r3, .int (nI (NS 3)), .int (nI (ES 3)), .int (nI (PS 3)), .int (nI (BS 3))])), (r3, .inl (cI, 40, .inl (fun j => nI ((G 3) j))))]) hC (c_X3_copy l D cI cQ m1 r1 (NS 1) (ES 1) (PS 1) (BS 1) x xr n e p b (G 1) g (he)) mok_X3_copy ml_X3_25 rfl rfl rfl (by decide) (by decide) (by decide) (Nat.le_of_ble_eq_true rfl) [4, 5, 10, 11] [0, 1, 2, 3, 6, 7, 8, 9] rfl (by decide) rfl (by decide) (by decide) dX3_keep_45 rfl (fun u9 h45 => ?_)
    clear h45
    refine V_perm (ws2 := [(o, .inr (3, [.ref st, .int (nI 1)])), (st, .inl (cQ, 4, .inr (.inr (.inr (.inr (hq m0 m1 m2 m3)))))), (m0, .inr (4, [.ref r0, .int (nI (NS 0)), .int (nI (ES 0)), .int (nI (PS 0)), .int (nI (BS 0))])), (r0, .inl (cI, 40, .inl (fun j => nI ((G 0) j)))), (m1, .inr (4, [.ref r1, .int (nI n), .int (nI e), .int (nI p), .int (nI b)])), (r1, .inl (cI, 40, .inl (fun j => nI (g j)))), (m2, .inr (4, [.ref r2, .int (nI (NS 2)), .int (nI (ES 2)), .int (nI (PS 2)), .int (nI (BS 2))])), (r2, .inl (cI, 40, .inl (fun j => nI ((G 2) j)))), (m3, .inr (4, [.ref r3, .int (nI (NS 3)), .int (nI (ES 3)), .int (nI (PS 3)), .int (nI (BS 3))])), (r3, .inl (cI, 40, .inl (fun j => nI ((G 3) j)))), (x, .inr (4, [.ref xr, .int (nI n), .int (nI e), .int (nI p), .int (nI b)])), (xr, .inl (cI, 40, .inl (fun j => nI (g j))))]) [0, 1, 2, 3, 8, 9, 4, 5, 6, 7, 10, 11] rfl (by decide) ?_
    refine V_aload_n hC dX3_keep_48 rfl 0 rfl ?_
    refine V_dup hC dX3_keep_49 rfl ?_
    refine V_get (ci := 3) (v := .int (nI 1)) hC in_X3 0 rfl cls_X3 1 (by decide) fl_X3_17 rfl dX3_keep_50 ?_
    refine V_iconst (v := nI 1) hC dX3_keep_53 (by decide) ?_
    refine V_iadd hC dX3_keep_54 ?_
    refine V_put (ci := 3) (v := .int (nI 2)) hC tyX3 tyX3_ok nmX3 in_X3 0 rfl cls_X3 1 (by decide) fl_X3_17 rfl rfl rfl (Nat.le_of_ble_eq_true rfl) dX3_keep_55 (ws2 := [(o, .inr (3, [.ref st, .int (nI 2)])), (st, .inl (cQ, 4, .inr (.inr (.inr (.inr (hq m0 m1 m2 m3)))))), (m0, .inr (4, [.ref r0, .int (nI (NS 0)), .int (nI (ES 0)), .int (nI (PS 0)), .int (nI (BS 0))])), (r0, .inl (cI, 40, .inl (fun j => nI ((G 0) j)))), (m1, .inr (4, [.ref r1, .int (nI n), .int (nI e), .int (nI p), .int (nI b)])), (r1, .inl (cI, 40, .inl (fun j => nI (g j)))), (m2, .inr (4, [.ref r2, .int (nI (NS 2)), .int (nI (ES 2)), .int (nI (PS 2)), .int (nI (BS 2))])), (r2, .inl (cI, 40, .inl (fun j => nI ((G 2) j)))), (m3, .inr (4, [.ref r3, .int (nI (NS 3)), .int (nI (ES 3)), .int (nI (PS 3)), .int (nI (BS 3))])), (r3, .inl (cI, 40, .inl (fun j => nI ((G 3) j)))), (x, .inr (4, [.ref xr, .int (nI n), .int (nI e), .int (nI p), .int (nI b)])), (xr, .inl (cI, 40, .inl (fun j => nI (g j))))]) rfl ?_
    refine V_ws (ws2 := [(o, .inr (3, [.ref st, .int (nI (hsz 1))])), (st, .inl (cQ, 4, .inr (.inr (.inr (.inr (hq m0 m1 m2 m3)))))), (m0, .inr (4, [.ref r0, .int (nI (hup NS 1 n 0)), .int (nI (hup ES 1 e 0)), .int (nI (hup PS 1 p 0)), .int (nI (hup BS 1 b 0))])), (r0, .inl (cI, 40, .inl (fun j => nI ((hup G 1 g 0) j)))), (m1, .inr (4, [.ref r1, .int (nI (hup NS 1 n 1)), .int (nI (hup ES 1 e 1)), .int (nI (hup PS 1 p 1)), .int (nI (hup BS 1 b 1))])), (r1, .inl (cI, 40, .inl (fun j => nI ((hup G 1 g 1) j)))), (m2, .inr (4, [.ref r2, .int (nI (hup NS 1 n 2)), .int (nI (hup ES 1 e 2)), .int (nI (hup PS 1 p 2)), .int (nI (hup BS 1 b 2))])), (r2, .inl (cI, 40, .inl (fun j => nI ((hup G 1 g 2) j)))), (m3, .inr (4, [.ref r3, .int (nI (hup NS 1 n 3)), .int (nI (hup ES 1 e 3)), .int (nI (hup PS 1 p 3)), .int (nI (hup BS 1 b 3))])), (r3, .inl (cI, 40, .inl (fun j => nI ((hup G 1 g 3) j)))), (x, .inr (4, [.ref xr, .int (nI n), .int (nI e), .int (nI p), .int (nI b)])), (xr, .inl (cI, 40, .inl (fun j => nI (g j))))]) (rfl) ?_
    subst hQ
    exact V_vret hC hr hlk (by decide) (by decide) dX3_keep_58 (()) [0, 1, 2, 3, 4, 5, 6, 7, 8, 9, 10, 11] rfl (by decide) (trivial)
  · refine V_aload_n hC dX3_keep_0 rfl 0 rfl ?_
    refine V_get (ci := 3) (v := .int (nI 2)) hC in_X3 0 rfl cls_X3 1 (by decide) fl_X3_17 rfl dX3_keep_1 ?_
    refine V_aload_n hC dX3_keep_4 rfl 0 rfl ?_
    refine V_get (ci := 3) (v := .ref st) hC in_X3 0 rfl cls_X3 0 (by decide) fl_X3_11 rfl dX3_keep_5 ?_
    refine V_alen (v := (nI 4)) hC 1 1 rfl rfl rfl dX3_keep_8 ?_
    refine V_icmp_lt_T (tgt := 16) hC dX3_keep_9 (by decide) (nI_lt (by omega) (by omega)) ?_
    refine V_aload_n hC dX3_keep_16 rfl 0 rfl ?_
    refine V_get (ci := 3) (v := .int (nI 2)) hC in_X3 0 rfl cls_X3 1 (by decide) fl_X3_17 rfl dX3_keep_17 ?_
    refine V_if_lt_F (tgt := 58) hC dX3_keep_20 (by decide) (nI_pos (by omega)) ?_
    refine V_aload_n hC dX3_keep_23 rfl 0 rfl ?_
    refine V_get (ci := 3) (v := .int (nI 2)) hC in_X3 0 rfl cls_X3 1 (by decide) fl_X3_17 rfl dX3_keep_24 ?_
    refine V_aload_n hC dX3_keep_27 rfl 0 rfl ?_
    refine V_get (ci := 3) (v := .ref st) hC in_X3 0 rfl cls_X3 0 (by decide) fl_X3_11 rfl dX3_keep_28 ?_
    refine V_alen (v := (nI 4)) hC 1 1 rfl rfl rfl dX3_keep_31 ?_
    refine V_icmp_ge_F (tgt := 58) hC dX3_keep_32 (by decide) (nI_ge (by omega) (by omega)) ?_
    refine V_aload_n hC dX3_keep_35 rfl 1 rfl ?_
    refine V_aload_n hC dX3_keep_36 rfl 0 rfl ?_
    refine V_get (ci := 3) (v := .ref st) hC in_X3 0 rfl cls_X3 0 (by decide) fl_X3_11 rfl dX3_keep_37 ?_
    refine V_aload_n hC dX3_keep_40 rfl 0 rfl ?_
    refine V_get (ci := 3) (v := .int (nI 2)) hC in_X3 0 rfl cls_X3 1 (by decide) fl_X3_17 rfl dX3_keep_41 ?_
    refine V_aldq (v := .ref m2) hC 1 1 rfl rfl (by decide) (by decide) rfl dX3_keep_44 ?_
    refine V_callvS (As := [.ref x, .ref m2]) (rest := []) (wr := [(o, .inr (3, [.ref st, .int (nI 2)])), (st, .inl (cQ, 4, .inr (.inr (.inr (.inr (hq m0 m1 m2 m3)))))), (m0, .inr (4, [.ref r0, .int (nI (NS 0)), .int (nI (ES 0)), .int (nI (PS 0)), .int (nI (BS 0))])), (r0, .inl (cI, 40, .inl (fun j => nI ((G 0) j)))), (m1, .inr (4, [.ref r1, .int (nI (NS 1)), .int (nI (ES 1)), .int (nI (PS 1)), .int (nI (BS 1))])), (r1, .inl (cI, 40, .inl (fun j => nI ((G 1) j)))), (m3, .inr (4, [.ref r3, .int (nI (NS 3)), .int (nI (ES 3)), .int (nI (PS 3)), .int (nI (BS 3))])), (r3, .inl (cI, 40, .inl (fun j => nI ((G 3) j))))]) hC (c_X3_copy l D cI cQ m2 r2 (NS 2) (ES 2) (PS 2) (BS 2) x xr n e p b (G 2) g (he)) mok_X3_copy ml_X3_25 rfl rfl rfl (by decide) (by decide) (by decide) (Nat.le_of_ble_eq_true rfl) [6, 7, 10, 11] [0, 1, 2, 3, 4, 5, 8, 9] rfl (by decide) rfl (by decide) (by decide) dX3_keep_45 rfl (fun u9 h45 => ?_)
    clear h45
    refine V_perm (ws2 := [(o, .inr (3, [.ref st, .int (nI 2)])), (st, .inl (cQ, 4, .inr (.inr (.inr (.inr (hq m0 m1 m2 m3)))))), (m0, .inr (4, [.ref r0, .int (nI (NS 0)), .int (nI (ES 0)), .int (nI (PS 0)), .int (nI (BS 0))])), (r0, .inl (cI, 40, .inl (fun j => nI ((G 0) j)))), (m1, .inr (4, [.ref r1, .int (nI (NS 1)), .int (nI (ES 1)), .int (nI (PS 1)), .int (nI (BS 1))])), (r1, .inl (cI, 40, .inl (fun j => nI ((G 1) j)))), (m2, .inr (4, [.ref r2, .int (nI n), .int (nI e), .int (nI p), .int (nI b)])), (r2, .inl (cI, 40, .inl (fun j => nI (g j)))), (m3, .inr (4, [.ref r3, .int (nI (NS 3)), .int (nI (ES 3)), .int (nI (PS 3)), .int (nI (BS 3))])), (r3, .inl (cI, 40, .inl (fun j => nI ((G 3) j)))), (x, .inr (4, [.ref xr, .int (nI n), .int (nI e), .int (nI p), .int (nI b)])), (xr, .inl (cI, 40, .inl (fun j => nI (g j))))]) [0, 1, 2, 3, 4, 5, 8, 9, 6, 7, 10, 11] rfl (by decide) ?_
    refine V_aload_n hC dX3_keep_48 rfl 0 rfl ?_
    refine V_dup hC dX3_keep_49 rfl ?_
    refine V_get (ci := 3) (v := .int (nI 2)) hC in_X3 0 rfl cls_X3 1 (by decide) fl_X3_17 rfl dX3_keep_50 ?_
    refine V_iconst (v := nI 1) hC dX3_keep_53 (by decide) ?_
    refine V_iadd hC dX3_keep_54 ?_
    refine V_put (ci := 3) (v := .int (nI 3)) hC tyX3 tyX3_ok nmX3 in_X3 0 rfl cls_X3 1 (by decide) fl_X3_17 rfl rfl rfl (Nat.le_of_ble_eq_true rfl) dX3_keep_55 (ws2 := [(o, .inr (3, [.ref st, .int (nI 3)])), (st, .inl (cQ, 4, .inr (.inr (.inr (.inr (hq m0 m1 m2 m3)))))), (m0, .inr (4, [.ref r0, .int (nI (NS 0)), .int (nI (ES 0)), .int (nI (PS 0)), .int (nI (BS 0))])), (r0, .inl (cI, 40, .inl (fun j => nI ((G 0) j)))), (m1, .inr (4, [.ref r1, .int (nI (NS 1)), .int (nI (ES 1)), .int (nI (PS 1)), .int (nI (BS 1))])), (r1, .inl (cI, 40, .inl (fun j => nI ((G 1) j)))), (m2, .inr (4, [.ref r2, .int (nI n), .int (nI e), .int (nI p), .int (nI b)])), (r2, .inl (cI, 40, .inl (fun j => nI (g j)))), (m3, .inr (4, [.ref r3, .int (nI (NS 3)), .int (nI (ES 3)), .int (nI (PS 3)), .int (nI (BS 3))])), (r3, .inl (cI, 40, .inl (fun j => nI ((G 3) j)))), (x, .inr (4, [.ref xr, .int (nI n), .int (nI e), .int (nI p), .int (nI b)])), (xr, .inl (cI, 40, .inl (fun j => nI (g j))))]) rfl ?_
    refine V_ws (ws2 := [(o, .inr (3, [.ref st, .int (nI (hsz 2))])), (st, .inl (cQ, 4, .inr (.inr (.inr (.inr (hq m0 m1 m2 m3)))))), (m0, .inr (4, [.ref r0, .int (nI (hup NS 2 n 0)), .int (nI (hup ES 2 e 0)), .int (nI (hup PS 2 p 0)), .int (nI (hup BS 2 b 0))])), (r0, .inl (cI, 40, .inl (fun j => nI ((hup G 2 g 0) j)))), (m1, .inr (4, [.ref r1, .int (nI (hup NS 2 n 1)), .int (nI (hup ES 2 e 1)), .int (nI (hup PS 2 p 1)), .int (nI (hup BS 2 b 1))])), (r1, .inl (cI, 40, .inl (fun j => nI ((hup G 2 g 1) j)))), (m2, .inr (4, [.ref r2, .int (nI (hup NS 2 n 2)), .int (nI (hup ES 2 e 2)), .int (nI (hup PS 2 p 2)), .int (nI (hup BS 2 b 2))])), (r2, .inl (cI, 40, .inl (fun j => nI ((hup G 2 g 2) j)))), (m3, .inr (4, [.ref r3, .int (nI (hup NS 2 n 3)), .int (nI (hup ES 2 e 3)), .int (nI (hup PS 2 p 3)), .int (nI (hup BS 2 b 3))])), (r3, .inl (cI, 40, .inl (fun j => nI ((hup G 2 g 3) j)))), (x, .inr (4, [.ref xr, .int (nI n), .int (nI e), .int (nI p), .int (nI b)])), (xr, .inl (cI, 40, .inl (fun j => nI (g j))))]) (rfl) ?_
    subst hQ
    exact V_vret hC hr hlk (by decide) (by decide) dX3_keep_58 (()) [0, 1, 2, 3, 4, 5, 6, 7, 8, 9, 10, 11] rfl (by decide) (trivial)
  · refine V_aload_n hC dX3_keep_0 rfl 0 rfl ?_
    refine V_get (ci := 3) (v := .int (nI 3)) hC in_X3 0 rfl cls_X3 1 (by decide) fl_X3_17 rfl dX3_keep_1 ?_
    refine V_aload_n hC dX3_keep_4 rfl 0 rfl ?_
    refine V_get (ci := 3) (v := .ref st) hC in_X3 0 rfl cls_X3 0 (by decide) fl_X3_11 rfl dX3_keep_5 ?_
    refine V_alen (v := (nI 4)) hC 1 1 rfl rfl rfl dX3_keep_8 ?_
    refine V_icmp_lt_T (tgt := 16) hC dX3_keep_9 (by decide) (nI_lt (by omega) (by omega)) ?_
    refine V_aload_n hC dX3_keep_16 rfl 0 rfl ?_
    refine V_get (ci := 3) (v := .int (nI 3)) hC in_X3 0 rfl cls_X3 1 (by decide) fl_X3_17 rfl dX3_keep_17 ?_
    refine V_if_lt_F (tgt := 58) hC dX3_keep_20 (by decide) (nI_pos (by omega)) ?_
    refine V_aload_n hC dX3_keep_23 rfl 0 rfl ?_
    refine V_get (ci := 3) (v := .int (nI 3)) hC in_X3 0 rfl cls_X3 1 (by decide) fl_X3_17 rfl dX3_keep_24 ?_
    refine V_aload_n hC dX3_keep_27 rfl 0 rfl ?_
    refine V_get (ci := 3) (v := .ref st) hC in_X3 0 rfl cls_X3 0 (by decide) fl_X3_11 rfl dX3_keep_28 ?_
    refine V_alen (v := (nI 4)) hC 1 1 rfl rfl rfl dX3_keep_31 ?_
    refine V_icmp_ge_F (tgt := 58) hC dX3_keep_32 (by decide) (nI_ge (by omega) (by omega)) ?_
    refine V_aload_n hC dX3_keep_35 rfl 1 rfl ?_
    refine V_aload_n hC dX3_keep_36 rfl 0 rfl ?_
    refine V_get (ci := 3) (v := .ref st) hC in_X3 0 rfl cls_X3 0 (by decide) fl_X3_11 rfl dX3_keep_37 ?_
    refine V_aload_n hC dX3_keep_40 rfl 0 rfl ?_
    refine V_get (ci := 3) (v := .int (nI 3)) hC in_X3 0 rfl cls_X3 1 (by decide) fl_X3_17 rfl dX3_keep_41 ?_
    refine V_aldq (v := .ref m3) hC 1 1 rfl rfl (by decide) (by decide) rfl dX3_keep_44 ?_
    refine V_callvS (As := [.ref x, .ref m3]) (rest := []) (wr := [(o, .inr (3, [.ref st, .int (nI 3)])), (st, .inl (cQ, 4, .inr (.inr (.inr (.inr (hq m0 m1 m2 m3)))))), (m0, .inr (4, [.ref r0, .int (nI (NS 0)), .int (nI (ES 0)), .int (nI (PS 0)), .int (nI (BS 0))])), (r0, .inl (cI, 40, .inl (fun j => nI ((G 0) j)))), (m1, .inr (4, [.ref r1, .int (nI (NS 1)), .int (nI (ES 1)), .int (nI (PS 1)), .int (nI (BS 1))])), (r1, .inl (cI, 40, .inl (fun j => nI ((G 1) j)))), (m2, .inr (4, [.ref r2, .int (nI (NS 2)), .int (nI (ES 2)), .int (nI (PS 2)), .int (nI (BS 2))])), (r2, .inl (cI, 40, .inl (fun j => nI ((G 2) j))))]) hC (c_X3_copy l D cI cQ m3 r3 (NS 3) (ES 3) (PS 3) (BS 3) x xr n e p b (G 3) g (he)) mok_X3_copy ml_X3_25 rfl rfl rfl (by decide) (by decide) (by decide) (Nat.le_of_ble_eq_true rfl) [8, 9, 10, 11] [0, 1, 2, 3, 4, 5, 6, 7] rfl (by decide) rfl (by decide) (by decide) dX3_keep_45 rfl (fun u9 h45 => ?_)
    clear h45
    refine V_perm (ws2 := [(o, .inr (3, [.ref st, .int (nI 3)])), (st, .inl (cQ, 4, .inr (.inr (.inr (.inr (hq m0 m1 m2 m3)))))), (m0, .inr (4, [.ref r0, .int (nI (NS 0)), .int (nI (ES 0)), .int (nI (PS 0)), .int (nI (BS 0))])), (r0, .inl (cI, 40, .inl (fun j => nI ((G 0) j)))), (m1, .inr (4, [.ref r1, .int (nI (NS 1)), .int (nI (ES 1)), .int (nI (PS 1)), .int (nI (BS 1))])), (r1, .inl (cI, 40, .inl (fun j => nI ((G 1) j)))), (m2, .inr (4, [.ref r2, .int (nI (NS 2)), .int (nI (ES 2)), .int (nI (PS 2)), .int (nI (BS 2))])), (r2, .inl (cI, 40, .inl (fun j => nI ((G 2) j)))), (m3, .inr (4, [.ref r3, .int (nI n), .int (nI e), .int (nI p), .int (nI b)])), (r3, .inl (cI, 40, .inl (fun j => nI (g j)))), (x, .inr (4, [.ref xr, .int (nI n), .int (nI e), .int (nI p), .int (nI b)])), (xr, .inl (cI, 40, .inl (fun j => nI (g j))))]) [0, 1, 2, 3, 4, 5, 6, 7, 8, 9, 10, 11] rfl (by decide) ?_
    refine V_aload_n hC dX3_keep_48 rfl 0 rfl ?_
    refine V_dup hC dX3_keep_49 rfl ?_
    refine V_get (ci := 3) (v := .int (nI 3)) hC in_X3 0 rfl cls_X3 1 (by decide) fl_X3_17 rfl dX3_keep_50 ?_
    refine V_iconst (v := nI 1) hC dX3_keep_53 (by decide) ?_
    refine V_iadd hC dX3_keep_54 ?_
    refine V_put (ci := 3) (v := .int (nI 4)) hC tyX3 tyX3_ok nmX3 in_X3 0 rfl cls_X3 1 (by decide) fl_X3_17 rfl rfl rfl (Nat.le_of_ble_eq_true rfl) dX3_keep_55 (ws2 := [(o, .inr (3, [.ref st, .int (nI 4)])), (st, .inl (cQ, 4, .inr (.inr (.inr (.inr (hq m0 m1 m2 m3)))))), (m0, .inr (4, [.ref r0, .int (nI (NS 0)), .int (nI (ES 0)), .int (nI (PS 0)), .int (nI (BS 0))])), (r0, .inl (cI, 40, .inl (fun j => nI ((G 0) j)))), (m1, .inr (4, [.ref r1, .int (nI (NS 1)), .int (nI (ES 1)), .int (nI (PS 1)), .int (nI (BS 1))])), (r1, .inl (cI, 40, .inl (fun j => nI ((G 1) j)))), (m2, .inr (4, [.ref r2, .int (nI (NS 2)), .int (nI (ES 2)), .int (nI (PS 2)), .int (nI (BS 2))])), (r2, .inl (cI, 40, .inl (fun j => nI ((G 2) j)))), (m3, .inr (4, [.ref r3, .int (nI n), .int (nI e), .int (nI p), .int (nI b)])), (r3, .inl (cI, 40, .inl (fun j => nI (g j)))), (x, .inr (4, [.ref xr, .int (nI n), .int (nI e), .int (nI p), .int (nI b)])), (xr, .inl (cI, 40, .inl (fun j => nI (g j))))]) rfl ?_
    refine V_ws (ws2 := [(o, .inr (3, [.ref st, .int (nI (hsz 3))])), (st, .inl (cQ, 4, .inr (.inr (.inr (.inr (hq m0 m1 m2 m3)))))), (m0, .inr (4, [.ref r0, .int (nI (hup NS 3 n 0)), .int (nI (hup ES 3 e 0)), .int (nI (hup PS 3 p 0)), .int (nI (hup BS 3 b 0))])), (r0, .inl (cI, 40, .inl (fun j => nI ((hup G 3 g 0) j)))), (m1, .inr (4, [.ref r1, .int (nI (hup NS 3 n 1)), .int (nI (hup ES 3 e 1)), .int (nI (hup PS 3 p 1)), .int (nI (hup BS 3 b 1))])), (r1, .inl (cI, 40, .inl (fun j => nI ((hup G 3 g 1) j)))), (m2, .inr (4, [.ref r2, .int (nI (hup NS 3 n 2)), .int (nI (hup ES 3 e 2)), .int (nI (hup PS 3 p 2)), .int (nI (hup BS 3 b 2))])), (r2, .inl (cI, 40, .inl (fun j => nI ((hup G 3 g 2) j)))), (m3, .inr (4, [.ref r3, .int (nI (hup NS 3 n 3)), .int (nI (hup ES 3 e 3)), .int (nI (hup PS 3 p 3)), .int (nI (hup BS 3 b 3))])), (r3, .inl (cI, 40, .inl (fun j => nI ((hup G 3 g 3) j)))), (x, .inr (4, [.ref xr, .int (nI n), .int (nI e), .int (nI p), .int (nI b)])), (xr, .inl (cI, 40, .inl (fun j => nI (g j))))]) (rfl) ?_
    subst hQ
    exact V_vret hC hr hlk (by decide) (by decide) dX3_keep_58 (()) [0, 1, 2, 3, 4, 5, 6, 7, 8, 9, 10, 11] rfl (by decide) (trivial)
  · refine V_aload_n hC dX3_keep_0 rfl 0 rfl ?_
    refine V_get (ci := 3) (v := .int (nI 4)) hC in_X3 0 rfl cls_X3 1 (by decide) fl_X3_17 rfl dX3_keep_1 ?_
    refine V_aload_n hC dX3_keep_4 rfl 0 rfl ?_
    refine V_get (ci := 3) (v := .ref st) hC in_X3 0 rfl cls_X3 0 (by decide) fl_X3_11 rfl dX3_keep_5 ?_
    refine V_alen (v := (nI 4)) hC 1 1 rfl rfl rfl dX3_keep_8 ?_
    refine V_icmp_lt_F (tgt := 16) hC dX3_keep_9 (by decide) (nI_nlt (by omega) (by omega)) ?_
    refine V_aload_n hC dX3_keep_12 rfl 0 rfl ?_
    refine V_callvV (As := []) (rest := []) (wr := [(x, .inr (4, [.ref xr, .int (nI n), .int (nI e), .int (nI p), .int (nI b)])), (xr, .inl (cI, 40, .inl (fun j => nI (g j))))]) hC (c_X3_dropOldest l D cI cQ o st 4 _ r0 _ r1 _ r2 _ r3 _ _ _ _ _ (hES)) mok_X3_dropOldest ml_X3_22 (q1 := 0) rfl cls_X3 rfl rfl rfl (by decide) (by decide) (by decide) (Nat.le_of_ble_eq_true rfl) [0, 1, 2, 3, 4, 5, 6, 7, 8, 9] [10, 11] rfl (by decide) rfl (by decide) (by decide) dX3_keep_13 rfl (fun u9 h13 => ?_)
    clear h13
    refine V_perm (ws2 := [(o, .inr (3, [.ref st, .int (nI 3)])), (st, .inl (cQ, 4, .inr (.inr (.inr (.inr (hq m0 m1 m2 m3)))))), (m0, .inr (4, [.ref r0, .int (nI (NS 1)), .int (nI (ES 1)), .int (nI (PS 1)), .int (nI (BS 1))])), (r0, .inl (cI, 40, .inl (fun j => nI ((G 1) j)))), (m1, .inr (4, [.ref r1, .int (nI (NS 2)), .int (nI (ES 2)), .int (nI (PS 2)), .int (nI (BS 2))])), (r1, .inl (cI, 40, .inl (fun j => nI ((G 2) j)))), (m2, .inr (4, [.ref r2, .int (nI (NS 3)), .int (nI (ES 3)), .int (nI (PS 3)), .int (nI (BS 3))])), (r2, .inl (cI, 40, .inl (fun j => nI ((G 3) j)))), (m3, .inr (4, [.ref r3, .int (nI (NS 3)), .int (nI (ES 3)), .int (nI (PS 3)), .int (nI (BS 3))])), (r3, .inl (cI, 40, .inl (fun j => nI ((G 3) j)))), (x, .inr (4, [.ref xr, .int (nI n), .int (nI e), .int (nI p), .int (nI b)])), (xr, .inl (cI, 40, .inl (fun j => nI (g j))))]) [2, 3, 4, 5, 6, 7, 8, 9, 10, 11, 0, 1] rfl (by decide) ?_
    refine V_aload_n hC dX3_keep_16 rfl 0 rfl ?_
    refine V_get (ci := 3) (v := .int (nI 3)) hC in_X3 0 rfl cls_X3 1 (by decide) fl_X3_17 rfl dX3_keep_17 ?_
    refine V_if_lt_F (tgt := 58) hC dX3_keep_20 (by decide) (nI_pos (by omega)) ?_
    refine V_aload_n hC dX3_keep_23 rfl 0 rfl ?_
    refine V_get (ci := 3) (v := .int (nI 3)) hC in_X3 0 rfl cls_X3 1 (by decide) fl_X3_17 rfl dX3_keep_24 ?_
    refine V_aload_n hC dX3_keep_27 rfl 0 rfl ?_
    refine V_get (ci := 3) (v := .ref st) hC in_X3 0 rfl cls_X3 0 (by decide) fl_X3_11 rfl dX3_keep_28 ?_
    refine V_alen (v := (nI 4)) hC 1 1 rfl rfl rfl dX3_keep_31 ?_
    refine V_icmp_ge_F (tgt := 58) hC dX3_keep_32 (by decide) (nI_ge (by omega) (by omega)) ?_
    refine V_aload_n hC dX3_keep_35 rfl 1 rfl ?_
    refine V_aload_n hC dX3_keep_36 rfl 0 rfl ?_
    refine V_get (ci := 3) (v := .ref st) hC in_X3 0 rfl cls_X3 0 (by decide) fl_X3_11 rfl dX3_keep_37 ?_
    refine V_aload_n hC dX3_keep_40 rfl 0 rfl ?_
    refine V_get (ci := 3) (v := .int (nI 3)) hC in_X3 0 rfl cls_X3 1 (by decide) fl_X3_17 rfl dX3_keep_41 ?_
    refine V_aldq (v := .ref m3) hC 1 1 rfl rfl (by decide) (by decide) rfl dX3_keep_44 ?_
    refine V_callvS (As := [.ref x, .ref m3]) (rest := []) (wr := [(o, .inr (3, [.ref st, .int (nI 3)])), (st, .inl (cQ, 4, .inr (.inr (.inr (.inr (hq m0 m1 m2 m3)))))), (m0, .inr (4, [.ref r0, .int (nI (NS 1)), .int (nI (ES 1)), .int (nI (PS 1)), .int (nI (BS 1))])), (r0, .inl (cI, 40, .inl (fun j => nI ((G 1) j)))), (m1, .inr (4, [.ref r1, .int (nI (NS 2)), .int (nI (ES 2)), .int (nI (PS 2)), .int (nI (BS 2))])), (r1, .inl (cI, 40, .inl (fun j => nI ((G 2) j)))), (m2, .inr (4, [.ref r2, .int (nI (NS 3)), .int (nI (ES 3)), .int (nI (PS 3)), .int (nI (BS 3))])), (r2, .inl (cI, 40, .inl (fun j => nI ((G 3) j))))]) hC (c_X3_copy l D cI cQ m3 r3 (NS 3) (ES 3) (PS 3) (BS 3) x xr n e p b (G 3) g (he)) mok_X3_copy ml_X3_25 rfl rfl rfl (by decide) (by decide) (by decide) (Nat.le_of_ble_eq_true rfl) [8, 9, 10, 11] [0, 1, 2, 3, 4, 5, 6, 7] rfl (by decide) rfl (by decide) (by decide) dX3_keep_45 rfl (fun u9 h45 => ?_)
    clear h45
    refine V_perm (ws2 := [(o, .inr (3, [.ref st, .int (nI 3)])), (st, .inl (cQ, 4, .inr (.inr (.inr (.inr (hq m0 m1 m2 m3)))))), (m0, .inr (4, [.ref r0, .int (nI (NS 1)), .int (nI (ES 1)), .int (nI (PS 1)), .int (nI (BS 1))])), (r0, .inl (cI, 40, .inl (fun j => nI ((G 1) j)))), (m1, .inr (4, [.ref r1, .int (nI (NS 2)), .int (nI (ES 2)), .int (nI (PS 2)), .int (nI (BS 2))])), (r1, .inl (cI, 40, .inl (fun j => nI ((G 2) j)))), (m2, .inr (4, [.ref r2, .int (nI (NS 3)), .int (nI (ES 3)), .int (nI (PS 3)), .int (nI (BS 3))])), (r2, .inl (cI, 40, .inl (fun j => nI ((G 3) j)))), (m3, .inr (4, [.ref r3, .int (nI n), .int (nI e), .int (nI p), .int (nI b)])), (r3, .inl (cI, 40, .inl (fun j => nI (g j)))), (x, .inr (4, [.ref xr, .int (nI n), .int (nI e), .int (nI p), .int (nI b)])), (xr, .inl (cI, 40, .inl (fun j => nI (g j))))]) [0, 1, 2, 3, 4, 5, 6, 7, 8, 9, 10, 11] rfl (by decide) ?_
    refine V_aload_n hC dX3_keep_48 rfl 0 rfl ?_
    refine V_dup hC dX3_keep_49 rfl ?_
    refine V_get (ci := 3) (v := .int (nI 3)) hC in_X3 0 rfl cls_X3 1 (by decide) fl_X3_17 rfl dX3_keep_50 ?_
    refine V_iconst (v := nI 1) hC dX3_keep_53 (by decide) ?_
    refine V_iadd hC dX3_keep_54 ?_
    refine V_put (ci := 3) (v := .int (nI 4)) hC tyX3 tyX3_ok nmX3 in_X3 0 rfl cls_X3 1 (by decide) fl_X3_17 rfl rfl rfl (Nat.le_of_ble_eq_true rfl) dX3_keep_55 (ws2 := [(o, .inr (3, [.ref st, .int (nI 4)])), (st, .inl (cQ, 4, .inr (.inr (.inr (.inr (hq m0 m1 m2 m3)))))), (m0, .inr (4, [.ref r0, .int (nI (NS 1)), .int (nI (ES 1)), .int (nI (PS 1)), .int (nI (BS 1))])), (r0, .inl (cI, 40, .inl (fun j => nI ((G 1) j)))), (m1, .inr (4, [.ref r1, .int (nI (NS 2)), .int (nI (ES 2)), .int (nI (PS 2)), .int (nI (BS 2))])), (r1, .inl (cI, 40, .inl (fun j => nI ((G 2) j)))), (m2, .inr (4, [.ref r2, .int (nI (NS 3)), .int (nI (ES 3)), .int (nI (PS 3)), .int (nI (BS 3))])), (r2, .inl (cI, 40, .inl (fun j => nI ((G 3) j)))), (m3, .inr (4, [.ref r3, .int (nI n), .int (nI e), .int (nI p), .int (nI b)])), (r3, .inl (cI, 40, .inl (fun j => nI (g j)))), (x, .inr (4, [.ref xr, .int (nI n), .int (nI e), .int (nI p), .int (nI b)])), (xr, .inl (cI, 40, .inl (fun j => nI (g j))))]) rfl ?_
    refine V_ws (ws2 := [(o, .inr (3, [.ref st, .int (nI (hsz 4))])), (st, .inl (cQ, 4, .inr (.inr (.inr (.inr (hq m0 m1 m2 m3)))))), (m0, .inr (4, [.ref r0, .int (nI (hup NS 4 n 0)), .int (nI (hup ES 4 e 0)), .int (nI (hup PS 4 p 0)), .int (nI (hup BS 4 b 0))])), (r0, .inl (cI, 40, .inl (fun j => nI ((hup G 4 g 0) j)))), (m1, .inr (4, [.ref r1, .int (nI (hup NS 4 n 1)), .int (nI (hup ES 4 e 1)), .int (nI (hup PS 4 p 1)), .int (nI (hup BS 4 b 1))])), (r1, .inl (cI, 40, .inl (fun j => nI ((hup G 4 g 1) j)))), (m2, .inr (4, [.ref r2, .int (nI (hup NS 4 n 2)), .int (nI (hup ES 4 e 2)), .int (nI (hup PS 4 p 2)), .int (nI (hup BS 4 b 2))])), (r2, .inl (cI, 40, .inl (fun j => nI ((hup G 4 g 2) j)))), (m3, .inr (4, [.ref r3, .int (nI (hup NS 4 n 3)), .int (nI (hup ES 4 e 3)), .int (nI (hup PS 4 p 3)), .int (nI (hup BS 4 b 3))])), (r3, .inl (cI, 40, .inl (fun j => nI ((hup G 4 g 3) j)))), (x, .inr (4, [.ref xr, .int (nI n), .int (nI e), .int (nI p), .int (nI b)])), (xr, .inl (cI, 40, .inl (fun j => nI (g j))))]) (rfl) ?_
    subst hQ
    exact V_vret hC hr hlk (by decide) (by decide) dX3_keep_58 (()) [0, 1, 2, 3, 4, 5, 6, 7, 8, 9, 10, 11] rfl (by decide) (trivial)
abbrev rm_X3_restore : Room := { frames := 3, cells := 0, slots := 0, locals := 64 }
set_option maxHeartbeats 4000000 in
set_option maxRecDepth 100000 in
theorem c_X3_restore (l : Launch) (D : va_G) (cI cQ : ClassId) (o st sz m0 r0 m1 r1 m2 r2 m3 r3 : Nat) (G : Nat → Nat → Nat) (NS ES PS BS : Nat → Nat) (x xr n e p b : Nat) (g : Nat → Nat) (hz : 1 ≤ sz ∧ sz ≤ 4) (hES : ∀ j, j < 4 → ES j < 2) : MV l yX3_restore cX3_restore 2 none rm_X3_restore D (TY cI cQ) [.ref o, .ref x] [(o, .inr (3, [.ref st, .int (nI sz)])), (st, .inl (cQ, 4, .inr (.inr (.inr (.inr (hq m0 m1 m2 m3)))))), (m0, .inr (4, [.ref r0, .int (nI (NS 0)), .int (nI (ES 0)), .int (nI (PS 0)), .int (nI (BS 0))])), (r0, .inl (cI, 40, .inl (fun j => nI ((G 0) j)))), (m1, .inr (4, [.ref r1, .int (nI (NS 1)), .int (nI (ES 1)), .int (nI (PS 1)), .int (nI (BS 1))])), (r1, .inl (cI, 40, .inl (fun j => nI ((G 1) j)))), (m2, .inr (4, [.ref r2, .int (nI (NS 2)), .int (nI (ES 2)), .int (nI (PS 2)), .int (nI (BS 2))])), (r2, .inl (cI, 40, .inl (fun j => nI ((G 2) j)))), (m3, .inr (4, [.ref r3, .int (nI (NS 3)), .int (nI (ES 3)), .int (nI (PS 3)), .int (nI (BS 3))])), (r3, .inl (cI, 40, .inl (fun j => nI ((G 3) j)))), (x, .inr (4, [.ref xr, .int (nI n), .int (nI e), .int (nI p), .int (nI b)])), (xr, .inl (cI, 40, .inl (fun j => nI (g j))))] (fun (u : Unit) => True) (fun (u : Unit) => [(o, .inr (3, [.ref st, .int (nI (sz - 1))])), (st, .inl (cQ, 4, .inr (.inr (.inr (.inr (hq m0 m1 m2 m3)))))), (m0, .inr (4, [.ref r0, .int (nI (NS 0)), .int (nI (ES 0)), .int (nI (PS 0)), .int (nI (BS 0))])), (r0, .inl (cI, 40, .inl (fun j => nI ((G 0) j)))), (m1, .inr (4, [.ref r1, .int (nI (NS 1)), .int (nI (ES 1)), .int (nI (PS 1)), .int (nI (BS 1))])), (r1, .inl (cI, 40, .inl (fun j => nI ((G 1) j)))), (m2, .inr (4, [.ref r2, .int (nI (NS 2)), .int (nI (ES 2)), .int (nI (PS 2)), .int (nI (BS 2))])), (r2, .inl (cI, 40, .inl (fun j => nI ((G 2) j)))), (m3, .inr (4, [.ref r3, .int (nI (NS 3)), .int (nI (ES 3)), .int (nI (PS 3)), .int (nI (BS 3))])), (r3, .inl (cI, 40, .inl (fun j => nI ((G 3) j)))), (x, .inr (4, [.ref xr, .int (nI (NS (sz - 1))), .int (nI (ES (sz - 1))), .int (nI (PS (sz - 1))), .int (nI (BS (sz - 1)))])), (xr, .inl (cI, 40, .inl (fun j => nI ((G (sz - 1)) j))))]) 0 0 := by
  refine MV.start (by decide) (Nat.le_of_ble_eq_true rfl) (lv0 := [(0, .ref o), (1, .ref x)]) rfl ?_
  intro pp9 ee9 ss9 mm9 args9 below9 meth9 co9 A9 Q9 hQ hC hr hlk hnm
  rcases (show sz = 1 ∨ sz = 2 ∨ sz = 3 ∨ sz = 4 by omega) with rfl | rfl | rfl | rfl
  · refine V_aload_n hC dX3_restore_0 rfl 0 rfl ?_
    refine V_get (ci := 3) (v := .int (nI 1)) hC in_X3 0 rfl cls_X3 1 (by decide) fl_X3_17 rfl dX3_restore_1 ?_
    refine V_if_le_F (tgt := 42) hC dX3_restore_4 (by decide) (nI_nle (by omega) (by omega)) ?_
    refine V_aload_n hC dX3_restore_7 rfl 0 rfl ?_
    refine V_get (ci := 3) (v := .int (nI 1)) hC in_X3 0 rfl cls_X3 1 (by decide) fl_X3_17 rfl dX3_restore_8 ?_
    refine V_aload_n hC dX3_restore_11 rfl 0 rfl ?_
    refine V_get (ci := 3) (v := .ref st) hC in_X3 0 rfl cls_X3 0 (by decide) fl_X3_11 rfl dX3_restore_12 ?_
    refine V_alen (v := (nI 4)) hC 1 1 rfl rfl rfl dX3_restore_15 ?_
    refine V_icmp_gt_F (tgt := 42) hC dX3_restore_16 (by decide) (nI_nlt (by omega) (by omega)) ?_
    refine V_aload_n hC dX3_restore_19 rfl 0 rfl ?_
    refine V_dup hC dX3_restore_20 rfl ?_
    refine V_get (ci := 3) (v := .int (nI 1)) hC in_X3 0 rfl cls_X3 1 (by decide) fl_X3_17 rfl dX3_restore_21 ?_
    refine V_iconst (v := nI 1) hC dX3_restore_24 (by decide) ?_
    refine V_isub hC dX3_restore_25 (by omega) ?_
    refine V_put (ci := 3) (v := .int (nI 0)) hC tyX3 tyX3_ok nmX3 in_X3 0 rfl cls_X3 1 (by decide) fl_X3_17 rfl rfl rfl (Nat.le_of_ble_eq_true rfl) dX3_restore_26 (ws2 := [(o, .inr (3, [.ref st, .int (nI 0)])), (st, .inl (cQ, 4, .inr (.inr (.inr (.inr (hq m0 m1 m2 m3)))))), (m0, .inr (4, [.ref r0, .int (nI (NS 0)), .int (nI (ES 0)), .int (nI (PS 0)), .int (nI (BS 0))])), (r0, .inl (cI, 40, .inl (fun j => nI ((G 0) j)))), (m1, .inr (4, [.ref r1, .int (nI (NS 1)), .int (nI (ES 1)), .int (nI (PS 1)), .int (nI (BS 1))])), (r1, .inl (cI, 40, .inl (fun j => nI ((G 1) j)))), (m2, .inr (4, [.ref r2, .int (nI (NS 2)), .int (nI (ES 2)), .int (nI (PS 2)), .int (nI (BS 2))])), (r2, .inl (cI, 40, .inl (fun j => nI ((G 2) j)))), (m3, .inr (4, [.ref r3, .int (nI (NS 3)), .int (nI (ES 3)), .int (nI (PS 3)), .int (nI (BS 3))])), (r3, .inl (cI, 40, .inl (fun j => nI ((G 3) j)))), (x, .inr (4, [.ref xr, .int (nI n), .int (nI e), .int (nI p), .int (nI b)])), (xr, .inl (cI, 40, .inl (fun j => nI (g j))))]) rfl ?_
    refine V_aload_n hC dX3_restore_29 rfl 0 rfl ?_
    refine V_get (ci := 3) (v := .ref st) hC in_X3 0 rfl cls_X3 0 (by decide) fl_X3_11 rfl dX3_restore_30 ?_
    refine V_aload_n hC dX3_restore_33 rfl 0 rfl ?_
    refine V_get (ci := 3) (v := .int (nI 0)) hC in_X3 0 rfl cls_X3 1 (by decide) fl_X3_17 rfl dX3_restore_34 ?_
    refine V_aldq (v := .ref m0) hC 1 1 rfl rfl (by decide) (by decide) rfl dX3_restore_37 ?_
    refine V_aload_n hC dX3_restore_38 rfl 1 rfl ?_
    refine V_callvS (As := [.ref m0, .ref x]) (rest := []) (wr := [(o, .inr (3, [.ref st, .int (nI 0)])), (st, .inl (cQ, 4, .inr (.inr (.inr (.inr (hq m0 m1 m2 m3)))))), (m1, .inr (4, [.ref r1, .int (nI (NS 1)), .int (nI (ES 1)), .int (nI (PS 1)), .int (nI (BS 1))])), (r1, .inl (cI, 40, .inl (fun j => nI ((G 1) j)))), (m2, .inr (4, [.ref r2, .int (nI (NS 2)), .int (nI (ES 2)), .int (nI (PS 2)), .int (nI (BS 2))])), (r2, .inl (cI, 40, .inl (fun j => nI ((G 2) j)))), (m3, .inr (4, [.ref r3, .int (nI (NS 3)), .int (nI (ES 3)), .int (nI (PS 3)), .int (nI (BS 3))])), (r3, .inl (cI, 40, .inl (fun j => nI ((G 3) j))))]) hC (c_X3_copy l D cI cQ x xr n e p b m0 r0 (NS 0) (ES 0) (PS 0) (BS 0) g (G 0) (hES _ (by decide))) mok_X3_copy ml_X3_25 rfl rfl rfl (by decide) (by decide) (by decide) (Nat.le_of_ble_eq_true rfl) [10, 11, 2, 3] [0, 1, 4, 5, 6, 7, 8, 9] rfl (by decide) rfl (by decide) (by decide) dX3_restore_39 rfl (fun u9 h39 => ?_)
    clear h39
    refine V_perm (ws2 := [(o, .inr (3, [.ref st, .int (nI 0)])), (st, .inl (cQ, 4, .inr (.inr (.inr (.inr (hq m0 m1 m2 m3)))))), (m0, .inr (4, [.ref r0, .int (nI ((NS 0))), .int (nI ((ES 0))), .int (nI ((PS 0))), .int (nI ((BS 0)))])), (r0, .inl (cI, 40, .inl (fun j => nI (((G 0)) j)))), (m1, .inr (4, [.ref r1, .int (nI (NS 1)), .int (nI (ES 1)), .int (nI (PS 1)), .int (nI (BS 1))])), (r1, .inl (cI, 40, .inl (fun j => nI ((G 1) j)))), (m2, .inr (4, [.ref r2, .int (nI (NS 2)), .int (nI (ES 2)), .int (nI (PS 2)), .int (nI (BS 2))])), (r2, .inl (cI, 40, .inl (fun j => nI ((G 2) j)))), (m3, .inr (4, [.ref r3, .int (nI (NS 3)), .int (nI (ES 3)), .int (nI (PS 3)), .int (nI (BS 3))])), (r3, .inl (cI, 40, .inl (fun j => nI ((G 3) j)))), (x, .inr (4, [.ref xr, .int (nI ((NS 0))), .int (nI ((ES 0))), .int (nI ((PS 0))), .int (nI ((BS 0)))])), (xr, .inl (cI, 40, .inl (fun j => nI (((G 0)) j))))]) [0, 1, 10, 11, 2, 3, 4, 5, 6, 7, 8, 9] rfl (by decide) ?_
    refine V_ws (ws2 := [(o, .inr (3, [.ref st, .int (nI (1 - 1))])), (st, .inl (cQ, 4, .inr (.inr (.inr (.inr (hq m0 m1 m2 m3)))))), (m0, .inr (4, [.ref r0, .int (nI (NS 0)), .int (nI (ES 0)), .int (nI (PS 0)), .int (nI (BS 0))])), (r0, .inl (cI, 40, .inl (fun j => nI ((G 0) j)))), (m1, .inr (4, [.ref r1, .int (nI (NS 1)), .int (nI (ES 1)), .int (nI (PS 1)), .int (nI (BS 1))])), (r1, .inl (cI, 40, .inl (fun j => nI ((G 1) j)))), (m2, .inr (4, [.ref r2, .int (nI (NS 2)), .int (nI (ES 2)), .int (nI (PS 2)), .int (nI (BS 2))])), (r2, .inl (cI, 40, .inl (fun j => nI ((G 2) j)))), (m3, .inr (4, [.ref r3, .int (nI (NS 3)), .int (nI (ES 3)), .int (nI (PS 3)), .int (nI (BS 3))])), (r3, .inl (cI, 40, .inl (fun j => nI ((G 3) j)))), (x, .inr (4, [.ref xr, .int (nI (NS (1 - 1))), .int (nI (ES (1 - 1))), .int (nI (PS (1 - 1))), .int (nI (BS (1 - 1)))])), (xr, .inl (cI, 40, .inl (fun j => nI ((G (1 - 1)) j))))]) (rfl) ?_
    subst hQ
    exact V_vret hC hr hlk (by decide) (by decide) dX3_restore_42 (()) [0, 1, 2, 3, 4, 5, 6, 7, 8, 9, 10, 11] rfl (by decide) (trivial)
  · refine V_aload_n hC dX3_restore_0 rfl 0 rfl ?_
    refine V_get (ci := 3) (v := .int (nI 2)) hC in_X3 0 rfl cls_X3 1 (by decide) fl_X3_17 rfl dX3_restore_1 ?_
    refine V_if_le_F (tgt := 42) hC dX3_restore_4 (by decide) (nI_nle (by omega) (by omega)) ?_
    refine V_aload_n hC dX3_restore_7 rfl 0 rfl ?_
    refine V_get (ci := 3) (v := .int (nI 2)) hC in_X3 0 rfl cls_X3 1 (by decide) fl_X3_17 rfl dX3_restore_8 ?_
    refine V_aload_n hC dX3_restore_11 rfl 0 rfl ?_
    refine V_get (ci := 3) (v := .ref st) hC in_X3 0 rfl cls_X3 0 (by decide) fl_X3_11 rfl dX3_restore_12 ?_
    refine V_alen (v := (nI 4)) hC 1 1 rfl rfl rfl dX3_restore_15 ?_
    refine V_icmp_gt_F (tgt := 42) hC dX3_restore_16 (by decide) (nI_nlt (by omega) (by omega)) ?_
    refine V_aload_n hC dX3_restore_19 rfl 0 rfl ?_
    refine V_dup hC dX3_restore_20 rfl ?_
    refine V_get (ci := 3) (v := .int (nI 2)) hC in_X3 0 rfl cls_X3 1 (by decide) fl_X3_17 rfl dX3_restore_21 ?_
    refine V_iconst (v := nI 1) hC dX3_restore_24 (by decide) ?_
    refine V_isub hC dX3_restore_25 (by omega) ?_
    refine V_put (ci := 3) (v := .int (nI 1)) hC tyX3 tyX3_ok nmX3 in_X3 0 rfl cls_X3 1 (by decide) fl_X3_17 rfl rfl rfl (Nat.le_of_ble_eq_true rfl) dX3_restore_26 (ws2 := [(o, .inr (3, [.ref st, .int (nI 1)])), (st, .inl (cQ, 4, .inr (.inr (.inr (.inr (hq m0 m1 m2 m3)))))), (m0, .inr (4, [.ref r0, .int (nI (NS 0)), .int (nI (ES 0)), .int (nI (PS 0)), .int (nI (BS 0))])), (r0, .inl (cI, 40, .inl (fun j => nI ((G 0) j)))), (m1, .inr (4, [.ref r1, .int (nI (NS 1)), .int (nI (ES 1)), .int (nI (PS 1)), .int (nI (BS 1))])), (r1, .inl (cI, 40, .inl (fun j => nI ((G 1) j)))), (m2, .inr (4, [.ref r2, .int (nI (NS 2)), .int (nI (ES 2)), .int (nI (PS 2)), .int (nI (BS 2))])), (r2, .inl (cI, 40, .inl (fun j => nI ((G 2) j)))), (m3, .inr (4, [.ref r3, .int (nI (NS 3)), .int (nI (ES 3)), .int (nI (PS 3)), .int (nI (BS 3))])), (r3, .inl (cI, 40, .inl (fun j => nI ((G 3) j)))), (x, .inr (4, [.ref xr, .int (nI n), .int (nI e), .int (nI p), .int (nI b)])), (xr, .inl (cI, 40, .inl (fun j => nI (g j))))]) rfl ?_
    refine V_aload_n hC dX3_restore_29 rfl 0 rfl ?_
    refine V_get (ci := 3) (v := .ref st) hC in_X3 0 rfl cls_X3 0 (by decide) fl_X3_11 rfl dX3_restore_30 ?_
    refine V_aload_n hC dX3_restore_33 rfl 0 rfl ?_
    refine V_get (ci := 3) (v := .int (nI 1)) hC in_X3 0 rfl cls_X3 1 (by decide) fl_X3_17 rfl dX3_restore_34 ?_
    refine V_aldq (v := .ref m1) hC 1 1 rfl rfl (by decide) (by decide) rfl dX3_restore_37 ?_
    refine V_aload_n hC dX3_restore_38 rfl 1 rfl ?_
    refine V_callvS (As := [.ref m1, .ref x]) (rest := []) (wr := [(o, .inr (3, [.ref st, .int (nI 1)])), (st, .inl (cQ, 4, .inr (.inr (.inr (.inr (hq m0 m1 m2 m3)))))), (m0, .inr (4, [.ref r0, .int (nI (NS 0)), .int (nI (ES 0)), .int (nI (PS 0)), .int (nI (BS 0))])), (r0, .inl (cI, 40, .inl (fun j => nI ((G 0) j)))), (m2, .inr (4, [.ref r2, .int (nI (NS 2)), .int (nI (ES 2)), .int (nI (PS 2)), .int (nI (BS 2))])), (r2, .inl (cI, 40, .inl (fun j => nI ((G 2) j)))), (m3, .inr (4, [.ref r3, .int (nI (NS 3)), .int (nI (ES 3)), .int (nI (PS 3)), .int (nI (BS 3))])), (r3, .inl (cI, 40, .inl (fun j => nI ((G 3) j))))]) hC (c_X3_copy l D cI cQ x xr n e p b m1 r1 (NS 1) (ES 1) (PS 1) (BS 1) g (G 1) (hES _ (by decide))) mok_X3_copy ml_X3_25 rfl rfl rfl (by decide) (by decide) (by decide) (Nat.le_of_ble_eq_true rfl) [10, 11, 4, 5] [0, 1, 2, 3, 6, 7, 8, 9] rfl (by decide) rfl (by decide) (by decide) dX3_restore_39 rfl (fun u9 h39 => ?_)
    clear h39
    refine V_perm (ws2 := [(o, .inr (3, [.ref st, .int (nI 1)])), (st, .inl (cQ, 4, .inr (.inr (.inr (.inr (hq m0 m1 m2 m3)))))), (m0, .inr (4, [.ref r0, .int (nI (NS 0)), .int (nI (ES 0)), .int (nI (PS 0)), .int (nI (BS 0))])), (r0, .inl (cI, 40, .inl (fun j => nI ((G 0) j)))), (m1, .inr (4, [.ref r1, .int (nI ((NS 1))), .int (nI ((ES 1))), .int (nI ((PS 1))), .int (nI ((BS 1)))])), (r1, .inl (cI, 40, .inl (fun j => nI (((G 1)) j)))), (m2, .inr (4, [.ref r2, .int (nI (NS 2)), .int (nI (ES 2)), .int (nI (PS 2)), .int (nI (BS 2))])), (r2, .inl (cI, 40, .inl (fun j => nI ((G 2) j)))), (m3, .inr (4, [.ref r3, .int (nI (NS 3)), .int (nI (ES 3)), .int (nI (PS 3)), .int (nI (BS 3))])), (r3, .inl (cI, 40, .inl (fun j => nI ((G 3) j)))), (x, .inr (4, [.ref xr, .int (nI ((NS 1))), .int (nI ((ES 1))), .int (nI ((PS 1))), .int (nI ((BS 1)))])), (xr, .inl (cI, 40, .inl (fun j => nI (((G 1)) j))))]) [0, 1, 2, 3, 10, 11, 4, 5, 6, 7, 8, 9] rfl (by decide) ?_
    refine V_ws (ws2 := [(o, .inr (3, [.ref st, .int (nI (2 - 1))])), (st, .inl (cQ, 4, .inr (.inr (.inr (.inr (hq m0 m1 m2 m3)))))), (m0, .inr (4, [.ref r0, .int (nI (NS 0)), .int (nI (ES 0)), .int (nI (PS 0)), .int (nI (BS 0))])), (r0, .inl (cI, 40, .inl (fun j => nI ((G 0) j)))), (m1, .inr (4, [.ref r1, .int (nI (NS 1)), .int (nI (ES 1)), .int (nI (PS 1)), .int (nI (BS 1))])), (r1, .inl (cI, 40, .inl (fun j => nI ((G 1) j)))), (m2, .inr (4, [.ref r2, .int (nI (NS 2)), .int (nI (ES 2)), .int (nI (PS 2)), .int (nI (BS 2))])), (r2, .inl (cI, 40, .inl (fun j => nI ((G 2) j)))), (m3, .inr (4, [.ref r3, .int (nI (NS 3)), .int (nI (ES 3)), .int (nI (PS 3)), .int (nI (BS 3))])), (r3, .inl (cI, 40, .inl (fun j => nI ((G 3) j)))), (x, .inr (4, [.ref xr, .int (nI (NS (2 - 1))), .int (nI (ES (2 - 1))), .int (nI (PS (2 - 1))), .int (nI (BS (2 - 1)))])), (xr, .inl (cI, 40, .inl (fun j => nI ((G (2 - 1)) j))))]) (rfl) ?_
    subst hQ
    exact V_vret hC hr hlk (by decide) (by decide) dX3_restore_42 (()) [0, 1, 2, 3, 4, 5, 6, 7, 8, 9, 10, 11] rfl (by decide) (trivial)
  · refine V_aload_n hC dX3_restore_0 rfl 0 rfl ?_
    refine V_get (ci := 3) (v := .int (nI 3)) hC in_X3 0 rfl cls_X3 1 (by decide) fl_X3_17 rfl dX3_restore_1 ?_
    refine V_if_le_F (tgt := 42) hC dX3_restore_4 (by decide) (nI_nle (by omega) (by omega)) ?_
    refine V_aload_n hC dX3_restore_7 rfl 0 rfl ?_
    refine V_get (ci := 3) (v := .int (nI 3)) hC in_X3 0 rfl cls_X3 1 (by decide) fl_X3_17 rfl dX3_restore_8 ?_
    refine V_aload_n hC dX3_restore_11 rfl 0 rfl ?_
    refine V_get (ci := 3) (v := .ref st) hC in_X3 0 rfl cls_X3 0 (by decide) fl_X3_11 rfl dX3_restore_12 ?_
    refine V_alen (v := (nI 4)) hC 1 1 rfl rfl rfl dX3_restore_15 ?_
    refine V_icmp_gt_F (tgt := 42) hC dX3_restore_16 (by decide) (nI_nlt (by omega) (by omega)) ?_
    refine V_aload_n hC dX3_restore_19 rfl 0 rfl ?_
    refine V_dup hC dX3_restore_20 rfl ?_
    refine V_get (ci := 3) (v := .int (nI 3)) hC in_X3 0 rfl cls_X3 1 (by decide) fl_X3_17 rfl dX3_restore_21 ?_
    refine V_iconst (v := nI 1) hC dX3_restore_24 (by decide) ?_
    refine V_isub hC dX3_restore_25 (by omega) ?_
    refine V_put (ci := 3) (v := .int (nI 2)) hC tyX3 tyX3_ok nmX3 in_X3 0 rfl cls_X3 1 (by decide) fl_X3_17 rfl rfl rfl (Nat.le_of_ble_eq_true rfl) dX3_restore_26 (ws2 := [(o, .inr (3, [.ref st, .int (nI 2)])), (st, .inl (cQ, 4, .inr (.inr (.inr (.inr (hq m0 m1 m2 m3)))))), (m0, .inr (4, [.ref r0, .int (nI (NS 0)), .int (nI (ES 0)), .int (nI (PS 0)), .int (nI (BS 0))])), (r0, .inl (cI, 40, .inl (fun j => nI ((G 0) j)))), (m1, .inr (4, [.ref r1, .int (nI (NS 1)), .int (nI (ES 1)), .int (nI (PS 1)), .int (nI (BS 1))])), (r1, .inl (cI, 40, .inl (fun j => nI ((G 1) j)))), (m2, .inr (4, [.ref r2, .int (nI (NS 2)), .int (nI (ES 2)), .int (nI (PS 2)), .int (nI (BS 2))])), (r2, .inl (cI, 40, .inl (fun j => nI ((G 2) j)))), (m3, .inr (4, [.ref r3, .int (nI (NS 3)), .int (nI (ES 3)), .int (nI (PS 3)), .int (nI (BS 3))])), (r3, .inl (cI, 40, .inl (fun j => nI ((G 3) j)))), (x, .inr (4, [.ref xr, .int (nI n), .int (nI e), .int (nI p), .int (nI b)])), (xr, .inl (cI, 40, .inl (fun j => nI (g j))))]) rfl ?_
    refine V_aload_n hC dX3_restore_29 rfl 0 rfl ?_
    refine V_get (ci := 3) (v := .ref st) hC in_X3 0 rfl cls_X3 0 (by decide) fl_X3_11 rfl dX3_restore_30 ?_
    refine V_aload_n hC dX3_restore_33 rfl 0 rfl ?_
    refine V_get (ci := 3) (v := .int (nI 2)) hC in_X3 0 rfl cls_X3 1 (by decide) fl_X3_17 rfl dX3_restore_34 ?_
    refine V_aldq (v := .ref m2) hC 1 1 rfl rfl (by decide) (by decide) rfl dX3_restore_37 ?_
    refine V_aload_n hC dX3_restore_38 rfl 1 rfl ?_
    refine V_callvS (As := [.ref m2, .ref x]) (rest := []) (wr := [(o, .inr (3, [.ref st, .int (nI 2)])), (st, .inl (cQ, 4, .inr (.inr (.inr (.inr (hq m0 m1 m2 m3)))))), (m0, .inr (4, [.ref r0, .int (nI (NS 0)), .int (nI (ES 0)), .int (nI (PS 0)), .int (nI (BS 0))])), (r0, .inl (cI, 40, .inl (fun j => nI ((G 0) j)))), (m1, .inr (4, [.ref r1, .int (nI (NS 1)), .int (nI (ES 1)), .int (nI (PS 1)), .int (nI (BS 1))])), (r1, .inl (cI, 40, .inl (fun j => nI ((G 1) j)))), (m3, .inr (4, [.ref r3, .int (nI (NS 3)), .int (nI (ES 3)), .int (nI (PS 3)), .int (nI (BS 3))])), (r3, .inl (cI, 40, .inl (fun j => nI ((G 3) j))))]) hC (c_X3_copy l D cI cQ x xr n e p b m2 r2 (NS 2) (ES 2) (PS 2) (BS 2) g (G 2) (hES _ (by decide))) mok_X3_copy ml_X3_25 rfl rfl rfl (by decide) (by decide) (by decide) (Nat.le_of_ble_eq_true rfl) [10, 11, 6, 7] [0, 1, 2, 3, 4, 5, 8, 9] rfl (by decide) rfl (by decide) (by decide) dX3_restore_39 rfl (fun u9 h39 => ?_)
    clear h39
    refine V_perm (ws2 := [(o, .inr (3, [.ref st, .int (nI 2)])), (st, .inl (cQ, 4, .inr (.inr (.inr (.inr (hq m0 m1 m2 m3)))))), (m0, .inr (4, [.ref r0, .int (nI (NS 0)), .int (nI (ES 0)), .int (nI (PS 0)), .int (nI (BS 0))])), (r0, .inl (cI, 40, .inl (fun j => nI ((G 0) j)))), (m1, .inr (4, [.ref r1, .int (nI (NS 1)), .int (nI (ES 1)), .int (nI (PS 1)), .int (nI (BS 1))])), (r1, .inl (cI, 40, .inl (fun j => nI ((G 1) j)))), (m2, .inr (4, [.ref r2, .int (nI ((NS 2))), .int (nI ((ES 2))), .int (nI ((PS 2))), .int (nI ((BS 2)))])), (r2, .inl (cI, 40, .inl (fun j => nI (((G 2)) j)))), (m3, .inr (4, [.ref r3, .int (nI (NS 3)), .int (nI (ES 3)), .int (nI (PS 3)), .int (nI (BS 3))])), (r3, .inl (cI, 40, .inl (fun j => nI ((G 3) j)))), (x, .inr (4, [.ref xr, .int (nI ((NS 2))), .int (nI ((ES 2))), .int (nI ((PS 2))), .int (nI ((BS 2)))])), (xr, .inl (cI, 40, .inl (fun j => nI (((G 2)) j))))]) [0, 1, 2, 3, 4, 5, 10, 11, 6, 7, 8, 9] rfl (by decide) ?_
    refine V_ws (ws2 := [(o, .inr (3, [.ref st, .int (nI (3 - 1))])), (st, .inl (cQ, 4, .inr (.inr (.inr (.inr (hq m0 m1 m2 m3)))))), (m0, .inr (4, [.ref r0, .int (nI (NS 0)), .int (nI (ES 0)), .int (nI (PS 0)), .int (nI (BS 0))])), (r0, .inl (cI, 40, .inl (fun j => nI ((G 0) j)))), (m1, .inr (4, [.ref r1, .int (nI (NS 1)), .int (nI (ES 1)), .int (nI (PS 1)), .int (nI (BS 1))])), (r1, .inl (cI, 40, .inl (fun j => nI ((G 1) j)))), (m2, .inr (4, [.ref r2, .int (nI (NS 2)), .int (nI (ES 2)), .int (nI (PS 2)), .int (nI (BS 2))])), (r2, .inl (cI, 40, .inl (fun j => nI ((G 2) j)))), (m3, .inr (4, [.ref r3, .int (nI (NS 3)), .int (nI (ES 3)), .int (nI (PS 3)), .int (nI (BS 3))])), (r3, .inl (cI, 40, .inl (fun j => nI ((G 3) j)))), (x, .inr (4, [.ref xr, .int (nI (NS (3 - 1))), .int (nI (ES (3 - 1))), .int (nI (PS (3 - 1))), .int (nI (BS (3 - 1)))])), (xr, .inl (cI, 40, .inl (fun j => nI ((G (3 - 1)) j))))]) (rfl) ?_
    subst hQ
    exact V_vret hC hr hlk (by decide) (by decide) dX3_restore_42 (()) [0, 1, 2, 3, 4, 5, 6, 7, 8, 9, 10, 11] rfl (by decide) (trivial)
  · refine V_aload_n hC dX3_restore_0 rfl 0 rfl ?_
    refine V_get (ci := 3) (v := .int (nI 4)) hC in_X3 0 rfl cls_X3 1 (by decide) fl_X3_17 rfl dX3_restore_1 ?_
    refine V_if_le_F (tgt := 42) hC dX3_restore_4 (by decide) (nI_nle (by omega) (by omega)) ?_
    refine V_aload_n hC dX3_restore_7 rfl 0 rfl ?_
    refine V_get (ci := 3) (v := .int (nI 4)) hC in_X3 0 rfl cls_X3 1 (by decide) fl_X3_17 rfl dX3_restore_8 ?_
    refine V_aload_n hC dX3_restore_11 rfl 0 rfl ?_
    refine V_get (ci := 3) (v := .ref st) hC in_X3 0 rfl cls_X3 0 (by decide) fl_X3_11 rfl dX3_restore_12 ?_
    refine V_alen (v := (nI 4)) hC 1 1 rfl rfl rfl dX3_restore_15 ?_
    refine V_icmp_gt_F (tgt := 42) hC dX3_restore_16 (by decide) (nI_nlt (by omega) (by omega)) ?_
    refine V_aload_n hC dX3_restore_19 rfl 0 rfl ?_
    refine V_dup hC dX3_restore_20 rfl ?_
    refine V_get (ci := 3) (v := .int (nI 4)) hC in_X3 0 rfl cls_X3 1 (by decide) fl_X3_17 rfl dX3_restore_21 ?_
    refine V_iconst (v := nI 1) hC dX3_restore_24 (by decide) ?_
    refine V_isub hC dX3_restore_25 (by omega) ?_
    refine V_put (ci := 3) (v := .int (nI 3)) hC tyX3 tyX3_ok nmX3 in_X3 0 rfl cls_X3 1 (by decide) fl_X3_17 rfl rfl rfl (Nat.le_of_ble_eq_true rfl) dX3_restore_26 (ws2 := [(o, .inr (3, [.ref st, .int (nI 3)])), (st, .inl (cQ, 4, .inr (.inr (.inr (.inr (hq m0 m1 m2 m3)))))), (m0, .inr (4, [.ref r0, .int (nI (NS 0)), .int (nI (ES 0)), .int (nI (PS 0)), .int (nI (BS 0))])), (r0, .inl (cI, 40, .inl (fun j => nI ((G 0) j)))), (m1, .inr (4, [.ref r1, .int (nI (NS 1)), .int (nI (ES 1)), .int (nI (PS 1)), .int (nI (BS 1))])), (r1, .inl (cI, 40, .inl (fun j => nI ((G 1) j)))), (m2, .inr (4, [.ref r2, .int (nI (NS 2)), .int (nI (ES 2)), .int (nI (PS 2)), .int (nI (BS 2))])), (r2, .inl (cI, 40, .inl (fun j => nI ((G 2) j)))), (m3, .inr (4, [.ref r3, .int (nI (NS 3)), .int (nI (ES 3)), .int (nI (PS 3)), .int (nI (BS 3))])), (r3, .inl (cI, 40, .inl (fun j => nI ((G 3) j)))), (x, .inr (4, [.ref xr, .int (nI n), .int (nI e), .int (nI p), .int (nI b)])), (xr, .inl (cI, 40, .inl (fun j => nI (g j))))]) rfl ?_
    refine V_aload_n hC dX3_restore_29 rfl 0 rfl ?_
    refine V_get (ci := 3) (v := .ref st) hC in_X3 0 rfl cls_X3 0 (by decide) fl_X3_11 rfl dX3_restore_30 ?_
    refine V_aload_n hC dX3_restore_33 rfl 0 rfl ?_
    refine V_get (ci := 3) (v := .int (nI 3)) hC in_X3 0 rfl cls_X3 1 (by decide) fl_X3_17 rfl dX3_restore_34 ?_
    refine V_aldq (v := .ref m3) hC 1 1 rfl rfl (by decide) (by decide) rfl dX3_restore_37 ?_
    refine V_aload_n hC dX3_restore_38 rfl 1 rfl ?_
    refine V_callvS (As := [.ref m3, .ref x]) (rest := []) (wr := [(o, .inr (3, [.ref st, .int (nI 3)])), (st, .inl (cQ, 4, .inr (.inr (.inr (.inr (hq m0 m1 m2 m3)))))), (m0, .inr (4, [.ref r0, .int (nI (NS 0)), .int (nI (ES 0)), .int (nI (PS 0)), .int (nI (BS 0))])), (r0, .inl (cI, 40, .inl (fun j => nI ((G 0) j)))), (m1, .inr (4, [.ref r1, .int (nI (NS 1)), .int (nI (ES 1)), .int (nI (PS 1)), .int (nI (BS 1))])), (r1, .inl (cI, 40, .inl (fun j => nI ((G 1) j)))), (m2, .inr (4, [.ref r2, .int (nI (NS 2)), .int (nI (ES 2)), .int (nI (PS 2)), .int (nI (BS 2))])), (r2, .inl (cI, 40, .inl (fun j => nI ((G 2) j))))]) hC (c_X3_copy l D cI cQ x xr n e p b m3 r3 (NS 3) (ES 3) (PS 3) (BS 3) g (G 3) (hES _ (by decide))) mok_X3_copy ml_X3_25 rfl rfl rfl (by decide) (by decide) (by decide) (Nat.le_of_ble_eq_true rfl) [10, 11, 8, 9] [0, 1, 2, 3, 4, 5, 6, 7] rfl (by decide) rfl (by decide) (by decide) dX3_restore_39 rfl (fun u9 h39 => ?_)
    clear h39
    refine V_perm (ws2 := [(o, .inr (3, [.ref st, .int (nI 3)])), (st, .inl (cQ, 4, .inr (.inr (.inr (.inr (hq m0 m1 m2 m3)))))), (m0, .inr (4, [.ref r0, .int (nI (NS 0)), .int (nI (ES 0)), .int (nI (PS 0)), .int (nI (BS 0))])), (r0, .inl (cI, 40, .inl (fun j => nI ((G 0) j)))), (m1, .inr (4, [.ref r1, .int (nI (NS 1)), .int (nI (ES 1)), .int (nI (PS 1)), .int (nI (BS 1))])), (r1, .inl (cI, 40, .inl (fun j => nI ((G 1) j)))), (m2, .inr (4, [.ref r2, .int (nI (NS 2)), .int (nI (ES 2)), .int (nI (PS 2)), .int (nI (BS 2))])), (r2, .inl (cI, 40, .inl (fun j => nI ((G 2) j)))), (m3, .inr (4, [.ref r3, .int (nI ((NS 3))), .int (nI ((ES 3))), .int (nI ((PS 3))), .int (nI ((BS 3)))])), (r3, .inl (cI, 40, .inl (fun j => nI (((G 3)) j)))), (x, .inr (4, [.ref xr, .int (nI ((NS 3))), .int (nI ((ES 3))), .int (nI ((PS 3))), .int (nI ((BS 3)))])), (xr, .inl (cI, 40, .inl (fun j => nI (((G 3)) j))))]) [0, 1, 2, 3, 4, 5, 6, 7, 10, 11, 8, 9] rfl (by decide) ?_
    refine V_ws (ws2 := [(o, .inr (3, [.ref st, .int (nI (4 - 1))])), (st, .inl (cQ, 4, .inr (.inr (.inr (.inr (hq m0 m1 m2 m3)))))), (m0, .inr (4, [.ref r0, .int (nI (NS 0)), .int (nI (ES 0)), .int (nI (PS 0)), .int (nI (BS 0))])), (r0, .inl (cI, 40, .inl (fun j => nI ((G 0) j)))), (m1, .inr (4, [.ref r1, .int (nI (NS 1)), .int (nI (ES 1)), .int (nI (PS 1)), .int (nI (BS 1))])), (r1, .inl (cI, 40, .inl (fun j => nI ((G 1) j)))), (m2, .inr (4, [.ref r2, .int (nI (NS 2)), .int (nI (ES 2)), .int (nI (PS 2)), .int (nI (BS 2))])), (r2, .inl (cI, 40, .inl (fun j => nI ((G 2) j)))), (m3, .inr (4, [.ref r3, .int (nI (NS 3)), .int (nI (ES 3)), .int (nI (PS 3)), .int (nI (BS 3))])), (r3, .inl (cI, 40, .inl (fun j => nI ((G 3) j)))), (x, .inr (4, [.ref xr, .int (nI (NS (4 - 1))), .int (nI (ES (4 - 1))), .int (nI (PS (4 - 1))), .int (nI (BS (4 - 1)))])), (xr, .inl (cI, 40, .inl (fun j => nI ((G (4 - 1)) j))))]) (rfl) ?_
    subst hQ
    exact V_vret hC hr hlk (by decide) (by decide) dX3_restore_42 (()) [0, 1, 2, 3, 4, 5, 6, 7, 8, 9, 10, 11] rfl (by decide) (trivial)
