abbrev rm_X1_writeBit : Room := { frames := 1, cells := 0, slots := 0, locals := 21 }
set_option maxHeartbeats 4000000 in
set_option maxRecDepth 100000 in
theorem c_X1_writeBit (l : Launch) (D : va_G) (cI cQ : ClassId) (a co sp bi cs siz w r n x : Nat) (g : Nat → Nat) (bs : List Nat) (hn : n = bs.length) (hr9 : rep g bs) (hx : x ≤ 1) (hw : n + 1 + w ≤ 658) : MV l yX1_writeBit cX1_writeBit 3 none rm_X1_writeBit D (TY cI cQ) [.ref a, .int (nI x)] [(a, .inr (1, [.ref co, .ref sp, .ref bi, .ref cs, .int (nI siz), .int (nI w)])), (bi, .inr (0, [.ref r, .int (nI n)])), (r, .inl (cI, 658, .inl (fun j => nI (g j))))] (fun (u : (Nat → Nat)) => rep u (wB bs w x)) (fun (u : (Nat → Nat)) => [(a, .inr (1, [.ref co, .ref sp, .ref bi, .ref cs, .int (nI siz), .int (nI 0)])), (bi, .inr (0, [.ref r, .int (nI (n + 1 + w))])), (r, .inl (cI, 658, .inl (fun j => nI (u j))))]) 0 0 := by
  refine MV.start (by decide) (Nat.le_of_ble_eq_true rfl) (lv0 := [(0, .ref a), (1, .int (nI x))]) rfl ?_
  intro pp9 ee9 ss9 mm9 args9 below9 meth9 co9 A9 Q9 hQ hC hr hlk hnm
  refine V_aload_n hC dX1_writeBit_0 rfl 0 rfl ?_
  refine V_get (ci := 1) (v := .ref bi) hC in_X1 0 rfl cls_X1 2 (by decide) fl_X1_28 rfl dX1_writeBit_1 ?_
  refine V_iload_n hC dX1_writeBit_4 rfl 1 rfl ?_
  refine V_callvV (As := [.int (nI x)]) (rest := []) (wr := [(a, .inr (1, [.ref co, .ref sp, .ref bi, .ref cs, .int (nI siz), .int (nI w)]))]) hC (c_X0_append l D cI cQ bi r n x g (by omega)) mok_X0_append ml_X1_95 (q1 := 0) rfl cls_X0 rfl rfl rfl (by decide) (by decide) (by decide) (Nat.le_of_ble_eq_true rfl) [1, 2] [0] rfl (by decide) rfl (by decide) (by decide) dX1_writeBit_5 rfl (fun u9 h5 => ?_)
  clear h5
  refine V_perm (ws2 := [(a, .inr (1, [.ref co, .ref sp, .ref bi, .ref cs, .int (nI siz), .int (nI w)])), (bi, .inr (0, [.ref r, .int (nI (n + 1))])), (r, .inl (cI, 658, .inl (fun j => nI ((va_up g n x) j))))]) [0, 1, 2] rfl (by decide) ?_
  refine V_iconst (v := nI 0) hC dX1_writeBit_8 (by decide) ?_
  refine V_istore_n (lv2 := [(0, .ref a), (1, .int (nI x)), (2, .int (nI 0))]) hC dX1_writeBit_9 rfl (by decide) [1, 2, 0] rfl ?_
  have L10 : ∀ (n9 : Nat) (i : Nat) (g2 : Nat → Nat), (i ≤ w) → (rep g2 (bs ++ x :: List.replicate i (1 - x))) → w - i < n9 → V pp9 l ee9 rm_X1_writeBit ss9 mm9 args9 below9 meth9 co9 D A9 ss9.heap 3 Q9 [(a, .inr (1, [.ref co, .ref sp, .ref bi, .ref cs, .int (nI siz), .int (nI w)])), (bi, .inr (0, [.ref r, .int (nI (n + 1 + i))])), (r, .inl (cI, 658, .inl (fun j => nI (g2 j))))] [(0, .ref a), (1, .int (nI x)), (2, .int (nI i))] 0 0 10 [] := by
    intro n9
    induction n9 with
    | zero => intro i g2 h1 h2 h9; exact absurd h9 (Nat.not_lt_zero _)
    | succ n9 ih =>
      intro i g2 h1 h2 h9
      refine V_iload_n hC dX1_writeBit_10 rfl 2 rfl ?_
      refine V_aload_n hC dX1_writeBit_11 rfl 0 rfl ?_
      refine V_get (ci := 1) (v := .int (nI w)) hC in_X1 0 rfl cls_X1 5 (by decide) fl_X1_40 rfl dX1_writeBit_12 ?_
      refine V_icmp_ge (tgt := 34) hC (by omega) (by omega) dX1_writeBit_15 (by decide) (fun c15 => ?_) (fun c15 => ?_)
      · have ei9 : i = w := by omega
        rw [ei9] at h2
        refine V_ws (ws2 := [(a, .inr (1, [.ref co, .ref sp, .ref bi, .ref cs, .int (nI siz), .int (nI w)])), (bi, .inr (0, [.ref r, .int (nI (n + 1 + w))])), (r, .inl (cI, 658, .inl (fun j => nI (g2 j))))]) (by rw [ei9]) ?_
        refine V_aload_n hC dX1_writeBit_34 rfl 0 rfl ?_
        refine V_iconst (v := nI 0) hC dX1_writeBit_35 (by decide) ?_
        refine V_put (ci := 1) (v := .int (nI 0)) hC tyX1 tyX1_ok nmX1 in_X1 0 rfl cls_X1 5 (by decide) fl_X1_40 rfl rfl rfl (Nat.le_of_ble_eq_true rfl) dX1_writeBit_36 (ws2 := [(a, .inr (1, [.ref co, .ref sp, .ref bi, .ref cs, .int (nI siz), .int (nI 0)])), (bi, .inr (0, [.ref r, .int (nI (n + 1 + w))])), (r, .inl (cI, 658, .inl (fun j => nI (g2 j))))]) rfl ?_
        subst hQ
        exact V_vret hC hr hlk (by decide) (by decide) dX1_writeBit_39 (g2) [0, 1, 2] rfl (by decide) (h2)
      · refine V_aload_n hC dX1_writeBit_18 rfl 0 rfl ?_
        refine V_get (ci := 1) (v := .ref bi) hC in_X1 0 rfl cls_X1 2 (by decide) fl_X1_28 rfl dX1_writeBit_19 ?_
        refine V_iconst (v := nI 1) hC dX1_writeBit_22 (by decide) ?_
        refine V_iload_n hC dX1_writeBit_23 rfl 1 rfl ?_
        refine V_isub hC dX1_writeBit_24 (by omega) ?_
        refine V_callvV (As := [.int (nI (1 - x))]) (rest := []) (wr := [(a, .inr (1, [.ref co, .ref sp, .ref bi, .ref cs, .int (nI siz), .int (nI w)]))]) hC (c_X0_append l D cI cQ bi r (n + 1 + i) (1 - x) g2 (by omega)) mok_X0_append ml_X1_95 (q1 := 0) rfl cls_X0 rfl rfl rfl (by decide) (by decide) (by decide) (Nat.le_of_ble_eq_true rfl) [1, 2] [0] rfl (by decide) rfl (by decide) (by decide) dX1_writeBit_25 rfl (fun u9 h25 => ?_)
        clear h25
        refine V_perm (ws2 := [(a, .inr (1, [.ref co, .ref sp, .ref bi, .ref cs, .int (nI siz), .int (nI w)])), (bi, .inr (0, [.ref r, .int (nI ((n + 1 + i) + 1))])), (r, .inl (cI, 658, .inl (fun j => nI ((va_up g2 (n + 1 + i) (1 - x)) j))))]) [0, 1, 2] rfl (by decide) ?_
        refine V_iinc (v := (nI (i + 1))) (lv2 := [(0, .ref a), (1, .int (nI x)), (2, .int (nI (i + 1)))]) (q := 2) hC dX1_writeBit_28 rfl (nI_add _ _) (by decide) [1, 2, 0] rfl ?_
        refine V_goto (tgt := 10) hC dX1_writeBit_31 (by decide) ?_
        exact ih (i + 1) (va_up g2 (n + 1 + i) (1 - x)) (by omega) (rep_wait hn h2) (by omega)
  exact L10 _ 0 (va_up g n x) (by omega) (rep_push hr9 hn) (Nat.lt_succ_self _)
abbrev rm_X1_narrow : Room := { frames := 2, cells := 0, slots := 0, locals := 49 }
set_option maxHeartbeats 4000000 in
set_option maxRecDepth 100000 in
theorem c_X1_narrow (l : Launch) (D : va_G) (cI cQ : ClassId) (a co sp bi cs siz w cr t h p b lo hi r n k : Nat) (f g : Nat → Nat) (bs : List Nat) (hk : k < 9) (hc : okC f t) (hs : lo ≤ hi ∧ hi ≤ 65535) (hw : t ≤ hi - lo + 1) (hn : n = bs.length) (hr9 : rep g bs) (hl : bs.length + w + 16 ≤ 658) : MV l yX1_narrow cX1_narrow 4 none rm_X1_narrow D (TY cI cQ) [.ref a, .int (nI k)] [(a, .inr (1, [.ref co, .ref sp, .ref bi, .ref cs, .int (nI siz), .int (nI w)])), (co, .inr (2, [.ref cr, .int (nI t), .int (nI h), .int (nI p), .int (nI b)])), (cr, .inl (cI, 9, .inl (fun j => nI (f j)))), (sp, .inr (6, [.int (nI lo), .int (nI hi)])), (bi, .inr (0, [.ref r, .int (nI n)])), (r, .inl (cI, 658, .inl (fun j => nI (g j))))] (fun (u : (Nat → Nat)) => rep u (nr 16 (shL f t k lo hi) (shU f t k lo hi) w bs).2.2.2) (fun (u : (Nat → Nat)) => [(a, .inr (1, [.ref co, .ref sp, .ref bi, .ref cs, .int (nI siz), .int (nI ((nr 16 (shL f t k lo hi) (shU f t k lo hi) w bs).2.2.1))])), (co, .inr (2, [.ref cr, .int (nI t), .int (nI h), .int (nI p), .int (nI b)])), (cr, .inl (cI, 9, .inl (fun j => nI (f j)))), (sp, .inr (6, [.int (nI ((nr 16 (shL f t k lo hi) (shU f t k lo hi) w bs).1)), .int (nI ((nr 16 (shL f t k lo hi) (shU f t k lo hi) w bs).2.1))])), (bi, .inr (0, [.ref r, .int (nI ((nr 16 (shL f t k lo hi) (shU f t k lo hi) w bs).2.2.2.length))])), (r, .inl (cI, 658, .inl (fun j => nI (u j))))]) 0 0 := by
  refine MV.start (by decide) (Nat.le_of_ble_eq_true rfl) (lv0 := [(0, .ref a), (1, .int (nI k))]) rfl ?_
  intro pp9 ee9 ss9 mm9 args9 below9 meth9 co9 A9 Q9 hQ hC hr hlk hnm
  have hsh := sh_ok hc hk hs hw
  subst hn
  refine V_aload_n hC dX1_narrow_0 rfl 0 rfl ?_
  refine V_get (ci := 1) (v := .ref sp) hC in_X1 0 rfl cls_X1 1 (by decide) fl_X1_21 rfl dX1_narrow_1 ?_
  refine V_aload_n hC dX1_narrow_4 rfl 0 rfl ?_
  refine V_get (ci := 1) (v := .ref co) hC in_X1 0 rfl cls_X1 0 (by decide) fl_X1_12 rfl dX1_narrow_5 ?_
  refine V_iload_n hC dX1_narrow_8 rfl 1 rfl ?_
  refine V_callvV (As := [.ref co, .int (nI k)]) (rest := []) (wr := [(a, .inr (1, [.ref co, .ref sp, .ref bi, .ref cs, .int (nI siz), .int (nI w)])), (bi, .inr (0, [.ref r, .int (nI (bs.length))])), (r, .inl (cI, 658, .inl (fun j => nI (g j))))]) hC (c_X6_shrink l D cI cQ sp lo hi co cr t h p b k f (by first | assumption | omega) (by first | assumption | omega) (by first | assumption | omega) (by first | assumption | omega)) mok_X6_shrink ml_X1_86 (q1 := 0) rfl cls_X6 rfl rfl rfl (by decide) (by decide) (by decide) (Nat.le_of_ble_eq_true rfl) [3, 1, 2] [0, 4, 5] rfl (by decide) rfl (by decide) (by decide) dX1_narrow_9 rfl (fun u9 h9 => ?_)
  clear h9
  refine V_perm (ws2 := [(a, .inr (1, [.ref co, .ref sp, .ref bi, .ref cs, .int (nI siz), .int (nI w)])), (co, .inr (2, [.ref cr, .int (nI t), .int (nI h), .int (nI p), .int (nI b)])), (cr, .inl (cI, 9, .inl (fun j => nI (f j)))), (sp, .inr (6, [.int (nI (shL f t k lo hi)), .int (nI (shU f t k lo hi))])), (bi, .inr (0, [.ref r, .int (nI (bs.length))])), (r, .inl (cI, 658, .inl (fun j => nI (g j))))]) [0, 4, 5, 3, 1, 2] rfl (by decide) ?_
  refine V_iconst (v := nI 0) hC dX1_narrow_12 (by decide) ?_
  refine V_istore_n (lv2 := [(0, .ref a), (1, .int (nI k)), (2, .int (nI 0))]) hC dX1_narrow_13 rfl (by decide) [1, 2, 0] rfl ?_
  have L14 : ∀ (n9 : Nat) (i : Nat) (lo2 : Nat) (hi2 : Nat) (w2 : Nat) (bs2 : List Nat) (g2 : Nat → Nat), (i ≤ 16) → (lo2 ≤ hi2 ∧ hi2 ≤ 65535) → (nr (16 - i) lo2 hi2 w2 bs2 = nr 16 (shL f t k lo hi) (shU f t k lo hi) w bs) → (rep g2 bs2) → (bs2.length + w2 + (16 - i) ≤ 658) → 16 - i < n9 → V pp9 l ee9 rm_X1_narrow ss9 mm9 args9 below9 meth9 co9 D A9 ss9.heap 4 Q9 [(a, .inr (1, [.ref co, .ref sp, .ref bi, .ref cs, .int (nI siz), .int (nI w2)])), (co, .inr (2, [.ref cr, .int (nI t), .int (nI h), .int (nI p), .int (nI b)])), (cr, .inl (cI, 9, .inl (fun j => nI (f j)))), (sp, .inr (6, [.int (nI lo2), .int (nI hi2)])), (bi, .inr (0, [.ref r, .int (nI (bs2.length))])), (r, .inl (cI, 658, .inl (fun j => nI (g2 j))))] [(0, .ref a), (1, .int (nI k)), (2, .int (nI i))] 0 0 14 [] := by
    intro n9
    induction n9 with
    | zero => intro i lo2 hi2 w2 bs2 g2 h1 h2 h3 h4 h5 h9; exact absurd h9 (Nat.not_lt_zero _)
    | succ n9 ih =>
      intro i lo2 hi2 w2 bs2 g2 h1 h2 h3 h4 h5 h9
      refine V_iload_n hC dX1_narrow_14 rfl 2 rfl ?_
      refine V_bipush (v := nI 16) hC dX1_narrow_15 (by decide) ?_
      refine V_icmp_ge (tgt := 75) hC (by omega) (by omega) dX1_narrow_17 (by decide) (fun c17 => ?_) (fun c17 => ?_)
      · subst hQ
        rw [show 16 - i = 0 by omega] at h3
        rw [← h3]
        simp only [nr]
        exact V_vret hC hr hlk (by decide) (by decide) dX1_narrow_75 (g2) [0, 1, 2, 3, 4, 5] rfl (by decide) (h4)
      · refine V_aload_n hC dX1_narrow_20 rfl 0 rfl ?_
        refine V_get (ci := 1) (v := .ref sp) hC in_X1 0 rfl cls_X1 1 (by decide) fl_X1_21 rfl dX1_narrow_21 ?_
        by_cases hw1 : wO lo2 hi2 = 1
        · refine V_calliV (As := []) (rest := []) (wr := [(a, .inr (1, [.ref co, .ref sp, .ref bi, .ref cs, .int (nI siz), .int (nI w2)])), (co, .inr (2, [.ref cr, .int (nI t), .int (nI h), .int (nI p), .int (nI b)])), (cr, .inl (cI, 9, .inl (fun j => nI (f j)))), (bi, .inr (0, [.ref r, .int (nI (bs2.length))])), (r, .inl (cI, 658, .inl (fun j => nI (g2 j))))]) hC (c_X6_widen_stop l D cI cQ sp lo2 hi2 (by omega) (hw1)) mok_X6_widen ml_X1_90 (q1 := 0) rfl cls_X6 rfl rfl rfl (by decide) (by decide) (by decide) (Nat.le_of_ble_eq_true rfl) [3] [0, 1, 2, 4, 5] rfl (by decide) rfl (by decide) (by decide) dX1_narrow_24 rfl (fun r9 u9 h24 => ?_)
          obtain ⟨rfl, h24⟩ := h24
          clear h24
          refine V_perm (ws2 := [(a, .inr (1, [.ref co, .ref sp, .ref bi, .ref cs, .int (nI siz), .int (nI w2)])), (co, .inr (2, [.ref cr, .int (nI t), .int (nI h), .int (nI p), .int (nI b)])), (cr, .inl (cI, 9, .inl (fun j => nI (f j)))), (sp, .inr (6, [.int (nI lo2), .int (nI hi2)])), (bi, .inr (0, [.ref r, .int (nI (bs2.length))])), (r, .inl (cI, 658, .inl (fun j => nI (g2 j))))]) [0, 1, 2, 5, 3, 4] rfl (by decide) ?_
          refine V_istore_n (lv2 := [(0, .ref a), (1, .int (nI k)), (2, .int (nI i)), (3, .int (-1))]) hC dX1_narrow_27 rfl (by decide) [1, 2, 3, 0] rfl ?_
          have hwc := wO_cases lo2 hi2
          refine V_iload_n hC dX1_narrow_28 rfl 3 rfl ?_
          refine V_iconst (v := -1) hC dX1_narrow_29 (by decide) ?_
          refine V_icmp_ne_F (tgt := 34) hC dX1_narrow_30 (by decide) rfl ?_
          subst hQ
          rw [nr_stop hw1] at h3
          rw [← h3]
          exact V_vret hC hr hlk (by decide) (by decide) dX1_narrow_33 (g2) [0, 1, 2, 3, 4, 5] rfl (by decide) (h4)
        · refine V_calliV (As := []) (rest := []) (wr := [(a, .inr (1, [.ref co, .ref sp, .ref bi, .ref cs, .int (nI siz), .int (nI w2)])), (co, .inr (2, [.ref cr, .int (nI t), .int (nI h), .int (nI p), .int (nI b)])), (cr, .inl (cI, 9, .inl (fun j => nI (f j)))), (bi, .inr (0, [.ref r, .int (nI (bs2.length))])), (r, .inl (cI, 658, .inl (fun j => nI (g2 j))))]) hC (c_X6_widen_go l D cI cQ sp lo2 hi2 (by omega) (hw1)) mok_X6_widen ml_X1_90 (q1 := 0) rfl cls_X6 rfl rfl rfl (by decide) (by decide) (by decide) (Nat.le_of_ble_eq_true rfl) [3] [0, 1, 2, 4, 5] rfl (by decide) rfl (by decide) (by decide) dX1_narrow_24 rfl (fun r9 u9 h24 => ?_)
          obtain ⟨rfl, h24⟩ := h24
          clear h24
          refine V_perm (ws2 := [(a, .inr (1, [.ref co, .ref sp, .ref bi, .ref cs, .int (nI siz), .int (nI w2)])), (co, .inr (2, [.ref cr, .int (nI t), .int (nI h), .int (nI p), .int (nI b)])), (cr, .inl (cI, 9, .inl (fun j => nI (f j)))), (sp, .inr (6, [.int (nI ((lo2 - wO lo2 hi2) * 2)), .int (nI ((hi2 - wO lo2 hi2) * 2 + 1))])), (bi, .inr (0, [.ref r, .int (nI (bs2.length))])), (r, .inl (cI, 658, .inl (fun j => nI (g2 j))))]) [0, 1, 2, 5, 3, 4] rfl (by decide) ?_
          refine V_istore_n (lv2 := [(0, .ref a), (1, .int (nI k)), (2, .int (nI i)), (3, .int (nI (wO lo2 hi2)))]) hC dX1_narrow_27 rfl (by decide) [1, 2, 3, 0] rfl ?_
          have hwc := wO_cases lo2 hi2
          refine V_iload_n hC dX1_narrow_28 rfl 3 rfl ?_
          refine V_iconst (v := -1) hC dX1_narrow_29 (by decide) ?_
          refine V_icmp_ne_T (tgt := 34) hC dX1_narrow_30 (by decide) (neg_ne' (by decide) (by omega)) ?_
          refine V_iload_n hC dX1_narrow_34 rfl 3 rfl ?_
          refine V_sipush (v := nI 16384) hC dX1_narrow_35 (by decide) ?_
          refine V_icmp_ne (tgt := 54) hC (by omega) (by omega) dX1_narrow_38 (by decide) (fun c38 => ?_) (fun c38 => ?_)
          · refine V_aload_n hC dX1_narrow_54 rfl 0 rfl ?_
            refine V_iload_n hC dX1_narrow_55 rfl 3 rfl ?_
            refine V_ldc (v2 := nI 32768) hC dX1_narrow_56 cst_X1_94 rfl ?_
            refine V_icmp_ne (tgt := 65) hC (by omega) (by omega) dX1_narrow_58 (by decide) (fun c58 => ?_) (fun c58 => ?_)
            · refine V_iconst (v := nI 0) hC dX1_narrow_65 (by decide) ?_
              refine V_callvV (As := [.int (nI 0)]) (rest := []) (wr := [(co, .inr (2, [.ref cr, .int (nI t), .int (nI h), .int (nI p), .int (nI b)])), (cr, .inl (cI, 9, .inl (fun j => nI (f j)))), (sp, .inr (6, [.int (nI ((lo2 - wO lo2 hi2) * 2)), .int (nI ((hi2 - wO lo2 hi2) * 2 + 1))]))]) hC (c_X1_writeBit l D cI cQ a co sp bi cs siz w2 r bs2.length 0 g2 bs2 (rfl) (h4) (by omega) (by omega)) mok_X1_writeBit ml_X1_74 (q1 := 0) rfl cls_X1 rfl rfl rfl (by decide) (by decide) (by decide) (Nat.le_of_ble_eq_true rfl) [0, 4, 5] [1, 2, 3] rfl (by decide) rfl (by decide) (by decide) dX1_narrow_66 rfl (fun u9 h66 => ?_)
              obtain ⟨g2_1, rfl⟩ : ∃ z, z = u9 := ⟨_, rfl⟩
              have h66 : rep g2_1 (wB bs2 w2 0) := h66
              refine V_perm (ws2 := [(a, .inr (1, [.ref co, .ref sp, .ref bi, .ref cs, .int (nI siz), .int (nI 0)])), (co, .inr (2, [.ref cr, .int (nI t), .int (nI h), .int (nI p), .int (nI b)])), (cr, .inl (cI, 9, .inl (fun j => nI (f j)))), (sp, .inr (6, [.int (nI ((lo2 - wO lo2 hi2) * 2)), .int (nI ((hi2 - wO lo2 hi2) * 2 + 1))])), (bi, .inr (0, [.ref r, .int (nI (bs2.length + 1 + w2))])), (r, .inl (cI, 658, .inl (fun j => nI (g2_1 j))))]) [3, 0, 1, 2, 4, 5] rfl (by decide) ?_
              refine V_iinc (v := (nI (i + 1))) (lv2 := [(0, .ref a), (1, .int (nI k)), (2, .int (nI (i + 1))), (3, .int (nI (wO lo2 hi2)))]) (q := 2) hC dX1_narrow_69 rfl (nI_add _ _) (by decide) [1, 2, 0, 3] rfl ?_
              refine V_goto (tgt := 14) hC dX1_narrow_72 (by decide) ?_
              refine V_ws (ws2 := [(a, .inr (1, [.ref co, .ref sp, .ref bi, .ref cs, .int (nI siz), .int (nI 0)])), (co, .inr (2, [.ref cr, .int (nI t), .int (nI h), .int (nI p), .int (nI b)])), (cr, .inl (cI, 9, .inl (fun j => nI (f j)))), (sp, .inr (6, [.int (nI ((lo2 - wO lo2 hi2) * 2)), .int (nI ((hi2 - wO lo2 hi2) * 2 + 1))])), (bi, .inr (0, [.ref r, .int (nI ((wB bs2 w2 0).length))])), (r, .inl (cI, 658, .inl (fun j => nI (g2_1 j))))]) (by rw [wB_len]) ?_
              refine V_pick (lv2 := [(0, .ref a), (1, .int (nI k)), (2, .int (nI ((i + 1))))]) [0, 1, 2] rfl ?_
              exact ih (i + 1) ((lo2 - wO lo2 hi2) * 2) ((hi2 - wO lo2 hi2) * 2 + 1) 0 (wB bs2 w2 0) g2_1 (by first | assumption | omega) (by first | assumption | omega) (by rw [← h3, show 16 - i = (16 - (i + 1)) + 1 by omega, nr_bit hw1 c38, if_neg c58]) (by first | assumption | omega) (by rw [wB_len]; omega) (by omega)
            · refine V_iconst (v := nI 1) hC dX1_narrow_61 (by decide) ?_
              refine V_goto (tgt := 66) hC dX1_narrow_62 (by decide) ?_
              refine V_callvV (As := [.int (nI 1)]) (rest := []) (wr := [(co, .inr (2, [.ref cr, .int (nI t), .int (nI h), .int (nI p), .int (nI b)])), (cr, .inl (cI, 9, .inl (fun j => nI (f j)))), (sp, .inr (6, [.int (nI ((lo2 - wO lo2 hi2) * 2)), .int (nI ((hi2 - wO lo2 hi2) * 2 + 1))]))]) hC (c_X1_writeBit l D cI cQ a co sp bi cs siz w2 r bs2.length 1 g2 bs2 (rfl) (h4) (by omega) (by omega)) mok_X1_writeBit ml_X1_74 (q1 := 0) rfl cls_X1 rfl rfl rfl (by decide) (by decide) (by decide) (Nat.le_of_ble_eq_true rfl) [0, 4, 5] [1, 2, 3] rfl (by decide) rfl (by decide) (by decide) dX1_narrow_66 rfl (fun u9 h66 => ?_)
              obtain ⟨g2_2, rfl⟩ : ∃ z, z = u9 := ⟨_, rfl⟩
              have h66 : rep g2_2 (wB bs2 w2 1) := h66
              refine V_perm (ws2 := [(a, .inr (1, [.ref co, .ref sp, .ref bi, .ref cs, .int (nI siz), .int (nI 0)])), (co, .inr (2, [.ref cr, .int (nI t), .int (nI h), .int (nI p), .int (nI b)])), (cr, .inl (cI, 9, .inl (fun j => nI (f j)))), (sp, .inr (6, [.int (nI ((lo2 - wO lo2 hi2) * 2)), .int (nI ((hi2 - wO lo2 hi2) * 2 + 1))])), (bi, .inr (0, [.ref r, .int (nI (bs2.length + 1 + w2))])), (r, .inl (cI, 658, .inl (fun j => nI (g2_2 j))))]) [3, 0, 1, 2, 4, 5] rfl (by decide) ?_
              refine V_iinc (v := (nI (i + 1))) (lv2 := [(0, .ref a), (1, .int (nI k)), (2, .int (nI (i + 1))), (3, .int (nI (wO lo2 hi2)))]) (q := 2) hC dX1_narrow_69 rfl (nI_add _ _) (by decide) [1, 2, 0, 3] rfl ?_
              refine V_goto (tgt := 14) hC dX1_narrow_72 (by decide) ?_
              refine V_ws (ws2 := [(a, .inr (1, [.ref co, .ref sp, .ref bi, .ref cs, .int (nI siz), .int (nI 0)])), (co, .inr (2, [.ref cr, .int (nI t), .int (nI h), .int (nI p), .int (nI b)])), (cr, .inl (cI, 9, .inl (fun j => nI (f j)))), (sp, .inr (6, [.int (nI ((lo2 - wO lo2 hi2) * 2)), .int (nI ((hi2 - wO lo2 hi2) * 2 + 1))])), (bi, .inr (0, [.ref r, .int (nI ((wB bs2 w2 1).length))])), (r, .inl (cI, 658, .inl (fun j => nI (g2_2 j))))]) (by rw [wB_len]) ?_
              refine V_pick (lv2 := [(0, .ref a), (1, .int (nI k)), (2, .int (nI ((i + 1))))]) [0, 1, 2] rfl ?_
              exact ih (i + 1) ((lo2 - wO lo2 hi2) * 2) ((hi2 - wO lo2 hi2) * 2 + 1) 0 (wB bs2 w2 1) g2_2 (by first | assumption | omega) (by first | assumption | omega) (by rw [← h3, show 16 - i = (16 - (i + 1)) + 1 by omega, nr_bit hw1 c38, if_pos c58]) (by first | assumption | omega) (by rw [wB_len]; omega) (by omega)
          · refine V_aload_n hC dX1_narrow_41 rfl 0 rfl ?_
            refine V_dup hC dX1_narrow_42 rfl ?_
            refine V_get (ci := 1) (v := .int (nI w2)) hC in_X1 0 rfl cls_X1 5 (by decide) fl_X1_40 rfl dX1_narrow_43 ?_
            refine V_iconst (v := nI 1) hC dX1_narrow_46 (by decide) ?_
            refine V_iadd hC dX1_narrow_47 ?_
            refine V_put (ci := 1) (v := .int (nI (w2 + 1))) hC tyX1 tyX1_ok nmX1 in_X1 0 rfl cls_X1 5 (by decide) fl_X1_40 rfl rfl rfl (Nat.le_of_ble_eq_true rfl) dX1_narrow_48 (ws2 := [(a, .inr (1, [.ref co, .ref sp, .ref bi, .ref cs, .int (nI siz), .int (nI (w2 + 1))])), (co, .inr (2, [.ref cr, .int (nI t), .int (nI h), .int (nI p), .int (nI b)])), (cr, .inl (cI, 9, .inl (fun j => nI (f j)))), (sp, .inr (6, [.int (nI ((lo2 - wO lo2 hi2) * 2)), .int (nI ((hi2 - wO lo2 hi2) * 2 + 1))])), (bi, .inr (0, [.ref r, .int (nI (bs2.length))])), (r, .inl (cI, 658, .inl (fun j => nI (g2 j))))]) rfl ?_
            refine V_goto (tgt := 69) hC dX1_narrow_51 (by decide) ?_
            refine V_iinc (v := (nI (i + 1))) (lv2 := [(0, .ref a), (1, .int (nI k)), (2, .int (nI (i + 1))), (3, .int (nI (wO lo2 hi2)))]) (q := 2) hC dX1_narrow_69 rfl (nI_add _ _) (by decide) [1, 2, 0, 3] rfl ?_
            refine V_goto (tgt := 14) hC dX1_narrow_72 (by decide) ?_
            refine V_pick (lv2 := [(0, .ref a), (1, .int (nI k)), (2, .int (nI ((i + 1))))]) [0, 1, 2] rfl ?_
            exact ih (i + 1) ((lo2 - wO lo2 hi2) * 2) ((hi2 - wO lo2 hi2) * 2 + 1) (w2 + 1) bs2 g2 (by first | assumption | omega) (by first | assumption | omega) (by rw [← h3, show 16 - i = (16 - (i + 1)) + 1 by omega, nr_wait c38]) (by first | assumption | omega) (by first | assumption | omega) (by omega)
  exact L14 _ 0 (shL f t k lo hi) (shU f t k lo hi) w bs g (by omega) (by omega) (rfl) (hr9) (by omega) (Nat.lt_succ_self _)
abbrev rm_X1_start : Room := { frames := 1, cells := 0, slots := 0, locals := 23 }
set_option maxHeartbeats 4000000 in
set_option maxRecDepth 100000 in
theorem c_X1_start (l : Launch) (D : va_G) (cI cQ : ClassId) (a co sp bi cs siz w cr t h p b lo hi r n p2 b2 : Nat) (f : Nat → Nat)  : MV l yX1_start cX1_start 3 none rm_X1_start D (TY cI cQ) [.ref a, .int (nI p2), .int (nI b2)] [(a, .inr (1, [.ref co, .ref sp, .ref bi, .ref cs, .int (nI siz), .int (nI w)])), (co, .inr (2, [.ref cr, .int (nI t), .int (nI h), .int (nI p), .int (nI b)])), (cr, .inl (cI, 9, .inl (fun j => nI (f j)))), (sp, .inr (6, [.int (nI lo), .int (nI hi)])), (bi, .inr (0, [.ref r, .int (nI n)]))] (fun (u : Unit) => True) (fun (u : Unit) => [(a, .inr (1, [.ref co, .ref sp, .ref bi, .ref cs, .int (nI 0), .int (nI 0)])), (co, .inr (2, [.ref cr, .int (nI 9), .int (nI 0), .int (nI p2), .int (nI b2)])), (cr, .inl (cI, 9, .inl (fun j => nI (one j)))), (sp, .inr (6, [.int (nI 0), .int (nI 65535)])), (bi, .inr (0, [.ref r, .int (nI 0)]))]) 0 0 := by
  refine MV.start (by decide) (Nat.le_of_ble_eq_true rfl) (lv0 := [(0, .ref a), (1, .int (nI p2)), (2, .int (nI b2))]) rfl ?_
  intro pp9 ee9 ss9 mm9 args9 below9 meth9 co9 A9 Q9 hQ hC hr hlk hnm
  refine V_aload_n hC dX1_start_0 rfl 0 rfl ?_
  refine V_get (ci := 1) (v := .ref co) hC in_X1 0 rfl cls_X1 0 (by decide) fl_X1_12 rfl dX1_start_1 ?_
  refine V_iload_n hC dX1_start_4 rfl 1 rfl ?_
  refine V_iload_n hC dX1_start_5 rfl 2 rfl ?_
  refine V_callvV (As := [.int (nI p2), .int (nI b2)]) (rest := []) (wr := [(a, .inr (1, [.ref co, .ref sp, .ref bi, .ref cs, .int (nI siz), .int (nI w)])), (sp, .inr (6, [.int (nI lo), .int (nI hi)])), (bi, .inr (0, [.ref r, .int (nI n)]))]) hC (c_X2_start l D cI cQ co cr t h p b p2 b2 f ) mok_X2_start ml_X1_47 (q1 := 0) rfl cls_X2 rfl rfl rfl (by decide) (by decide) (by decide) (Nat.le_of_ble_eq_true rfl) [1, 2] [0, 3, 4] rfl (by decide) rfl (by decide) (by decide) dX1_start_6 rfl (fun u9 h6 => ?_)
  clear h6
  refine V_perm (ws2 := [(a, .inr (1, [.ref co, .ref sp, .ref bi, .ref cs, .int (nI siz), .int (nI w)])), (co, .inr (2, [.ref cr, .int (nI 9), .int (nI 0), .int (nI p2), .int (nI b2)])), (cr, .inl (cI, 9, .inl (fun j => nI (one j)))), (sp, .inr (6, [.int (nI lo), .int (nI hi)])), (bi, .inr (0, [.ref r, .int (nI n)]))]) [0, 3, 4, 1, 2] rfl (by decide) ?_
  refine V_aload_n hC dX1_start_9 rfl 0 rfl ?_
  refine V_get (ci := 1) (v := .ref sp) hC in_X1 0 rfl cls_X1 1 (by decide) fl_X1_21 rfl dX1_start_10 ?_
  refine V_callvV (As := []) (rest := []) (wr := [(a, .inr (1, [.ref co, .ref sp, .ref bi, .ref cs, .int (nI siz), .int (nI w)])), (co, .inr (2, [.ref cr, .int (nI 9), .int (nI 0), .int (nI p2), .int (nI b2)])), (cr, .inl (cI, 9, .inl (fun j => nI (one j)))), (bi, .inr (0, [.ref r, .int (nI n)]))]) hC (c_X6_start l D cI cQ sp lo hi ) mok_X6_start ml_X1_48 (q1 := 0) rfl cls_X6 rfl rfl rfl (by decide) (by decide) (by decide) (Nat.le_of_ble_eq_true rfl) [3] [0, 1, 2, 4] rfl (by decide) rfl (by decide) (by decide) dX1_start_13 rfl (fun u9 h13 => ?_)
  clear h13
  refine V_perm (ws2 := [(a, .inr (1, [.ref co, .ref sp, .ref bi, .ref cs, .int (nI siz), .int (nI w)])), (co, .inr (2, [.ref cr, .int (nI 9), .int (nI 0), .int (nI p2), .int (nI b2)])), (cr, .inl (cI, 9, .inl (fun j => nI (one j)))), (sp, .inr (6, [.int (nI 0), .int (nI 65535)])), (bi, .inr (0, [.ref r, .int (nI n)]))]) [0, 1, 2, 4, 3] rfl (by decide) ?_
  refine V_aload_n hC dX1_start_16 rfl 0 rfl ?_
  refine V_get (ci := 1) (v := .ref bi) hC in_X1 0 rfl cls_X1 2 (by decide) fl_X1_28 rfl dX1_start_17 ?_
  refine V_callvV (As := []) (rest := []) (wr := [(a, .inr (1, [.ref co, .ref sp, .ref bi, .ref cs, .int (nI siz), .int (nI w)])), (co, .inr (2, [.ref cr, .int (nI 9), .int (nI 0), .int (nI p2), .int (nI b2)])), (cr, .inl (cI, 9, .inl (fun j => nI (one j)))), (sp, .inr (6, [.int (nI 0), .int (nI 65535)]))]) hC (c_X0_empty l D cI cQ bi r n ) mok_X0_empty ml_X1_50 (q1 := 0) rfl cls_X0 rfl rfl rfl (by decide) (by decide) (by decide) (Nat.le_of_ble_eq_true rfl) [4] [0, 1, 2, 3] rfl (by decide) rfl (by decide) (by decide) dX1_start_20 rfl (fun u9 h20 => ?_)
  clear h20
  refine V_perm (ws2 := [(a, .inr (1, [.ref co, .ref sp, .ref bi, .ref cs, .int (nI siz), .int (nI w)])), (co, .inr (2, [.ref cr, .int (nI 9), .int (nI 0), .int (nI p2), .int (nI b2)])), (cr, .inl (cI, 9, .inl (fun j => nI (one j)))), (sp, .inr (6, [.int (nI 0), .int (nI 65535)])), (bi, .inr (0, [.ref r, .int (nI 0)]))]) [0, 1, 2, 3, 4] rfl (by decide) ?_
  refine V_aload_n hC dX1_start_23 rfl 0 rfl ?_
  refine V_iconst (v := nI 0) hC dX1_start_24 (by decide) ?_
  refine V_put (ci := 1) (v := .int (nI 0)) hC tyX1 tyX1_ok nmX1 in_X1 0 rfl cls_X1 4 (by decide) fl_X1_36 rfl rfl rfl (Nat.le_of_ble_eq_true rfl) dX1_start_25 (ws2 := [(a, .inr (1, [.ref co, .ref sp, .ref bi, .ref cs, .int (nI 0), .int (nI w)])), (co, .inr (2, [.ref cr, .int (nI 9), .int (nI 0), .int (nI p2), .int (nI b2)])), (cr, .inl (cI, 9, .inl (fun j => nI (one j)))), (sp, .inr (6, [.int (nI 0), .int (nI 65535)])), (bi, .inr (0, [.ref r, .int (nI 0)]))]) rfl ?_
  refine V_aload_n hC dX1_start_28 rfl 0 rfl ?_
  refine V_iconst (v := nI 0) hC dX1_start_29 (by decide) ?_
  refine V_put (ci := 1) (v := .int (nI 0)) hC tyX1 tyX1_ok nmX1 in_X1 0 rfl cls_X1 5 (by decide) fl_X1_40 rfl rfl rfl (Nat.le_of_ble_eq_true rfl) dX1_start_30 (ws2 := [(a, .inr (1, [.ref co, .ref sp, .ref bi, .ref cs, .int (nI 0), .int (nI 0)])), (co, .inr (2, [.ref cr, .int (nI 9), .int (nI 0), .int (nI p2), .int (nI b2)])), (cr, .inl (cI, 9, .inl (fun j => nI (one j)))), (sp, .inr (6, [.int (nI 0), .int (nI 65535)])), (bi, .inr (0, [.ref r, .int (nI 0)]))]) rfl ?_
  subst hQ
  exact V_vret hC hr hlk (by decide) (by decide) dX1_start_33 (()) [0, 1, 2, 3, 4] rfl (by decide) (trivial)
abbrev rm_X1_add : Room := { frames := 3, cells := 0, slots := 0, locals := 72 }
set_option maxHeartbeats 4000000 in
set_option maxRecDepth 100000 in
theorem c_X1_add (l : Launch) (D : va_G) (cI cQ : ClassId) (a co sp bi cs siz cr r p b k : Nat) (s9 : CS) (g cf : Nat → Nat) (hk : k < 9) (hS : okS s9) (hp : p ≤ 64) (hb : b ≤ 2000) (hr9 : rep g (sB s9)) (hl : (sB s9).length + sW s9 + 16 ≤ 658) (hz : siz < 40) : MI l yX1_add cX1_add 4 (some .int) rm_X1_add D (TY cI cQ) [.ref a, .int (nI k)] [(a, .inr (1, [.ref co, .ref sp, .ref bi, .ref cs, .int (nI siz), .int (nI (sW (s9)))])), (co, .inr (2, [.ref cr, .int (nI (sT (s9))), .int (nI (sH (s9))), .int (nI p), .int (nI b)])), (cr, .inl (cI, 9, .inl (fun j => nI ((sF (s9)) j)))), (sp, .inr (6, [.int (nI (sL (s9))), .int (nI (sU (s9)))])), (bi, .inr (0, [.ref r, .int (nI ((sB (s9)).length))])), (r, .inl (cI, 658, .inl (fun j => nI (g j)))), (cs, .inl (cI, 40, .inl (fun j => nI (cf j))))] (fun (r9 : Int32) (u : (Nat → Nat)) => r9 = (nI ((sB (cAdd p b s9 k)).length - (sB s9).length)) ∧ rep u (sB (cAdd p b s9 k))) (fun (u : (Nat → Nat)) => [(a, .inr (1, [.ref co, .ref sp, .ref bi, .ref cs, .int (nI (siz + 1)), .int (nI (sW (cAdd p b s9 k)))])), (co, .inr (2, [.ref cr, .int (nI (sT (cAdd p b s9 k))), .int (nI (sH (cAdd p b s9 k))), .int (nI p), .int (nI b)])), (cr, .inl (cI, 9, .inl (fun j => nI ((sF (cAdd p b s9 k)) j)))), (sp, .inr (6, [.int (nI (sL (cAdd p b s9 k))), .int (nI (sU (cAdd p b s9 k)))])), (bi, .inr (0, [.ref r, .int (nI ((sB (cAdd p b s9 k)).length))])), (r, .inl (cI, 658, .inl (fun j => nI (u j)))), (cs, .inl (cI, 40, .inl (fun j => nI ((va_up cf siz ((sB (cAdd p b s9 k)).length - (sB s9).length)) j))))]) 0 0 := by
  refine MI.start (by decide) (Nat.le_of_ble_eq_true rfl) (lv0 := [(0, .ref a), (1, .int (nI k))]) rfl ?_
  intro pp9 ee9 ss9 mm9 args9 below9 meth9 co9 A9 Q9 hQ hC hr hlk hnm
  have hle := nrS_len s9 k
  have hlr : (sB s9).length ≤ (sB (cAdd p b s9 k)).length := hle.1
  refine V_aload_n hC dX1_add_0 rfl 0 rfl ?_
  refine V_get (ci := 1) (v := .ref bi) hC in_X1 0 rfl cls_X1 2 (by decide) fl_X1_28 rfl dX1_add_1 ?_
  refine V_getN (ci := 0) (v := .int (nI ((sB (s9)).length))) hC in_X0 4 rfl cls_X0 1 (by decide) fn_X1_53 rfl dX1_add_4 ?_
  refine V_istore_n (lv2 := [(0, .ref a), (1, .int (nI k)), (2, .int (nI ((sB (s9)).length)))]) hC dX1_add_7 rfl (by decide) [1, 2, 0] rfl ?_
  refine V_aload_n hC dX1_add_8 rfl 0 rfl ?_
  refine V_iload_n hC dX1_add_9 rfl 1 rfl ?_
  refine V_callvV (As := [.int (nI k)]) (rest := []) (wr := [(cs, .inl (cI, 40, .inl (fun j => nI (cf j))))]) hC (c_X1_narrow l D cI cQ a co sp bi cs siz (sW (s9)) cr (sT (s9)) (sH (s9)) p b (sL (s9)) (sU (s9)) r ((sB (s9)).length) k (sF (s9)) g (sB s9) (hk) (hS.1) (⟨hS.2.1, hS.2.2.1⟩) (hS.wide) (rfl) (hr9) (hl)) mok_X1_narrow ml_X1_54 (q1 := 0) rfl cls_X1 rfl rfl rfl (by decide) (by decide) (by decide) (Nat.le_of_ble_eq_true rfl) [0, 1, 2, 3, 4, 5] [6] rfl (by decide) rfl (by decide) (by decide) dX1_add_10 rfl (fun u9 h10 => ?_)
  obtain ⟨g2_1, rfl⟩ : ∃ z, z = u9 := ⟨_, rfl⟩
  have h10 : rep g2_1 (nr 16 (shL (sF (s9)) (sT (s9)) k (sL (s9)) (sU (s9))) (shU (sF (s9)) (sT (s9)) k (sL (s9)) (sU (s9))) (sW (s9)) (sB s9)).2.2.2 := h10
  refine V_perm (ws2 := [(a, .inr (1, [.ref co, .ref sp, .ref bi, .ref cs, .int (nI siz), .int (nI ((nr 16 (shL (sF (s9)) (sT (s9)) k (sL (s9)) (sU (s9))) (shU (sF (s9)) (sT (s9)) k (sL (s9)) (sU (s9))) (sW (s9)) (sB s9)).2.2.1))])), (co, .inr (2, [.ref cr, .int (nI ((sT (s9)))), .int (nI ((sH (s9)))), .int (nI p), .int (nI b)])), (cr, .inl (cI, 9, .inl (fun j => nI (((sF (s9))) j)))), (sp, .inr (6, [.int (nI ((nr 16 (shL (sF (s9)) (sT (s9)) k (sL (s9)) (sU (s9))) (shU (sF (s9)) (sT (s9)) k (sL (s9)) (sU (s9))) (sW (s9)) (sB s9)).1)), .int (nI ((nr 16 (shL (sF (s9)) (sT (s9)) k (sL (s9)) (sU (s9))) (shU (sF (s9)) (sT (s9)) k (sL (s9)) (sU (s9))) (sW (s9)) (sB s9)).2.1))])), (bi, .inr (0, [.ref r, .int (nI ((nr 16 (shL (sF (s9)) (sT (s9)) k (sL (s9)) (sU (s9))) (shU (sF (s9)) (sT (s9)) k (sL (s9)) (sU (s9))) (sW (s9)) (sB s9)).2.2.2.length))])), (r, .inl (cI, 658, .inl (fun j => nI (g2_1 j)))), (cs, .inl (cI, 40, .inl (fun j => nI (cf j))))]) [1, 2, 3, 4, 5, 6, 0] rfl (by decide) ?_
  refine V_ws (ws2 := [(a, .inr (1, [.ref co, .ref sp, .ref bi, .ref cs, .int (nI siz), .int (nI (sW (cAdd p b s9 k)))])), (co, .inr (2, [.ref cr, .int (nI (sT s9)), .int (nI (sH s9)), .int (nI p), .int (nI b)])), (cr, .inl (cI, 9, .inl (fun j => nI ((sF s9) j)))), (sp, .inr (6, [.int (nI (sL (cAdd p b s9 k))), .int (nI (sU (cAdd p b s9 k)))])), (bi, .inr (0, [.ref r, .int (nI ((sB (cAdd p b s9 k)).length))])), (r, .inl (cI, 658, .inl (fun j => nI (g2_1 j)))), (cs, .inl (cI, 40, .inl (fun j => nI (cf j))))]) (rfl) ?_
  refine V_aload_n hC dX1_add_13 rfl 0 rfl ?_
  refine V_get (ci := 1) (v := .ref co) hC in_X1 0 rfl cls_X1 0 (by decide) fl_X1_12 rfl dX1_add_14 ?_
  refine V_iload_n hC dX1_add_17 rfl 1 rfl ?_
  refine V_callvV (As := [.int (nI k)]) (rest := []) (wr := [(a, .inr (1, [.ref co, .ref sp, .ref bi, .ref cs, .int (nI siz), .int (nI (sW (cAdd p b s9 k)))])), (sp, .inr (6, [.int (nI (sL (cAdd p b s9 k))), .int (nI (sU (cAdd p b s9 k)))])), (bi, .inr (0, [.ref r, .int (nI ((sB (cAdd p b s9 k)).length))])), (r, .inl (cI, 658, .inl (fun j => nI (g2_1 j)))), (cs, .inl (cI, 40, .inl (fun j => nI (cf j))))]) hC (c_X2_learn l D cI cQ co cr (sT s9) (sH s9) p b k (sF s9) (hk) (fun j hj => hS.1.le hj) (hS.1.2.2) (hp) (hb)) mok_X2_learn ml_X1_58 (q1 := 0) rfl cls_X2 rfl rfl rfl (by decide) (by decide) (by decide) (Nat.le_of_ble_eq_true rfl) [1, 2] [0, 3, 4, 5, 6] rfl (by decide) rfl (by decide) (by decide) dX1_add_18 rfl (fun u9 h18 => ?_)
  clear h18
  refine V_perm (ws2 := [(a, .inr (1, [.ref co, .ref sp, .ref bi, .ref cs, .int (nI siz), .int (nI (sW (cAdd p b s9 k)))])), (co, .inr (2, [.ref cr, .int (nI (lrT p b (sF s9) (sT s9) k)), .int (nI (lrH p b (sT s9) (sH s9))), .int (nI p), .int (nI b)])), (cr, .inl (cI, 9, .inl (fun j => nI ((lrF p b (sF s9) (sT s9) k) j)))), (sp, .inr (6, [.int (nI (sL (cAdd p b s9 k))), .int (nI (sU (cAdd p b s9 k)))])), (bi, .inr (0, [.ref r, .int (nI ((sB (cAdd p b s9 k)).length))])), (r, .inl (cI, 658, .inl (fun j => nI (g2_1 j)))), (cs, .inl (cI, 40, .inl (fun j => nI (cf j))))]) [0, 5, 6, 1, 2, 3, 4] rfl (by decide) ?_
  refine V_ws (ws2 := [(a, .inr (1, [.ref co, .ref sp, .ref bi, .ref cs, .int (nI siz), .int (nI (sW (cAdd p b s9 k)))])), (co, .inr (2, [.ref cr, .int (nI (sT (cAdd p b s9 k))), .int (nI (sH (cAdd p b s9 k))), .int (nI p), .int (nI b)])), (cr, .inl (cI, 9, .inl (fun j => nI ((sF (cAdd p b s9 k)) j)))), (sp, .inr (6, [.int (nI (sL (cAdd p b s9 k))), .int (nI (sU (cAdd p b s9 k)))])), (bi, .inr (0, [.ref r, .int (nI ((sB (cAdd p b s9 k)).length))])), (r, .inl (cI, 658, .inl (fun j => nI (g2_1 j)))), (cs, .inl (cI, 40, .inl (fun j => nI (cf j))))]) (rfl) ?_
  refine V_aload_n hC dX1_add_21 rfl 0 rfl ?_
  refine V_get (ci := 1) (v := .ref bi) hC in_X1 0 rfl cls_X1 2 (by decide) fl_X1_28 rfl dX1_add_22 ?_
  refine V_getN (ci := 0) (v := .int (nI ((sB (cAdd p b s9 k)).length))) hC in_X0 4 rfl cls_X0 1 (by decide) fn_X1_53 rfl dX1_add_25 ?_
  refine V_iload_n hC dX1_add_28 rfl 2 rfl ?_
  refine V_isub hC dX1_add_29 (by omega) ?_
  refine V_istore_n (lv2 := [(0, .ref a), (1, .int (nI k)), (2, .int (nI ((sB (s9)).length))), (3, .int (nI (((sB (cAdd p b s9 k)).length) - ((sB (s9)).length))))]) hC dX1_add_30 rfl (by decide) [1, 2, 3, 0] rfl ?_
  refine V_aload_n hC dX1_add_31 rfl 0 rfl ?_
  refine V_get (ci := 1) (v := .int (nI siz)) hC in_X1 0 rfl cls_X1 4 (by decide) fl_X1_36 rfl dX1_add_32 ?_
  refine V_if_lt_F (tgt := 70) hC dX1_add_35 (by decide) (nI_pos (by omega)) ?_
  refine V_aload_n hC dX1_add_38 rfl 0 rfl ?_
  refine V_get (ci := 1) (v := .int (nI siz)) hC in_X1 0 rfl cls_X1 4 (by decide) fl_X1_36 rfl dX1_add_39 ?_
  refine V_aload_n hC dX1_add_42 rfl 0 rfl ?_
  refine V_get (ci := 1) (v := .ref cs) hC in_X1 0 rfl cls_X1 3 (by decide) fl_X1_32 rfl dX1_add_43 ?_
  refine V_alen (v := (nI 40)) hC 6 0 rfl rfl rfl dX1_add_46 ?_
  refine V_icmp_ge_F (tgt := 70) hC dX1_add_47 (by decide) (nI_ge (by omega) (by omega)) ?_
  refine V_aload_n hC dX1_add_50 rfl 0 rfl ?_
  refine V_get (ci := 1) (v := .ref cs) hC in_X1 0 rfl cls_X1 3 (by decide) fl_X1_32 rfl dX1_add_51 ?_
  refine V_aload_n hC dX1_add_54 rfl 0 rfl ?_
  refine V_get (ci := 1) (v := .int (nI siz)) hC in_X1 0 rfl cls_X1 4 (by decide) fl_X1_36 rfl dX1_add_55 ?_
  refine V_iload_n hC dX1_add_58 rfl 3 rfl ?_
  refine V_iast hC 6 0 rfl rfl (by omega) (by decide) dX1_add_59 (ws2 := [(a, .inr (1, [.ref co, .ref sp, .ref bi, .ref cs, .int (nI siz), .int (nI (sW (cAdd p b s9 k)))])), (co, .inr (2, [.ref cr, .int (nI (sT (cAdd p b s9 k))), .int (nI (sH (cAdd p b s9 k))), .int (nI p), .int (nI b)])), (cr, .inl (cI, 9, .inl (fun j => nI ((sF (cAdd p b s9 k)) j)))), (sp, .inr (6, [.int (nI (sL (cAdd p b s9 k))), .int (nI (sU (cAdd p b s9 k)))])), (bi, .inr (0, [.ref r, .int (nI ((sB (cAdd p b s9 k)).length))])), (r, .inl (cI, 658, .inl (fun j => nI (g2_1 j)))), (cs, .inl (cI, 40, .inl (fun j => nI ((va_up cf siz (((sB (cAdd p b s9 k)).length) - ((sB (s9)).length))) j))))]) rfl ?_
  refine V_aload_n hC dX1_add_60 rfl 0 rfl ?_
  refine V_dup hC dX1_add_61 rfl ?_
  refine V_get (ci := 1) (v := .int (nI siz)) hC in_X1 0 rfl cls_X1 4 (by decide) fl_X1_36 rfl dX1_add_62 ?_
  refine V_iconst (v := nI 1) hC dX1_add_65 (by decide) ?_
  refine V_iadd hC dX1_add_66 ?_
  refine V_put (ci := 1) (v := .int (nI (siz + 1))) hC tyX1 tyX1_ok nmX1 in_X1 0 rfl cls_X1 4 (by decide) fl_X1_36 rfl rfl rfl (Nat.le_of_ble_eq_true rfl) dX1_add_67 (ws2 := [(a, .inr (1, [.ref co, .ref sp, .ref bi, .ref cs, .int (nI (siz + 1)), .int (nI (sW (cAdd p b s9 k)))])), (co, .inr (2, [.ref cr, .int (nI (sT (cAdd p b s9 k))), .int (nI (sH (cAdd p b s9 k))), .int (nI p), .int (nI b)])), (cr, .inl (cI, 9, .inl (fun j => nI ((sF (cAdd p b s9 k)) j)))), (sp, .inr (6, [.int (nI (sL (cAdd p b s9 k))), .int (nI (sU (cAdd p b s9 k)))])), (bi, .inr (0, [.ref r, .int (nI ((sB (cAdd p b s9 k)).length))])), (r, .inl (cI, 658, .inl (fun j => nI (g2_1 j)))), (cs, .inl (cI, 40, .inl (fun j => nI ((va_up cf siz (((sB (cAdd p b s9 k)).length) - ((sB (s9)).length))) j))))]) rfl ?_
  refine V_iload_n hC dX1_add_70 rfl 3 rfl ?_
  subst hQ
  exact V_iret hC hr hlk rfl (by decide) (by decide) dX1_add_71 (g2_1) [0, 1, 2, 3, 4, 5, 6] rfl (by decide) (⟨rfl, h10⟩)
abbrev rm_X1_add_full : Room := { frames := 3, cells := 0, slots := 0, locals := 72 }
set_option maxHeartbeats 4000000 in
set_option maxRecDepth 100000 in
theorem c_X1_add_full (l : Launch) (D : va_G) (cI cQ : ClassId) (a co sp bi cs siz cr r p b k : Nat) (s9 : CS) (g cf : Nat → Nat) (hk : k < 9) (hS : okS s9) (hp : p ≤ 64) (hb : b ≤ 2000) (hr9 : rep g (sB s9)) (hl : (sB s9).length + sW s9 + 16 ≤ 658) (hz : 40 ≤ siz ∧ siz < 2147483648) : MI l yX1_add cX1_add 4 (some .int) rm_X1_add_full D (TY cI cQ) [.ref a, .int (nI k)] [(a, .inr (1, [.ref co, .ref sp, .ref bi, .ref cs, .int (nI siz), .int (nI (sW (s9)))])), (co, .inr (2, [.ref cr, .int (nI (sT (s9))), .int (nI (sH (s9))), .int (nI p), .int (nI b)])), (cr, .inl (cI, 9, .inl (fun j => nI ((sF (s9)) j)))), (sp, .inr (6, [.int (nI (sL (s9))), .int (nI (sU (s9)))])), (bi, .inr (0, [.ref r, .int (nI ((sB (s9)).length))])), (r, .inl (cI, 658, .inl (fun j => nI (g j)))), (cs, .inl (cI, 40, .inl (fun j => nI (cf j))))] (fun (r9 : Int32) (u : (Nat → Nat)) => r9 = (nI ((sB (cAdd p b s9 k)).length - (sB s9).length)) ∧ rep u (sB (cAdd p b s9 k))) (fun (u : (Nat → Nat)) => [(a, .inr (1, [.ref co, .ref sp, .ref bi, .ref cs, .int (nI siz), .int (nI (sW (cAdd p b s9 k)))])), (co, .inr (2, [.ref cr, .int (nI (sT (cAdd p b s9 k))), .int (nI (sH (cAdd p b s9 k))), .int (nI p), .int (nI b)])), (cr, .inl (cI, 9, .inl (fun j => nI ((sF (cAdd p b s9 k)) j)))), (sp, .inr (6, [.int (nI (sL (cAdd p b s9 k))), .int (nI (sU (cAdd p b s9 k)))])), (bi, .inr (0, [.ref r, .int (nI ((sB (cAdd p b s9 k)).length))])), (r, .inl (cI, 658, .inl (fun j => nI (u j)))), (cs, .inl (cI, 40, .inl (fun j => nI (cf j))))]) 0 0 := by
  refine MI.start (by decide) (Nat.le_of_ble_eq_true rfl) (lv0 := [(0, .ref a), (1, .int (nI k))]) rfl ?_
  intro pp9 ee9 ss9 mm9 args9 below9 meth9 co9 A9 Q9 hQ hC hr hlk hnm
  have hle := nrS_len s9 k
  have hlr : (sB s9).length ≤ (sB (cAdd p b s9 k)).length := hle.1
  refine V_aload_n hC dX1_add_0 rfl 0 rfl ?_
  refine V_get (ci := 1) (v := .ref bi) hC in_X1 0 rfl cls_X1 2 (by decide) fl_X1_28 rfl dX1_add_1 ?_
  refine V_getN (ci := 0) (v := .int (nI ((sB (s9)).length))) hC in_X0 4 rfl cls_X0 1 (by decide) fn_X1_53 rfl dX1_add_4 ?_
  refine V_istore_n (lv2 := [(0, .ref a), (1, .int (nI k)), (2, .int (nI ((sB (s9)).length)))]) hC dX1_add_7 rfl (by decide) [1, 2, 0] rfl ?_
  refine V_aload_n hC dX1_add_8 rfl 0 rfl ?_
  refine V_iload_n hC dX1_add_9 rfl 1 rfl ?_
  refine V_callvV (As := [.int (nI k)]) (rest := []) (wr := [(cs, .inl (cI, 40, .inl (fun j => nI (cf j))))]) hC (c_X1_narrow l D cI cQ a co sp bi cs siz (sW (s9)) cr (sT (s9)) (sH (s9)) p b (sL (s9)) (sU (s9)) r ((sB (s9)).length) k (sF (s9)) g (sB s9) (hk) (hS.1) (⟨hS.2.1, hS.2.2.1⟩) (hS.wide) (rfl) (hr9) (hl)) mok_X1_narrow ml_X1_54 (q1 := 0) rfl cls_X1 rfl rfl rfl (by decide) (by decide) (by decide) (Nat.le_of_ble_eq_true rfl) [0, 1, 2, 3, 4, 5] [6] rfl (by decide) rfl (by decide) (by decide) dX1_add_10 rfl (fun u9 h10 => ?_)
  obtain ⟨g2_1, rfl⟩ : ∃ z, z = u9 := ⟨_, rfl⟩
  have h10 : rep g2_1 (nr 16 (shL (sF (s9)) (sT (s9)) k (sL (s9)) (sU (s9))) (shU (sF (s9)) (sT (s9)) k (sL (s9)) (sU (s9))) (sW (s9)) (sB s9)).2.2.2 := h10
  refine V_perm (ws2 := [(a, .inr (1, [.ref co, .ref sp, .ref bi, .ref cs, .int (nI siz), .int (nI ((nr 16 (shL (sF (s9)) (sT (s9)) k (sL (s9)) (sU (s9))) (shU (sF (s9)) (sT (s9)) k (sL (s9)) (sU (s9))) (sW (s9)) (sB s9)).2.2.1))])), (co, .inr (2, [.ref cr, .int (nI ((sT (s9)))), .int (nI ((sH (s9)))), .int (nI p), .int (nI b)])), (cr, .inl (cI, 9, .inl (fun j => nI (((sF (s9))) j)))), (sp, .inr (6, [.int (nI ((nr 16 (shL (sF (s9)) (sT (s9)) k (sL (s9)) (sU (s9))) (shU (sF (s9)) (sT (s9)) k (sL (s9)) (sU (s9))) (sW (s9)) (sB s9)).1)), .int (nI ((nr 16 (shL (sF (s9)) (sT (s9)) k (sL (s9)) (sU (s9))) (shU (sF (s9)) (sT (s9)) k (sL (s9)) (sU (s9))) (sW (s9)) (sB s9)).2.1))])), (bi, .inr (0, [.ref r, .int (nI ((nr 16 (shL (sF (s9)) (sT (s9)) k (sL (s9)) (sU (s9))) (shU (sF (s9)) (sT (s9)) k (sL (s9)) (sU (s9))) (sW (s9)) (sB s9)).2.2.2.length))])), (r, .inl (cI, 658, .inl (fun j => nI (g2_1 j)))), (cs, .inl (cI, 40, .inl (fun j => nI (cf j))))]) [1, 2, 3, 4, 5, 6, 0] rfl (by decide) ?_
  refine V_ws (ws2 := [(a, .inr (1, [.ref co, .ref sp, .ref bi, .ref cs, .int (nI siz), .int (nI (sW (cAdd p b s9 k)))])), (co, .inr (2, [.ref cr, .int (nI (sT s9)), .int (nI (sH s9)), .int (nI p), .int (nI b)])), (cr, .inl (cI, 9, .inl (fun j => nI ((sF s9) j)))), (sp, .inr (6, [.int (nI (sL (cAdd p b s9 k))), .int (nI (sU (cAdd p b s9 k)))])), (bi, .inr (0, [.ref r, .int (nI ((sB (cAdd p b s9 k)).length))])), (r, .inl (cI, 658, .inl (fun j => nI (g2_1 j)))), (cs, .inl (cI, 40, .inl (fun j => nI (cf j))))]) (rfl) ?_
  refine V_aload_n hC dX1_add_13 rfl 0 rfl ?_
  refine V_get (ci := 1) (v := .ref co) hC in_X1 0 rfl cls_X1 0 (by decide) fl_X1_12 rfl dX1_add_14 ?_
  refine V_iload_n hC dX1_add_17 rfl 1 rfl ?_
  refine V_callvV (As := [.int (nI k)]) (rest := []) (wr := [(a, .inr (1, [.ref co, .ref sp, .ref bi, .ref cs, .int (nI siz), .int (nI (sW (cAdd p b s9 k)))])), (sp, .inr (6, [.int (nI (sL (cAdd p b s9 k))), .int (nI (sU (cAdd p b s9 k)))])), (bi, .inr (0, [.ref r, .int (nI ((sB (cAdd p b s9 k)).length))])), (r, .inl (cI, 658, .inl (fun j => nI (g2_1 j)))), (cs, .inl (cI, 40, .inl (fun j => nI (cf j))))]) hC (c_X2_learn l D cI cQ co cr (sT s9) (sH s9) p b k (sF s9) (hk) (fun j hj => hS.1.le hj) (hS.1.2.2) (hp) (hb)) mok_X2_learn ml_X1_58 (q1 := 0) rfl cls_X2 rfl rfl rfl (by decide) (by decide) (by decide) (Nat.le_of_ble_eq_true rfl) [1, 2] [0, 3, 4, 5, 6] rfl (by decide) rfl (by decide) (by decide) dX1_add_18 rfl (fun u9 h18 => ?_)
  clear h18
  refine V_perm (ws2 := [(a, .inr (1, [.ref co, .ref sp, .ref bi, .ref cs, .int (nI siz), .int (nI (sW (cAdd p b s9 k)))])), (co, .inr (2, [.ref cr, .int (nI (lrT p b (sF s9) (sT s9) k)), .int (nI (lrH p b (sT s9) (sH s9))), .int (nI p), .int (nI b)])), (cr, .inl (cI, 9, .inl (fun j => nI ((lrF p b (sF s9) (sT s9) k) j)))), (sp, .inr (6, [.int (nI (sL (cAdd p b s9 k))), .int (nI (sU (cAdd p b s9 k)))])), (bi, .inr (0, [.ref r, .int (nI ((sB (cAdd p b s9 k)).length))])), (r, .inl (cI, 658, .inl (fun j => nI (g2_1 j)))), (cs, .inl (cI, 40, .inl (fun j => nI (cf j))))]) [0, 5, 6, 1, 2, 3, 4] rfl (by decide) ?_
  refine V_ws (ws2 := [(a, .inr (1, [.ref co, .ref sp, .ref bi, .ref cs, .int (nI siz), .int (nI (sW (cAdd p b s9 k)))])), (co, .inr (2, [.ref cr, .int (nI (sT (cAdd p b s9 k))), .int (nI (sH (cAdd p b s9 k))), .int (nI p), .int (nI b)])), (cr, .inl (cI, 9, .inl (fun j => nI ((sF (cAdd p b s9 k)) j)))), (sp, .inr (6, [.int (nI (sL (cAdd p b s9 k))), .int (nI (sU (cAdd p b s9 k)))])), (bi, .inr (0, [.ref r, .int (nI ((sB (cAdd p b s9 k)).length))])), (r, .inl (cI, 658, .inl (fun j => nI (g2_1 j)))), (cs, .inl (cI, 40, .inl (fun j => nI (cf j))))]) (rfl) ?_
  refine V_aload_n hC dX1_add_21 rfl 0 rfl ?_
  refine V_get (ci := 1) (v := .ref bi) hC in_X1 0 rfl cls_X1 2 (by decide) fl_X1_28 rfl dX1_add_22 ?_
  refine V_getN (ci := 0) (v := .int (nI ((sB (cAdd p b s9 k)).length))) hC in_X0 4 rfl cls_X0 1 (by decide) fn_X1_53 rfl dX1_add_25 ?_
  refine V_iload_n hC dX1_add_28 rfl 2 rfl ?_
  refine V_isub hC dX1_add_29 (by omega) ?_
  refine V_istore_n (lv2 := [(0, .ref a), (1, .int (nI k)), (2, .int (nI ((sB (s9)).length))), (3, .int (nI (((sB (cAdd p b s9 k)).length) - ((sB (s9)).length))))]) hC dX1_add_30 rfl (by decide) [1, 2, 3, 0] rfl ?_
  refine V_aload_n hC dX1_add_31 rfl 0 rfl ?_
  refine V_get (ci := 1) (v := .int (nI siz)) hC in_X1 0 rfl cls_X1 4 (by decide) fl_X1_36 rfl dX1_add_32 ?_
  refine V_if_lt_F (tgt := 70) hC dX1_add_35 (by decide) (nI_pos (by omega)) ?_
  refine V_aload_n hC dX1_add_38 rfl 0 rfl ?_
  refine V_get (ci := 1) (v := .int (nI siz)) hC in_X1 0 rfl cls_X1 4 (by decide) fl_X1_36 rfl dX1_add_39 ?_
  refine V_aload_n hC dX1_add_42 rfl 0 rfl ?_
  refine V_get (ci := 1) (v := .ref cs) hC in_X1 0 rfl cls_X1 3 (by decide) fl_X1_32 rfl dX1_add_43 ?_
  refine V_alen (v := (nI 40)) hC 6 0 rfl rfl rfl dX1_add_46 ?_
  refine V_icmp_ge_T (tgt := 70) hC dX1_add_47 (by decide) (nI_le (by omega) (by omega)) ?_
  refine V_iload_n hC dX1_add_70 rfl 3 rfl ?_
  subst hQ
  exact V_iret hC hr hlk rfl (by decide) (by decide) dX1_add_71 (g2_1) [0, 1, 2, 3, 4, 5, 6] rfl (by decide) (⟨rfl, h10⟩)
abbrev rm_X4_letterAt : Room := { frames := 0, cells := 0, slots := 0, locals := 0 }
set_option maxHeartbeats 4000000 in
set_option maxRecDepth 100000 in
theorem c_X4_letterAt (l : Launch) (D : va_G) (cI cQ : ClassId) (a r n e p b i : Nat) (g : Nat → Nat) (hi : i < 40) : MI l yX4_letterAt cX4_letterAt 2 (some .int) rm_X4_letterAt D (TY cI cQ) [.ref a, .int (nI i)] [(a, .inr (4, [.ref r, .int (nI n), .int (nI e), .int (nI p), .int (nI b)])), (r, .inl (cI, 40, .inl (fun j => nI (g j))))] (fun (r9 : Int32) (u : Unit) => r9 = (nI (g i)) ∧ True) (fun (u : Unit) => [(a, .inr (4, [.ref r, .int (nI n), .int (nI e), .int (nI p), .int (nI b)])), (r, .inl (cI, 40, .inl (fun j => nI (g j))))]) 0 0 := by
  refine MI.start (by decide) (Nat.le_of_ble_eq_true rfl) (lv0 := [(0, .ref a), (1, .int (nI i))]) rfl ?_
  intro pp9 ee9 ss9 mm9 args9 below9 meth9 co9 A9 Q9 hQ hC hr hlk hnm
  refine V_iload_n hC dX4_letterAt_0 rfl 1 rfl ?_
  refine V_if_lt_F (tgt := 22) hC dX4_letterAt_1 (by decide) (nI_pos (by omega)) ?_
  refine V_iload_n hC dX4_letterAt_4 rfl 1 rfl ?_
  refine V_aload_n hC dX4_letterAt_5 rfl 0 rfl ?_
  refine V_get (ci := 4) (v := .ref r) hC in_X4 0 rfl cls_X4 0 (by decide) fl_X4_9 rfl dX4_letterAt_6 ?_
  refine V_alen (v := (nI 40)) hC 1 0 rfl rfl rfl dX4_letterAt_9 ?_
  refine V_icmp_ge_F (tgt := 22) hC dX4_letterAt_10 (by decide) (nI_ge (by omega) (by omega)) ?_
  refine V_aload_n hC dX4_letterAt_13 rfl 0 rfl ?_
  refine V_get (ci := 4) (v := .ref r) hC in_X4 0 rfl cls_X4 0 (by decide) fl_X4_9 rfl dX4_letterAt_14 ?_
  refine V_iload_n hC dX4_letterAt_17 rfl 1 rfl ?_
  refine V_iald hC 1 0 rfl rfl (by omega) (by decide) dX4_letterAt_18 ?_
  refine V_goto (tgt := 23) hC dX4_letterAt_19 (by decide) ?_
  subst hQ
  exact V_iret hC hr hlk rfl (by decide) (by decide) dX4_letterAt_23 (()) [0, 1] rfl (by decide) (⟨rfl, trivial⟩)
abbrev rm_X1_addAll : Room := { frames := 4, cells := 0, slots := 0, locals := 95 }
set_option maxHeartbeats 4000000 in
set_option maxRecDepth 100000 in
theorem c_X1_addAll (l : Launch) (D : va_G) (cI cQ : ClassId) (a co sp bi cs cr r p b o or n e p3 b3 : Nat) (g cf gl : Nat → Nat) (hn : n ≤ 40) (hg : ∀ j, j < n → gl j < 8) (hp : p ≤ 64) (hb : b ≤ 2000) : MV l yX1_addAll cX1_addAll 3 none rm_X1_addAll D (TY cI cQ) [.ref a, .ref o] [(a, .inr (1, [.ref co, .ref sp, .ref bi, .ref cs, .int (nI 0), .int (nI 0)])), (co, .inr (2, [.ref cr, .int (nI 9), .int (nI 0), .int (nI p), .int (nI b)])), (cr, .inl (cI, 9, .inl (fun j => nI (one j)))), (sp, .inr (6, [.int (nI 0), .int (nI 65535)])), (bi, .inr (0, [.ref r, .int (nI 0)])), (r, .inl (cI, 658, .inl (fun j => nI (g j)))), (cs, .inl (cI, 40, .inl (fun j => nI (cf j)))), (o, .inr (4, [.ref or, .int (nI n), .int (nI e), .int (nI p3), .int (nI b3)])), (or, .inl (cI, 40, .inl (fun j => nI (gl j))))] (fun (u : (Nat → Nat) × (Nat → Nat)) => rep u.1 (sB (cR p b gl n)) ∧ ∀ j, j < n → u.2 j = cost p b gl j) (fun (u : (Nat → Nat) × (Nat → Nat)) => [(a, .inr (1, [.ref co, .ref sp, .ref bi, .ref cs, .int (nI n), .int (nI (sW (cR p b gl n)))])), (co, .inr (2, [.ref cr, .int (nI (sT (cR p b gl n))), .int (nI (sH (cR p b gl n))), .int (nI p), .int (nI b)])), (cr, .inl (cI, 9, .inl (fun j => nI ((sF (cR p b gl n)) j)))), (sp, .inr (6, [.int (nI (sL (cR p b gl n))), .int (nI (sU (cR p b gl n)))])), (bi, .inr (0, [.ref r, .int (nI ((sB (cR p b gl n)).length))])), (r, .inl (cI, 658, .inl (fun j => nI (u.1 j)))), (cs, .inl (cI, 40, .inl (fun j => nI (u.2 j)))), (o, .inr (4, [.ref or, .int (nI n), .int (nI e), .int (nI p3), .int (nI b3)])), (or, .inl (cI, 40, .inl (fun j => nI (gl j))))]) 0 0 := by
  refine MV.start (by decide) (Nat.le_of_ble_eq_true rfl) (lv0 := [(0, .ref a), (1, .ref o)]) rfl ?_
  intro pp9 ee9 ss9 mm9 args9 below9 meth9 co9 A9 Q9 hQ hC hr hlk hnm
  refine V_iconst (v := nI 0) hC dX1_addAll_0 (by decide) ?_
  refine V_istore_n (lv2 := [(0, .ref a), (1, .ref o), (2, .int (nI 0))]) hC dX1_addAll_1 rfl (by decide) [1, 2, 0] rfl ?_
  have L2 : ∀ (n9 : Nat) (i : Nat) (g2 : Nat → Nat) (cf2 : Nat → Nat), (i ≤ n) → (rep g2 (sB (cR p b gl i))) → (∀ j, j < i → cf2 j = cost p b gl j) → n - i < n9 → V pp9 l ee9 rm_X1_addAll ss9 mm9 args9 below9 meth9 co9 D A9 ss9.heap 3 Q9 [(a, .inr (1, [.ref co, .ref sp, .ref bi, .ref cs, .int (nI i), .int (nI (sW (cR p b gl i)))])), (co, .inr (2, [.ref cr, .int (nI (sT (cR p b gl i))), .int (nI (sH (cR p b gl i))), .int (nI p), .int (nI b)])), (cr, .inl (cI, 9, .inl (fun j => nI ((sF (cR p b gl i)) j)))), (sp, .inr (6, [.int (nI (sL (cR p b gl i))), .int (nI (sU (cR p b gl i)))])), (bi, .inr (0, [.ref r, .int (nI ((sB (cR p b gl i)).length))])), (r, .inl (cI, 658, .inl (fun j => nI (g2 j)))), (cs, .inl (cI, 40, .inl (fun j => nI (cf2 j)))), (o, .inr (4, [.ref or, .int (nI n), .int (nI e), .int (nI p3), .int (nI b3)])), (or, .inl (cI, 40, .inl (fun j => nI (gl j))))] [(0, .ref a), (1, .ref o), (2, .int (nI i))] 0 0 2 [] := by
    intro n9
    induction n9 with
    | zero => intro i g2 cf2 h1 h2 h3 h9; exact absurd h9 (Nat.not_lt_zero _)
    | succ n9 ih =>
      intro i g2 cf2 h1 h2 h3 h9
      refine V_iload_n hC dX1_addAll_2 rfl 2 rfl ?_
      refine V_aload_n hC dX1_addAll_3 rfl 1 rfl ?_
      refine V_getN (ci := 4) (v := .int (nI n)) hC in_X4 7 rfl cls_X4 1 (by decide) fn_X1_61 rfl dX1_addAll_4 ?_
      refine V_icmp_ge (tgt := 26) hC (by omega) (by omega) dX1_addAll_7 (by decide) (fun c7 => ?_) (fun c7 => ?_)
      · have ei9 : i = n := by omega
        subst ei9
        subst hQ
        exact V_vret hC hr hlk (by decide) (by decide) dX1_addAll_26 ((g2, cf2)) [0, 1, 2, 3, 4, 5, 6, 7, 8] rfl (by decide) (⟨h2, h3⟩)
      · refine V_aload_n hC dX1_addAll_10 rfl 0 rfl ?_
        refine V_aload_n hC dX1_addAll_11 rfl 1 rfl ?_
        refine V_iload_n hC dX1_addAll_12 rfl 2 rfl ?_
        refine V_calliV (As := [.int (nI i)]) (rest := [.ref a]) (wr := [(a, .inr (1, [.ref co, .ref sp, .ref bi, .ref cs, .int (nI i), .int (nI (sW (cR p b gl i)))])), (co, .inr (2, [.ref cr, .int (nI (sT (cR p b gl i))), .int (nI (sH (cR p b gl i))), .int (nI p), .int (nI b)])), (cr, .inl (cI, 9, .inl (fun j => nI ((sF (cR p b gl i)) j)))), (sp, .inr (6, [.int (nI (sL (cR p b gl i))), .int (nI (sU (cR p b gl i)))])), (bi, .inr (0, [.ref r, .int (nI ((sB (cR p b gl i)).length))])), (r, .inl (cI, 658, .inl (fun j => nI (g2 j)))), (cs, .inl (cI, 40, .inl (fun j => nI (cf2 j))))]) hC (c_X4_letterAt l D cI cQ o or n e p3 b3 i gl (by omega)) mok_X4_letterAt ml_X1_64 (q1 := 0) rfl cls_X4 rfl rfl rfl (by decide) (by decide) (by decide) (Nat.le_of_ble_eq_true rfl) [7, 8] [0, 1, 2, 3, 4, 5, 6] rfl (by decide) rfl (by decide) (by decide) dX1_addAll_13 rfl (fun r9 u9 h13 => ?_)
        obtain ⟨rfl, h13⟩ := h13
        clear h13
        refine V_perm (ws2 := [(a, .inr (1, [.ref co, .ref sp, .ref bi, .ref cs, .int (nI i), .int (nI (sW (cR p b gl i)))])), (co, .inr (2, [.ref cr, .int (nI (sT (cR p b gl i))), .int (nI (sH (cR p b gl i))), .int (nI p), .int (nI b)])), (cr, .inl (cI, 9, .inl (fun j => nI ((sF (cR p b gl i)) j)))), (sp, .inr (6, [.int (nI (sL (cR p b gl i))), .int (nI (sU (cR p b gl i)))])), (bi, .inr (0, [.ref r, .int (nI ((sB (cR p b gl i)).length))])), (r, .inl (cI, 658, .inl (fun j => nI (g2 j)))), (cs, .inl (cI, 40, .inl (fun j => nI (cf2 j)))), (o, .inr (4, [.ref or, .int (nI n), .int (nI e), .int (nI p3), .int (nI b3)])), (or, .inl (cI, 40, .inl (fun j => nI (gl j))))]) [0, 1, 2, 3, 4, 5, 6, 7, 8] rfl (by decide) ?_
        refine V_calliV (As := [.int (nI (gl i))]) (rest := []) (wr := [(o, .inr (4, [.ref or, .int (nI n), .int (nI e), .int (nI p3), .int (nI b3)])), (or, .inl (cI, 40, .inl (fun j => nI (gl j))))]) hC (c_X1_add l D cI cQ a co sp bi cs i cr r p b (gl i) (cR p b gl i) g2 cf2 (by have := hg i c7; omega) (cR_ok hp hb (fun j hj => hg j (by omega))) (hp) (hb) (h2) (by have := cR_len p b gl i; omega) (by omega)) mok_X1_add ml_X1_68 (q1 := 0) rfl cls_X1 rfl rfl rfl (by decide) (by decide) (by decide) (Nat.le_of_ble_eq_true rfl) [0, 1, 2, 3, 4, 5, 6] [7, 8] rfl (by decide) rfl (by decide) (by decide) dX1_addAll_16 rfl (fun r9 u9 h16 => ?_)
        obtain ⟨g2_1, rfl⟩ : ∃ z, z = u9 := ⟨_, rfl⟩
        obtain ⟨rfl, h16⟩ := h16
        have h16 : rep g2_1 (sB (cAdd p b (cR p b gl i) (gl i))) := h16
        refine V_perm (ws2 := [(a, .inr (1, [.ref co, .ref sp, .ref bi, .ref cs, .int (nI (i + 1)), .int (nI (sW (cAdd p b (cR p b gl i) (gl i))))])), (co, .inr (2, [.ref cr, .int (nI (sT (cAdd p b (cR p b gl i) (gl i)))), .int (nI (sH (cAdd p b (cR p b gl i) (gl i)))), .int (nI p), .int (nI b)])), (cr, .inl (cI, 9, .inl (fun j => nI ((sF (cAdd p b (cR p b gl i) (gl i))) j)))), (sp, .inr (6, [.int (nI (sL (cAdd p b (cR p b gl i) (gl i)))), .int (nI (sU (cAdd p b (cR p b gl i) (gl i))))])), (bi, .inr (0, [.ref r, .int (nI ((sB (cAdd p b (cR p b gl i) (gl i))).length))])), (r, .inl (cI, 658, .inl (fun j => nI (g2_1 j)))), (cs, .inl (cI, 40, .inl (fun j => nI ((va_up cf2 i ((sB (cAdd p b (cR p b gl i) (gl i))).length - (sB (cR p b gl i)).length)) j)))), (o, .inr (4, [.ref or, .int (nI n), .int (nI e), .int (nI p3), .int (nI b3)])), (or, .inl (cI, 40, .inl (fun j => nI (gl j))))]) [2, 3, 4, 5, 6, 7, 8, 0, 1] rfl (by decide) ?_
        refine V_pop hC dX1_addAll_19 rfl ?_
        refine V_iinc (v := (nI (i + 1))) (lv2 := [(0, .ref a), (1, .ref o), (2, .int (nI (i + 1)))]) (q := 2) hC dX1_addAll_20 rfl (nI_add _ _) (by decide) [1, 2, 0] rfl ?_
        refine V_goto (tgt := 2) hC dX1_addAll_23 (by decide) ?_
        refine V_ws (ws2 := [(a, .inr (1, [.ref co, .ref sp, .ref bi, .ref cs, .int (nI (i + 1)), .int (nI (sW (cR p b gl (i + 1))))])), (co, .inr (2, [.ref cr, .int (nI (sT (cR p b gl (i + 1)))), .int (nI (sH (cR p b gl (i + 1)))), .int (nI p), .int (nI b)])), (cr, .inl (cI, 9, .inl (fun j => nI ((sF (cR p b gl (i + 1))) j)))), (sp, .inr (6, [.int (nI (sL (cR p b gl (i + 1)))), .int (nI (sU (cR p b gl (i + 1))))])), (bi, .inr (0, [.ref r, .int (nI ((sB (cR p b gl (i + 1))).length))])), (r, .inl (cI, 658, .inl (fun j => nI (g2_1 j)))), (cs, .inl (cI, 40, .inl (fun j => nI ((va_up cf2 i (cost p b gl i)) j)))), (o, .inr (4, [.ref or, .int (nI n), .int (nI e), .int (nI p3), .int (nI b3)])), (or, .inl (cI, 40, .inl (fun j => nI (gl j))))]) (rfl) ?_
        exact ih (i + 1) g2_1 (va_up cf2 i (cost p b gl i)) (by first | assumption | omega) (by first | assumption | omega) (lt_s (fun j hj => by rw [va_up_ne cf2 _ (show j ≠ i by omega)]; exact h3 j hj) (va_up_self cf2 i _)) (by omega)
  exact L2 _ 0 g cf (by omega) (rep_nil _) (fun j hj => absurd hj (Nat.not_lt_zero j)) (Nat.lt_succ_self _)
abbrev rm_X1_close : Room := { frames := 3, cells := 0, slots := 0, locals := 72 }
set_option maxHeartbeats 4000000 in
set_option maxRecDepth 100000 in
theorem c_X1_close (l : Launch) (D : va_G) (cI cQ : ClassId) (a co sp bi cs siz cr r p b : Nat) (s9 : CS) (g : Nat → Nat) (hS : okS s9) (hr9 : rep g (sB s9)) (hl : (sB s9).length + sW s9 + 18 ≤ 658) : MV l yX1_close cX1_close 1 none rm_X1_close D (TY cI cQ) [.ref a] [(a, .inr (1, [.ref co, .ref sp, .ref bi, .ref cs, .int (nI siz), .int (nI (sW (s9)))])), (co, .inr (2, [.ref cr, .int (nI (sT (s9))), .int (nI (sH (s9))), .int (nI p), .int (nI b)])), (cr, .inl (cI, 9, .inl (fun j => nI ((sF (s9)) j)))), (sp, .inr (6, [.int (nI (sL (s9))), .int (nI (sU (s9)))])), (bi, .inr (0, [.ref r, .int (nI ((sB (s9)).length))])), (r, .inl (cI, 658, .inl (fun j => nI (g j))))] (fun (u : (Nat → Nat)) => rep u (sB (cEnd s9))) (fun (u : (Nat → Nat)) => [(a, .inr (1, [.ref co, .ref sp, .ref bi, .ref cs, .int (nI siz), .int (nI (sW (cEnd s9)))])), (co, .inr (2, [.ref cr, .int (nI (sT (cEnd s9))), .int (nI (sH (cEnd s9))), .int (nI p), .int (nI b)])), (cr, .inl (cI, 9, .inl (fun j => nI ((sF (cEnd s9)) j)))), (sp, .inr (6, [.int (nI (sL (cEnd s9))), .int (nI (sU (cEnd s9)))])), (bi, .inr (0, [.ref r, .int (nI ((sB (cEnd s9)).length))])), (r, .inl (cI, 658, .inl (fun j => nI (u j))))]) 0 0 := by
  refine MV.start (by decide) (Nat.le_of_ble_eq_true rfl) (lv0 := [(0, .ref a)]) rfl ?_
  intro pp9 ee9 ss9 mm9 args9 below9 meth9 co9 A9 Q9 hQ hC hr hlk hnm
  have hle := nrS_len s9 8
  have hnk := nrS_ok hS (by decide : 8 < 9)
  refine V_aload_n hC dX1_close_0 rfl 0 rfl ?_
  refine V_bipush (v := nI 8) hC dX1_close_1 (by decide) ?_
  refine V_callvV (As := [.int (nI 8)]) (rest := []) (wr := []) hC (c_X1_narrow l D cI cQ a co sp bi cs siz (sW (s9)) cr (sT (s9)) (sH (s9)) p b (sL (s9)) (sU (s9)) r ((sB (s9)).length) 8 (sF (s9)) g (sB s9) (by decide) (hS.1) (⟨hS.2.1, hS.2.2.1⟩) (hS.wide) (rfl) (hr9) (by omega)) mok_X1_narrow ml_X1_54 (q1 := 0) rfl cls_X1 rfl rfl rfl (by decide) (by decide) (by decide) (Nat.le_of_ble_eq_true rfl) [0, 1, 2, 3, 4, 5] [] rfl (by decide) rfl (by decide) (by decide) dX1_close_3 rfl (fun u9 h3 => ?_)
  obtain ⟨g2_1, rfl⟩ : ∃ z, z = u9 := ⟨_, rfl⟩
  have h3 : rep g2_1 (nr 16 (shL (sF (s9)) (sT (s9)) 8 (sL (s9)) (sU (s9))) (shU (sF (s9)) (sT (s9)) 8 (sL (s9)) (sU (s9))) (sW (s9)) (sB s9)).2.2.2 := h3
  refine V_perm (ws2 := [(a, .inr (1, [.ref co, .ref sp, .ref bi, .ref cs, .int (nI siz), .int (nI ((nr 16 (shL (sF (s9)) (sT (s9)) 8 (sL (s9)) (sU (s9))) (shU (sF (s9)) (sT (s9)) 8 (sL (s9)) (sU (s9))) (sW (s9)) (sB s9)).2.2.1))])), (co, .inr (2, [.ref cr, .int (nI ((sT (s9)))), .int (nI ((sH (s9)))), .int (nI p), .int (nI b)])), (cr, .inl (cI, 9, .inl (fun j => nI (((sF (s9))) j)))), (sp, .inr (6, [.int (nI ((nr 16 (shL (sF (s9)) (sT (s9)) 8 (sL (s9)) (sU (s9))) (shU (sF (s9)) (sT (s9)) 8 (sL (s9)) (sU (s9))) (sW (s9)) (sB s9)).1)), .int (nI ((nr 16 (shL (sF (s9)) (sT (s9)) 8 (sL (s9)) (sU (s9))) (shU (sF (s9)) (sT (s9)) 8 (sL (s9)) (sU (s9))) (sW (s9)) (sB s9)).2.1))])), (bi, .inr (0, [.ref r, .int (nI ((nr 16 (shL (sF (s9)) (sT (s9)) 8 (sL (s9)) (sU (s9))) (shU (sF (s9)) (sT (s9)) 8 (sL (s9)) (sU (s9))) (sW (s9)) (sB s9)).2.2.2.length))])), (r, .inl (cI, 658, .inl (fun j => nI (g2_1 j))))]) [0, 1, 2, 3, 4, 5] rfl (by decide) ?_
  refine V_ws (ws2 := [(a, .inr (1, [.ref co, .ref sp, .ref bi, .ref cs, .int (nI siz), .int (nI ((nrS s9 8).2.2.1))])), (co, .inr (2, [.ref cr, .int (nI (sT s9)), .int (nI (sH s9)), .int (nI p), .int (nI b)])), (cr, .inl (cI, 9, .inl (fun j => nI ((sF s9) j)))), (sp, .inr (6, [.int (nI ((nrS s9 8).1)), .int (nI ((nrS s9 8).2.1))])), (bi, .inr (0, [.ref r, .int (nI ((nrS s9 8).2.2.2.length))])), (r, .inl (cI, 658, .inl (fun j => nI (g2_1 j))))]) (rfl) ?_
  refine V_aload_n hC dX1_close_6 rfl 0 rfl ?_
  refine V_dup hC dX1_close_7 rfl ?_
  refine V_get (ci := 1) (v := .int (nI ((nrS s9 8).2.2.1))) hC in_X1 0 rfl cls_X1 5 (by decide) fl_X1_40 rfl dX1_close_8 ?_
  refine V_iconst (v := nI 1) hC dX1_close_11 (by decide) ?_
  refine V_iadd hC dX1_close_12 ?_
  refine V_put (ci := 1) (v := .int (nI (((nrS s9 8).2.2.1) + 1))) hC tyX1 tyX1_ok nmX1 in_X1 0 rfl cls_X1 5 (by decide) fl_X1_40 rfl rfl rfl (Nat.le_of_ble_eq_true rfl) dX1_close_13 (ws2 := [(a, .inr (1, [.ref co, .ref sp, .ref bi, .ref cs, .int (nI siz), .int (nI (((nrS s9 8).2.2.1) + 1))])), (co, .inr (2, [.ref cr, .int (nI (sT s9)), .int (nI (sH s9)), .int (nI p), .int (nI b)])), (cr, .inl (cI, 9, .inl (fun j => nI ((sF s9) j)))), (sp, .inr (6, [.int (nI ((nrS s9 8).1)), .int (nI ((nrS s9 8).2.1))])), (bi, .inr (0, [.ref r, .int (nI ((nrS s9 8).2.2.2.length))])), (r, .inl (cI, 658, .inl (fun j => nI (g2_1 j))))]) rfl ?_
  refine V_aload_n hC dX1_close_16 rfl 0 rfl ?_
  refine V_aload_n hC dX1_close_17 rfl 0 rfl ?_
  refine V_get (ci := 1) (v := .ref sp) hC in_X1 0 rfl cls_X1 1 (by decide) fl_X1_21 rfl dX1_close_18 ?_
  refine V_getN (ci := 6) (v := .int (nI ((nrS s9 8).1))) hC in_X6 3 rfl cls_X6 0 (by decide) fn_X1_71 rfl dX1_close_21 ?_
  refine V_sipush (v := nI 16384) hC dX1_close_24 (by decide) ?_
  refine V_icmp_ge (tgt := 34) hC (by omega) (by omega) dX1_close_27 (by decide) (fun c27 => ?_) (fun c27 => ?_)
  · refine V_iconst (v := nI 1) hC dX1_close_34 (by decide) ?_
    refine V_callvV (As := [.int (nI 1)]) (rest := []) (wr := [(co, .inr (2, [.ref cr, .int (nI (sT s9)), .int (nI (sH s9)), .int (nI p), .int (nI b)])), (cr, .inl (cI, 9, .inl (fun j => nI ((sF s9) j)))), (sp, .inr (6, [.int (nI ((nrS s9 8).1)), .int (nI ((nrS s9 8).2.1))]))]) hC (c_X1_writeBit l D cI cQ a co sp bi cs siz (((nrS s9 8).2.2.1) + 1) r ((nrS s9 8).2.2.2.length) 1 g2_1 ((nrS s9 8).2.2.2) (rfl) (h3) (by omega) (by omega)) mok_X1_writeBit ml_X1_74 (q1 := 0) rfl cls_X1 rfl rfl rfl (by decide) (by decide) (by decide) (Nat.le_of_ble_eq_true rfl) [0, 4, 5] [1, 2, 3] rfl (by decide) rfl (by decide) (by decide) dX1_close_35 rfl (fun u9 h35 => ?_)
    obtain ⟨g2_2, rfl⟩ : ∃ z, z = u9 := ⟨_, rfl⟩
    have h35 : rep g2_2 (wB ((nrS s9 8).2.2.2) (((nrS s9 8).2.2.1) + 1) 1) := h35
    refine V_perm (ws2 := [(a, .inr (1, [.ref co, .ref sp, .ref bi, .ref cs, .int (nI siz), .int (nI 0)])), (co, .inr (2, [.ref cr, .int (nI (sT s9)), .int (nI (sH s9)), .int (nI p), .int (nI b)])), (cr, .inl (cI, 9, .inl (fun j => nI ((sF s9) j)))), (sp, .inr (6, [.int (nI ((nrS s9 8).1)), .int (nI ((nrS s9 8).2.1))])), (bi, .inr (0, [.ref r, .int (nI (((nrS s9 8).2.2.2.length) + 1 + (((nrS s9 8).2.2.1) + 1)))])), (r, .inl (cI, 658, .inl (fun j => nI (g2_2 j))))]) [3, 0, 1, 2, 4, 5] rfl (by decide) ?_
    have ece : sB (cEnd s9) = wB (nrS s9 8).2.2.2 ((nrS s9 8).2.2.1 + 1) 1 := by show wB _ _ (if (nrS s9 8).1 < 16384 then 0 else 1) = _; rw [if_neg (show ¬ (nrS s9 8).1 < 16384 by omega)]
    rw [← ece] at h35
    refine V_ws (ws2 := [(a, .inr (1, [.ref co, .ref sp, .ref bi, .ref cs, .int (nI siz), .int (nI (sW (cEnd s9)))])), (co, .inr (2, [.ref cr, .int (nI (sT (cEnd s9))), .int (nI (sH (cEnd s9))), .int (nI p), .int (nI b)])), (cr, .inl (cI, 9, .inl (fun j => nI ((sF (cEnd s9)) j)))), (sp, .inr (6, [.int (nI (sL (cEnd s9))), .int (nI (sU (cEnd s9)))])), (bi, .inr (0, [.ref r, .int (nI ((sB (cEnd s9)).length))])), (r, .inl (cI, 658, .inl (fun j => nI (g2_2 j))))]) (by rw [show (sB (cEnd s9)).length = (nrS s9 8).2.2.2.length + 1 + ((nrS s9 8).2.2.1 + 1) by rw [ece, wB_len]]; rfl) ?_
    subst hQ
    exact V_vret hC hr hlk (by decide) (by decide) dX1_close_38 (g2_2) [0, 1, 2, 3, 4, 5] rfl (by decide) (h35)
  · refine V_iconst (v := nI 0) hC dX1_close_30 (by decide) ?_
    refine V_goto (tgt := 35) hC dX1_close_31 (by decide) ?_
    refine V_callvV (As := [.int (nI 0)]) (rest := []) (wr := [(co, .inr (2, [.ref cr, .int (nI (sT s9)), .int (nI (sH s9)), .int (nI p), .int (nI b)])), (cr, .inl (cI, 9, .inl (fun j => nI ((sF s9) j)))), (sp, .inr (6, [.int (nI ((nrS s9 8).1)), .int (nI ((nrS s9 8).2.1))]))]) hC (c_X1_writeBit l D cI cQ a co sp bi cs siz (((nrS s9 8).2.2.1) + 1) r ((nrS s9 8).2.2.2.length) 0 g2_1 ((nrS s9 8).2.2.2) (rfl) (h3) (by omega) (by omega)) mok_X1_writeBit ml_X1_74 (q1 := 0) rfl cls_X1 rfl rfl rfl (by decide) (by decide) (by decide) (Nat.le_of_ble_eq_true rfl) [0, 4, 5] [1, 2, 3] rfl (by decide) rfl (by decide) (by decide) dX1_close_35 rfl (fun u9 h35 => ?_)
    obtain ⟨g2_3, rfl⟩ : ∃ z, z = u9 := ⟨_, rfl⟩
    have h35 : rep g2_3 (wB ((nrS s9 8).2.2.2) (((nrS s9 8).2.2.1) + 1) 0) := h35
    refine V_perm (ws2 := [(a, .inr (1, [.ref co, .ref sp, .ref bi, .ref cs, .int (nI siz), .int (nI 0)])), (co, .inr (2, [.ref cr, .int (nI (sT s9)), .int (nI (sH s9)), .int (nI p), .int (nI b)])), (cr, .inl (cI, 9, .inl (fun j => nI ((sF s9) j)))), (sp, .inr (6, [.int (nI ((nrS s9 8).1)), .int (nI ((nrS s9 8).2.1))])), (bi, .inr (0, [.ref r, .int (nI (((nrS s9 8).2.2.2.length) + 1 + (((nrS s9 8).2.2.1) + 1)))])), (r, .inl (cI, 658, .inl (fun j => nI (g2_3 j))))]) [3, 0, 1, 2, 4, 5] rfl (by decide) ?_
    have ece : sB (cEnd s9) = wB (nrS s9 8).2.2.2 ((nrS s9 8).2.2.1 + 1) 0 := by show wB _ _ (if (nrS s9 8).1 < 16384 then 0 else 1) = _; rw [if_pos (show (nrS s9 8).1 < 16384 by omega)]
    rw [← ece] at h35
    refine V_ws (ws2 := [(a, .inr (1, [.ref co, .ref sp, .ref bi, .ref cs, .int (nI siz), .int (nI (sW (cEnd s9)))])), (co, .inr (2, [.ref cr, .int (nI (sT (cEnd s9))), .int (nI (sH (cEnd s9))), .int (nI p), .int (nI b)])), (cr, .inl (cI, 9, .inl (fun j => nI ((sF (cEnd s9)) j)))), (sp, .inr (6, [.int (nI (sL (cEnd s9))), .int (nI (sU (cEnd s9)))])), (bi, .inr (0, [.ref r, .int (nI ((sB (cEnd s9)).length))])), (r, .inl (cI, 658, .inl (fun j => nI (g2_3 j))))]) (by rw [show (sB (cEnd s9)).length = (nrS s9 8).2.2.2.length + 1 + ((nrS s9 8).2.2.1 + 1) by rw [ece, wB_len]]; rfl) ?_
    subst hQ
    exact V_vret hC hr hlk (by decide) (by decide) dX1_close_38 (g2_3) [0, 1, 2, 3, 4, 5] rfl (by decide) (h35)
abbrev rm_X1_costAt : Room := { frames := 0, cells := 0, slots := 0, locals := 0 }
set_option maxHeartbeats 4000000 in
set_option maxRecDepth 100000 in
theorem c_X1_costAt (l : Launch) (D : va_G) (cI cQ : ClassId) (a co sp bi cs siz w i : Nat) (cf : Nat → Nat) (hi : i < 40) : MI l yX1_costAt cX1_costAt 2 (some .int) rm_X1_costAt D (TY cI cQ) [.ref a, .int (nI i)] [(a, .inr (1, [.ref co, .ref sp, .ref bi, .ref cs, .int (nI siz), .int (nI w)])), (cs, .inl (cI, 40, .inl (fun j => nI (cf j))))] (fun (r9 : Int32) (u : Unit) => r9 = (nI (cf i)) ∧ True) (fun (u : Unit) => [(a, .inr (1, [.ref co, .ref sp, .ref bi, .ref cs, .int (nI siz), .int (nI w)])), (cs, .inl (cI, 40, .inl (fun j => nI (cf j))))]) 0 0 := by
  refine MI.start (by decide) (Nat.le_of_ble_eq_true rfl) (lv0 := [(0, .ref a), (1, .int (nI i))]) rfl ?_
  intro pp9 ee9 ss9 mm9 args9 below9 meth9 co9 A9 Q9 hQ hC hr hlk hnm
  refine V_iload_n hC dX1_costAt_0 rfl 1 rfl ?_
  refine V_if_lt_F (tgt := 22) hC dX1_costAt_1 (by decide) (nI_pos (by omega)) ?_
  refine V_iload_n hC dX1_costAt_4 rfl 1 rfl ?_
  refine V_aload_n hC dX1_costAt_5 rfl 0 rfl ?_
  refine V_get (ci := 1) (v := .ref cs) hC in_X1 0 rfl cls_X1 3 (by decide) fl_X1_32 rfl dX1_costAt_6 ?_
  refine V_alen (v := (nI 40)) hC 1 0 rfl rfl rfl dX1_costAt_9 ?_
  refine V_icmp_ge_F (tgt := 22) hC dX1_costAt_10 (by decide) (nI_ge (by omega) (by omega)) ?_
  refine V_aload_n hC dX1_costAt_13 rfl 0 rfl ?_
  refine V_get (ci := 1) (v := .ref cs) hC in_X1 0 rfl cls_X1 3 (by decide) fl_X1_32 rfl dX1_costAt_14 ?_
  refine V_iload_n hC dX1_costAt_17 rfl 1 rfl ?_
  refine V_iald hC 1 0 rfl rfl (by omega) (by decide) dX1_costAt_18 ?_
  refine V_goto (tgt := 23) hC dX1_costAt_19 (by decide) ?_
  subst hQ
  exact V_iret hC hr hlk rfl (by decide) (by decide) dX1_costAt_23 (()) [0, 1] rfl (by decide) (⟨rfl, trivial⟩)
abbrev rm_X1_dearest : Room := { frames := 1, cells := 0, slots := 0, locals := 21 }
set_option maxHeartbeats 4000000 in
set_option maxRecDepth 100000 in
theorem c_X1_dearest (l : Launch) (D : va_G) (cI cQ : ClassId) (a co sp bi cs siz w : Nat) (cf : Nat → Nat) (hz : siz ≤ 40) (hcf : ∀ j, j < siz → cf j < 100000) : MI l yX1_dearest cX1_dearest 3 (some .int) rm_X1_dearest D (TY cI cQ) [.ref a] [(a, .inr (1, [.ref co, .ref sp, .ref bi, .ref cs, .int (nI siz), .int (nI w)])), (cs, .inl (cI, 40, .inl (fun j => nI (cf j))))] (fun (r9 : Int32) (u : Unit) => r9 = (nI (mxF cf siz)) ∧ True) (fun (u : Unit) => [(a, .inr (1, [.ref co, .ref sp, .ref bi, .ref cs, .int (nI siz), .int (nI w)])), (cs, .inl (cI, 40, .inl (fun j => nI (cf j))))]) 0 0 := by
  refine MI.start (by decide) (Nat.le_of_ble_eq_true rfl) (lv0 := [(0, .ref a)]) rfl ?_
  intro pp9 ee9 ss9 mm9 args9 below9 meth9 co9 A9 Q9 hQ hC hr hlk hnm
  refine V_iconst (v := nI 0) hC dX1_dearest_0 (by decide) ?_
  refine V_istore_n (lv2 := [(0, .ref a), (1, .int (nI 0))]) hC dX1_dearest_1 rfl (by decide) [1, 0] rfl ?_
  refine V_iconst (v := nI 0) hC dX1_dearest_2 (by decide) ?_
  refine V_istore_n (lv2 := [(0, .ref a), (1, .int (nI 0)), (2, .int (nI 0))]) hC dX1_dearest_3 rfl (by decide) [1, 2, 0] rfl ?_
  have L4 : ∀ (n9 : Nat) (i : Nat) (mx : Nat), (i ≤ siz) → (mx = mxF cf i) → (mx < 100000) → siz - i < n9 → V pp9 l ee9 rm_X1_dearest ss9 mm9 args9 below9 meth9 co9 D A9 ss9.heap 3 Q9 [(a, .inr (1, [.ref co, .ref sp, .ref bi, .ref cs, .int (nI siz), .int (nI w)])), (cs, .inl (cI, 40, .inl (fun j => nI (cf j))))] [(0, .ref a), (1, .int (nI mx)), (2, .int (nI i))] 0 0 4 [] := by
    intro n9
    induction n9 with
    | zero => intro i mx h1 h2 h3 h9; exact absurd h9 (Nat.not_lt_zero _)
    | succ n9 ih =>
      intro i mx h1 h2 h3 h9
      refine V_iload_n hC dX1_dearest_4 rfl 2 rfl ?_
      refine V_aload_n hC dX1_dearest_5 rfl 0 rfl ?_
      refine V_get (ci := 1) (v := .int (nI siz)) hC in_X1 0 rfl cls_X1 4 (by decide) fl_X1_36 rfl dX1_dearest_6 ?_
      refine V_icmp_ge (tgt := 28) hC (by omega) (by omega) dX1_dearest_9 (by decide) (fun c9 => ?_) (fun c9 => ?_)
      · refine V_iload_n hC dX1_dearest_28 rfl 1 rfl ?_
        subst hQ
        exact V_iret hC hr hlk rfl (by decide) (by decide) dX1_dearest_29 (()) [0, 1] rfl (by decide) (⟨by rw [h2, show i = siz by omega], trivial⟩)
      · refine V_iload_n hC dX1_dearest_12 rfl 1 rfl ?_
        refine V_aload_n hC dX1_dearest_13 rfl 0 rfl ?_
        refine V_iload_n hC dX1_dearest_14 rfl 2 rfl ?_
        refine V_calliV (As := [.int (nI i)]) (rest := [.int (nI mx)]) (wr := []) hC (c_X1_costAt l D cI cQ a co sp bi cs siz w i cf (by omega)) mok_X1_costAt ml_X1_77 (q1 := 0) rfl cls_X1 rfl rfl rfl (by decide) (by decide) (by decide) (Nat.le_of_ble_eq_true rfl) [0, 1] [] rfl (by decide) rfl (by decide) (by decide) dX1_dearest_15 rfl (fun r9 u9 h15 => ?_)
        obtain ⟨rfl, h15⟩ := h15
        clear h15
        refine V_perm (ws2 := [(a, .inr (1, [.ref co, .ref sp, .ref bi, .ref cs, .int (nI siz), .int (nI w)])), (cs, .inl (cI, 40, .inl (fun j => nI (cf j))))]) [0, 1] rfl (by decide) ?_
        have hci := hcf i c9
        refine V_mmax hC ml_X1_80 stt_max ini_Math cd_max (by omega) (by omega) (by decide) (Nat.le_of_ble_eq_true rfl) (by decide) (by decide) dX1_dearest_18 ?_
        refine V_istore_n (lv2 := [(0, .ref a), (1, .int (nI (max mx (cf i)))), (2, .int (nI i))]) hC dX1_dearest_21 rfl (by decide) [1, 0, 2] rfl ?_
        refine V_iinc (v := (nI (i + 1))) (lv2 := [(0, .ref a), (1, .int (nI (max mx (cf i)))), (2, .int (nI (i + 1)))]) (q := 2) hC dX1_dearest_22 rfl (nI_add _ _) (by decide) [1, 2, 0] rfl ?_
        refine V_goto (tgt := 4) hC dX1_dearest_25 (by decide) ?_
        exact ih (i + 1) (max mx (cf i)) (by omega) (by rw [h2, mxF]) (by have := hcf i c9; omega) (by omega)
  exact L4 _ 0 0 (by omega) (rfl) (by omega) (Nat.lt_succ_self _)
