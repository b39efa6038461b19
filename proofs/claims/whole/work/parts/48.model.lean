theorem u_X12_in {Γ : cx_T} {μ : mH} {x0 : Int32} {x1 : Int32} {x2 : Int32} {Q : Int32 → mH → Prop} (h : (x0 < x1 → (Q (0 : Int32) μ)) ∧ (¬ x0 < x1 → ((x2 < x0 → (Q (0 : Int32) μ)) ∧ (¬ x2 < x0 → (Q (1 : Int32) μ))))) : cwi Γ M_X12_in [aI x0, aI x1, aI x2] μ Q := by
  refine cw_ofU (ls := [aI x0, aI x1, aI x2]) (Or.inl (by decide)) rfl (Nat.le_of_ble_eq_true rfl) rfl ?_
  refine aw_iload_n dX12_in_0 rfl ?_
  refine aw_iload_n dX12_in_1 rfl ?_
  refine aw_icmp_lt (tgt := 14) dX12_in_2 (by decide) (fun c0 => ?_) (fun c0 => ?_)
  · replace h := h.1 c0
    refine aw_iconst (v := (0 : Int32)) dX12_in_14 rfl ?_
    exact aw_iret (ty := .boolean) dX12_in_15 rfl (by decide) ⟨_, rfl, h⟩
  · replace h := h.2 c0
    refine aw_iload_n dX12_in_5 rfl ?_
    refine aw_iload_n dX12_in_6 rfl ?_
    refine aw_icmp_gt (tgt := 14) dX12_in_7 (by decide) (fun c0 => ?_) (fun c0 => ?_)
    · replace h := h.1 c0
      refine aw_iconst (v := (0 : Int32)) dX12_in_14 rfl ?_
      exact aw_iret (ty := .boolean) dX12_in_15 rfl (by decide) ⟨_, rfl, h⟩
    · replace h := h.2 c0
      refine aw_iconst (v := (1 : Int32)) dX12_in_10 rfl ?_
      refine aw_goto (tgt := 15) dX12_in_11 (by decide) ?_
      exact aw_iret (ty := .boolean) dX12_in_15 rfl (by decide) ⟨_, rfl, h⟩
theorem u_X12_feed {Γ : cx_T} {μ : mH} {x1 : Int32} {x2 : Int32} {x3 : Int32} {x4 : Int32} {x5 : Int32} {Q : Int32 → mH → Prop} (h : (((μ 12 0 1) + (20 : Int32)) ≤ (200 : Int32) → (aw Γ M_X12_feed 18 [aR 12 0, aI x1, aI x2, aI x3, aI x4, aI x5, aI (0 : Int32), aX] [] μ (rI Q))) ∧ (¬ ((μ 12 0 1) + (20 : Int32)) ≤ (200 : Int32) → (Q (-1 : Int32) μ))) : cwi Γ M_X12_feed [aR 12 0, aI x1, aI x2, aI x3, aI x4, aI x5] μ Q := by
  refine cw_ofU (ls := [aR 12 0, aI x1, aI x2, aI x3, aI x4, aI x5, aX, aX]) (Or.inl (by decide)) rfl (Nat.le_of_ble_eq_true rfl) rfl ?_
  refine aw_aload_n dX12_feed_0 rfl ?_
  refine aw_get dX12_feed_1 rfl fk_RX12_81 (look_I rfl : look μ 12 0 1 = aI (μ 12 0 1)) ?_
  refine aw_bipush (v := (20 : Int32)) dX12_feed_4 rfl ?_
  refine aw_iadd dX12_feed_6 ?_
  refine aw_sipush (v := (200 : Int32)) dX12_feed_7 rfl ?_
  refine aw_icmp_le (tgt := 15) dX12_feed_10 (by decide) (fun c0 => ?_) (fun c0 => ?_)
  · replace h := h.1 c0
    refine aw_iconst (v := (0 : Int32)) dX12_feed_15 rfl ?_
    refine aw_istore (ls' := [aR 12 0, aI x1, aI x2, aI x3, aI x4, aI x5, aI (0 : Int32), aX]) dX12_feed_16 (by decide) rfl rfl ?_
    exact h
  · replace h := h.2 c0
    refine aw_iconst (v := (-1 : Int32)) dX12_feed_13 rfl ?_
    exact aw_iret dX12_feed_14 rfl rfl ⟨_, rfl, h⟩
theorem u_X12_feed_18 {Γ : cx_T} {μ : mH} {x1 : Int32} {x2 : Int32} {x3 : Int32} {x4 : Int32} {x5 : Int32} {x6 : Int32} {Q : Int32 → mH → Prop} (h : ((20 : Int32) ≤ x6 → (Q (μ 12 0 1) μ)) ∧ (¬ (20 : Int32) ≤ x6 → (((4 : Int32) ≤ x6 → (((8 : Int32) ≤ x6 → (((12 : Int32) ≤ x6 → (((16 : Int32) ≤ x6 → (aw Γ M_X12_feed 71 [aR 12 0, aI x1, aI x2, aI x3, aI x4, aI x5, aI x6, aX] [aI x5] μ (rI Q))) ∧ (¬ (16 : Int32) ≤ x6 → (aw Γ M_X12_feed 71 [aR 12 0, aI x1, aI x2, aI x3, aI x4, aI x5, aI x6, aX] [aI x4] μ (rI Q))))) ∧ (¬ (12 : Int32) ≤ x6 → (aw Γ M_X12_feed 71 [aR 12 0, aI x1, aI x2, aI x3, aI x4, aI x5, aI x6, aX] [aI x3] μ (rI Q))))) ∧ (¬ (8 : Int32) ≤ x6 → (aw Γ M_X12_feed 71 [aR 12 0, aI x1, aI x2, aI x3, aI x4, aI x5, aI x6, aX] [aI x2] μ (rI Q))))) ∧ (¬ (4 : Int32) ≤ x6 → (aw Γ M_X12_feed 71 [aR 12 0, aI x1, aI x2, aI x3, aI x4, aI x5, aI x6, aX] [aI x1] μ (rI Q)))))) : aw Γ M_X12_feed 18 [aR 12 0, aI x1, aI x2, aI x3, aI x4, aI x5, aI x6, aX] [] μ (rI Q) := by
  refine aw_iload dX12_feed_18 rfl ?_
  refine aw_bipush (v := (20 : Int32)) dX12_feed_20 rfl ?_
  refine aw_icmp_ge (tgt := 112) dX12_feed_22 (by decide) (fun c0 => ?_) (fun c0 => ?_)
  · replace h := h.1 c0
    refine aw_aload_n dX12_feed_112 rfl ?_
    refine aw_get dX12_feed_113 rfl fk_RX12_81 (look_I rfl : look μ 12 0 1 = aI (μ 12 0 1)) ?_
    exact aw_iret dX12_feed_116 rfl rfl ⟨_, rfl, h⟩
  · replace h := h.2 c0
    refine aw_iload dX12_feed_25 rfl ?_
    refine aw_iconst (v := (4 : Int32)) dX12_feed_27 rfl ?_
    refine aw_icmp_ge (tgt := 35) dX12_feed_28 (by decide) (fun c0 => ?_) (fun c0 => ?_)
    · replace h := h.1 c0
      refine aw_iload dX12_feed_35 rfl ?_
      refine aw_bipush (v := (8 : Int32)) dX12_feed_37 rfl ?_
      refine aw_icmp_ge (tgt := 46) dX12_feed_39 (by decide) (fun c0 => ?_) (fun c0 => ?_)
      · replace h := h.1 c0
        refine aw_iload dX12_feed_46 rfl ?_
        refine aw_bipush (v := (12 : Int32)) dX12_feed_48 rfl ?_
        refine aw_icmp_ge (tgt := 57) dX12_feed_50 (by decide) (fun c0 => ?_) (fun c0 => ?_)
        · replace h := h.1 c0
          refine aw_iload dX12_feed_57 rfl ?_
          refine aw_bipush (v := (16 : Int32)) dX12_feed_59 rfl ?_
          refine aw_icmp_ge (tgt := 69) dX12_feed_61 (by decide) (fun c0 => ?_) (fun c0 => ?_)
          · replace h := h.1 c0
            refine aw_iload dX12_feed_69 rfl ?_
            exact h
          · replace h := h.2 c0
            refine aw_iload dX12_feed_64 rfl ?_
            refine aw_goto (tgt := 71) dX12_feed_66 (by decide) ?_
            exact h
        · replace h := h.2 c0
          refine aw_iload_n dX12_feed_53 rfl ?_
          refine aw_goto (tgt := 71) dX12_feed_54 (by decide) ?_
          exact h
      · replace h := h.2 c0
        refine aw_iload_n dX12_feed_42 rfl ?_
        refine aw_goto (tgt := 71) dX12_feed_43 (by decide) ?_
        exact h
    · replace h := h.2 c0
      refine aw_iload_n dX12_feed_31 rfl ?_
      refine aw_goto (tgt := 71) dX12_feed_32 (by decide) ?_
      exact h
theorem u_X12_feed_71 {Γ : cx_T} {μ : mH} {x1 : Int32} {x2 : Int32} {x3 : Int32} {x4 : Int32} {x5 : Int32} {x6 : Int32} {y0 : Int32} {Q : Int32 → mH → Prop} (h : vp_in (μ 12 0 1) 200 ∧ (aw Γ M_X12_feed 18 [aR 12 0, aI x1, aI x2, aI x3, aI x4, aI x5, aI (x6 + (1 : Int32)), aX] [] (sto (sto μ 40 0 (tn (μ 12 0 1)) (((y0 >>> ((24 : Int32) - ((8 : Int32) * (x6 - x6 / (4 : Int32) * (4 : Int32))) &&& 31)).toInt8.toInt32).toInt8.toInt32)) 12 0 1 ((μ 12 0 1) + (1 : Int32))) (rI Q))) : aw Γ M_X12_feed 71 [aR 12 0, aI x1, aI x2, aI x3, aI x4, aI x5, aI x6, aX] [aI y0] μ (rI Q) := by
  refine aw_istore (ls' := [aR 12 0, aI x1, aI x2, aI x3, aI x4, aI x5, aI x6, aI y0]) dX12_feed_71 (by decide) rfl rfl ?_
  refine aw_aload_n dX12_feed_73 rfl ?_
  refine aw_get dX12_feed_74 rfl fk_RX12_9 (look_R rfl rfl : look _ 12 0 0 = aR 40 0) ?_
  refine aw_aload_n dX12_feed_77 rfl ?_
  refine aw_get dX12_feed_78 rfl fk_RX12_81 (look_I rfl : look μ 12 0 1 = aI (μ 12 0 1)) ?_
  refine aw_iload dX12_feed_81 rfl ?_
  refine aw_bipush (v := (24 : Int32)) dX12_feed_83 rfl ?_
  refine aw_bipush (v := (8 : Int32)) dX12_feed_85 rfl ?_
  refine aw_iload dX12_feed_87 rfl ?_
  refine aw_iconst (v := (4 : Int32)) dX12_feed_89 rfl ?_
  refine aw_irem dX12_feed_90 (by decide) ?_
  refine aw_imul dX12_feed_91 ?_
  refine aw_isub dX12_feed_92 ?_
  refine aw_ishr dX12_feed_93 ?_
  refine aw_i2b dX12_feed_94 ?_
  refine aw_bs (j := tn (μ 12 0 1)) dX12_feed_95 rfl (fun _ => rfl) h.1 rfl ?_
  replace h := h.2
  refine aw_aload_n dX12_feed_96 rfl ?_
  refine aw_dup dX12_feed_97 (fun _ => rfl) ?_
  refine aw_get dX12_feed_98 rfl fk_RX12_81 ((look_I rfl).trans (congrArg aI ((sto_K (by decide)).trans (rfl))) : look (sto μ 40 0 (tn (μ 12 0 1)) (((y0 >>> ((24 : Int32) - ((8 : Int32) * (x6 - x6 / (4 : Int32) * (4 : Int32))) &&& 31)).toInt8.toInt32).toInt8.toInt32)) 12 0 1 = aI (μ 12 0 1)) ?_
  refine aw_iconst (v := (1 : Int32)) dX12_feed_101 rfl ?_
  refine aw_iadd dX12_feed_102 ?_
  refine aw_putI dX12_feed_103 rfl fk_RX12_81 (fun r h => by cases h; rfl) rfl rfl ?_
  refine aw_iinc (v := x6 + (1 : Int32)) (ls' := [aR 12 0, aI x1, aI x2, aI x3, aI x4, aI x5, aI (x6 + (1 : Int32)), aI y0]) dX12_feed_106 rfl rfl (by decide) rfl rfl ?_
  refine aw_goto (tgt := 18) dX12_feed_109 (by decide) ?_
  exact aw_wkk h (wk_e (wk_e (wk_e (wk_e (wk_e (wk_e (wk_e (wk_x wk_n))))))))
theorem u_X12_end {Γ : cx_T} {μ : mH} {x1 : Int32} {Q : Int32 → mH → Prop} (h : cwi Γ M_X12_in [aI x1, aI (0 : Int32), aI (μ 12 0 1)] μ (fun r2 μ1 => (¬ r2 = 0 → (Q (1 : Int32) (sto μ1 12 0 1 x1))) ∧ (r2 = 0 → (Q (0 : Int32) μ1)))) : cwi Γ M_X12_end [aR 12 0, aI x1] μ Q := by
  refine cw_ofU (ls := [aR 12 0, aI x1]) (Or.inl (by decide)) rfl (Nat.le_of_ble_eq_true rfl) rfl ?_
  refine aw_iload_n dX12_end_0 rfl ?_
  refine aw_iconst (v := (0 : Int32)) dX12_end_1 rfl ?_
  refine aw_aload_n dX12_end_2 rfl ?_
  refine aw_get dX12_end_3 rfl fk_RX12_81 (look_I rfl : look μ 12 0 1 = aI (μ 12 0 1)) ?_
  refine aw_callS (M' := M_X12_in) (vs := [aI x1, aI (0 : Int32), aI (μ 12 0 1)]) (st := []) dX12_end_6 mk_X12_in ms_X12_in ml_RX12_85 mp_X12_in rm_X12_end__X12_in (Nat.le_of_ble_eq_true rfl) rfl (cw_mono h ?_)
  clear h
  rintro _ μ1 ⟨r2, rfl, h⟩
  show aw Γ M_X12_end 9 [aR 12 0, aI x1] [aI r2] μ1 (rI Q)
  refine aw_if_ne (tgt := 14) dX12_end_9 (by decide) (fun c0 => ?_) (fun c0 => ?_)
  · replace h := h.1 c0
    refine aw_aload_n dX12_end_14 rfl ?_
    refine aw_iload_n dX12_end_15 rfl ?_
    refine aw_putI dX12_end_16 rfl fk_RX12_81 (fun r h => by cases h; rfl) rfl rfl ?_
    refine aw_iconst (v := (1 : Int32)) dX12_end_19 rfl ?_
    exact aw_iret (ty := .boolean) dX12_end_20 rfl (by decide) ⟨_, rfl, h⟩
  · replace h := h.2 c0
    refine aw_iconst (v := (0 : Int32)) dX12_end_12 rfl ?_
    exact aw_iret (ty := .boolean) dX12_end_13 rfl (by decide) ⟨_, rfl, h⟩
theorem u_X12_isLetter {Γ : cx_T} {μ : mH} {x0 : Int32} {Q : Int32 → mH → Prop} (h : (x0 < (97 : Int32) → (Q (0 : Int32) μ)) ∧ (¬ x0 < (97 : Int32) → (((122 : Int32) < x0 → (Q (0 : Int32) μ)) ∧ (¬ (122 : Int32) < x0 → (Q (1 : Int32) μ))))) : cwi Γ M_X12_isLetter [aI x0] μ Q := by
  refine cw_ofU (ls := [aI x0]) (Or.inl (by decide)) rfl (Nat.le_of_ble_eq_true rfl) rfl ?_
  refine aw_iload_n dX12_isLetter_0 rfl ?_
  refine aw_bipush (v := (97 : Int32)) dX12_isLetter_1 rfl ?_
  refine aw_icmp_lt (tgt := 16) dX12_isLetter_3 (by decide) (fun c0 => ?_) (fun c0 => ?_)
  · replace h := h.1 c0
    refine aw_iconst (v := (0 : Int32)) dX12_isLetter_16 rfl ?_
    exact aw_iret (ty := .boolean) dX12_isLetter_17 rfl (by decide) ⟨_, rfl, h⟩
  · replace h := h.2 c0
    refine aw_iload_n dX12_isLetter_6 rfl ?_
    refine aw_bipush (v := (122 : Int32)) dX12_isLetter_7 rfl ?_
    refine aw_icmp_gt (tgt := 16) dX12_isLetter_9 (by decide) (fun c0 => ?_) (fun c0 => ?_)
    · replace h := h.1 c0
      refine aw_iconst (v := (0 : Int32)) dX12_isLetter_16 rfl ?_
      exact aw_iret (ty := .boolean) dX12_isLetter_17 rfl (by decide) ⟨_, rfl, h⟩
    · replace h := h.2 c0
      refine aw_iconst (v := (1 : Int32)) dX12_isLetter_12 rfl ?_
      refine aw_goto (tgt := 17) dX12_isLetter_13 (by decide) ?_
      exact aw_iret (ty := .boolean) dX12_isLetter_17 rfl (by decide) ⟨_, rfl, h⟩
theorem u_X12_isDigit {Γ : cx_T} {μ : mH} {x0 : Int32} {Q : Int32 → mH → Prop} (h : (x0 < (48 : Int32) → (Q (0 : Int32) μ)) ∧ (¬ x0 < (48 : Int32) → (((57 : Int32) < x0 → (Q (0 : Int32) μ)) ∧ (¬ (57 : Int32) < x0 → (Q (1 : Int32) μ))))) : cwi Γ M_X12_isDigit [aI x0] μ Q := by
  refine cw_ofU (ls := [aI x0]) (Or.inl (by decide)) rfl (Nat.le_of_ble_eq_true rfl) rfl ?_
  refine aw_iload_n dX12_isDigit_0 rfl ?_
  refine aw_bipush (v := (48 : Int32)) dX12_isDigit_1 rfl ?_
  refine aw_icmp_lt (tgt := 16) dX12_isDigit_3 (by decide) (fun c0 => ?_) (fun c0 => ?_)
  · replace h := h.1 c0
    refine aw_iconst (v := (0 : Int32)) dX12_isDigit_16 rfl ?_
    exact aw_iret (ty := .boolean) dX12_isDigit_17 rfl (by decide) ⟨_, rfl, h⟩
  · replace h := h.2 c0
    refine aw_iload_n dX12_isDigit_6 rfl ?_
    refine aw_bipush (v := (57 : Int32)) dX12_isDigit_7 rfl ?_
    refine aw_icmp_gt (tgt := 16) dX12_isDigit_9 (by decide) (fun c0 => ?_) (fun c0 => ?_)
    · replace h := h.1 c0
      refine aw_iconst (v := (0 : Int32)) dX12_isDigit_16 rfl ?_
      exact aw_iret (ty := .boolean) dX12_isDigit_17 rfl (by decide) ⟨_, rfl, h⟩
    · replace h := h.2 c0
      refine aw_iconst (v := (1 : Int32)) dX12_isDigit_12 rfl ?_
      refine aw_goto (tgt := 17) dX12_isDigit_13 (by decide) ?_
      exact aw_iret (ty := .boolean) dX12_isDigit_17 rfl (by decide) ⟨_, rfl, h⟩
theorem u_X12_leads {Γ : cx_T} {μ : mH}  {Q : mH → Prop} (h : ((μ 12 0 1) ≤ (μ 12 0 2) → (aw Γ M_X12_leads 52 [aR 12 0, aX] [] μ (rV Q))) ∧ (¬ (μ 12 0 1) ≤ (μ 12 0 2) → (vp_in (μ 12 0 2) 200 ∧ (((μ 40 0 (tn (μ 12 0 2))) = (32 : Int32) → (aw Γ M_X12_leads 0 [aR 12 0, aX] [] (sto μ 12 0 2 ((μ 12 0 2) + (1 : Int32))) (rV Q))) ∧ (¬ (μ 40 0 (tn (μ 12 0 2))) = (32 : Int32) → (vp_in (μ 12 0 2) 200 ∧ ((¬ (μ 40 0 (tn (μ 12 0 2))) = (10 : Int32) → (aw Γ M_X12_leads 52 [aR 12 0, aX] [] μ (rV Q))) ∧ ((μ 40 0 (tn (μ 12 0 2))) = (10 : Int32) → (aw Γ M_X12_leads 0 [aR 12 0, aX] [] (sto μ 12 0 2 ((μ 12 0 2) + (1 : Int32))) (rV Q)))))))))) : cwv Γ M_X12_leads [aR 12 0] μ Q := by
  refine cw_ofU (ls := [aR 12 0, aX]) (Or.inl (by decide)) rfl (Nat.le_of_ble_eq_true rfl) rfl ?_
  refine aw_aload_n dX12_leads_0 rfl ?_
  refine aw_get dX12_leads_1 rfl fk_RX12_89 (look_I rfl : look μ 12 0 2 = aI (μ 12 0 2)) ?_
  refine aw_aload_n dX12_leads_4 rfl ?_
  refine aw_get dX12_leads_5 rfl fk_RX12_81 (look_I rfl : look μ 12 0 1 = aI (μ 12 0 1)) ?_
  refine aw_icmp_ge (tgt := 52) dX12_leads_8 (by decide) (fun c0 => ?_) (fun c0 => ?_)
  · replace h := h.1 c0
    exact h
  · replace h := h.2 c0
    refine aw_aload_n dX12_leads_11 rfl ?_
    refine aw_get dX12_leads_12 rfl fk_RX12_9 (look_R rfl rfl : look _ 12 0 0 = aR 40 0) ?_
    refine aw_aload_n dX12_leads_15 rfl ?_
    refine aw_get dX12_leads_16 rfl fk_RX12_89 (look_I rfl : look μ 12 0 2 = aI (μ 12 0 2)) ?_
    refine aw_ba (j := tn (μ 12 0 2)) (y := μ 40 0 (tn (μ 12 0 2))) dX12_leads_19 rfl (fun _ => rfl) h.1 rfl (rfl) ?_
    replace h := h.2
    refine aw_bipush (v := (32 : Int32)) dX12_leads_20 rfl ?_
    refine aw_icmp_eq (tgt := 39) dX12_leads_22 (by decide) (fun c0 => ?_) (fun c0 => ?_)
    · replace h := h.1 c0
      refine aw_aload_n dX12_leads_39 rfl ?_
      refine aw_dup dX12_leads_40 (fun _ => rfl) ?_
      refine aw_get dX12_leads_41 rfl fk_RX12_89 (look_I rfl : look μ 12 0 2 = aI (μ 12 0 2)) ?_
      refine aw_iconst (v := (1 : Int32)) dX12_leads_44 rfl ?_
      refine aw_iadd dX12_leads_45 ?_
      refine aw_putI dX12_leads_46 rfl fk_RX12_89 (fun r h => by cases h; rfl) rfl rfl ?_
      refine aw_goto (tgt := 0) dX12_leads_49 (by decide) ?_
      exact h
    · replace h := h.2 c0
      refine aw_aload_n dX12_leads_25 rfl ?_
      refine aw_get dX12_leads_26 rfl fk_RX12_9 (look_R rfl rfl : look _ 12 0 0 = aR 40 0) ?_
      refine aw_aload_n dX12_leads_29 rfl ?_
      refine aw_get dX12_leads_30 rfl fk_RX12_89 (look_I rfl : look μ 12 0 2 = aI (μ 12 0 2)) ?_
      refine aw_ba (j := tn (μ 12 0 2)) (y := μ 40 0 (tn (μ 12 0 2))) dX12_leads_33 rfl (fun _ => rfl) h.1 rfl (rfl) ?_
      replace h := h.2
      refine aw_bipush (v := (10 : Int32)) dX12_leads_34 rfl ?_
      refine aw_icmp_ne (tgt := 52) dX12_leads_36 (by decide) (fun c0 => ?_) (fun c0 => ?_)
      · replace h := h.1 c0
        exact h
      · replace h := h.2 c0
        refine aw_aload_n dX12_leads_39 rfl ?_
        refine aw_dup dX12_leads_40 (fun _ => rfl) ?_
        refine aw_get dX12_leads_41 rfl fk_RX12_89 (look_I rfl : look μ 12 0 2 = aI (μ 12 0 2)) ?_
        refine aw_iconst (v := (1 : Int32)) dX12_leads_44 rfl ?_
        refine aw_iadd dX12_leads_45 ?_
        refine aw_putI dX12_leads_46 rfl fk_RX12_89 (fun r h => by cases h; rfl) rfl rfl ?_
        refine aw_goto (tgt := 0) dX12_leads_49 (by decide) ?_
        exact h
theorem u_X12_leads_52 {Γ : cx_T} {μ : mH}  {Q : mH → Prop} (h : (¬ (μ 12 0 2) = (μ 12 0 1) → (vp_in (μ 12 0 2) 200 ∧ (cwi Γ M_X12_isLetter [aI (μ 40 0 (tn (μ 12 0 2)))] (sto (sto (sto (sto μ 12 0 4 (μ 12 0 2)) 12 0 5 (hiL (0 : Int64))) 12 0 100 (loL (0 : Int64))) 12 0 3 (0 : Int32)) (fun r2 μ1 => (r2 = 0 → (cwi Γ M_X12_isDigit [aI (μ 40 0 (tn (μ 12 0 2)))] μ1 (fun r4 μ3 => (r4 = 0 → ((¬ (μ 40 0 (tn (μ 12 0 2))) = (59 : Int32) → (Q (sto (sto μ3 12 0 3 (4 : Int32)) 12 0 2 ((μ3 12 0 2) + (1 : Int32))))) ∧ ((μ 40 0 (tn (μ 12 0 2))) = (59 : Int32) → (Q (sto (sto μ3 12 0 3 (3 : Int32)) 12 0 2 ((μ3 12 0 2) + (1 : Int32))))))) ∧ (¬ r4 = 0 → (aw Γ M_X12_leads 208 [aR 12 0, aX] [] μ3 (rV Q)))))) ∧ (¬ r2 = 0 → (aw Γ M_X12_leads 99 [aR 12 0, aX] [] μ1 (rV Q))))))) ∧ ((μ 12 0 2) = (μ 12 0 1) → (Q (sto (sto (sto (sto μ 12 0 4 (μ 12 0 2)) 12 0 5 (hiL (0 : Int64))) 12 0 100 (loL (0 : Int64))) 12 0 3 (0 : Int32))))) : aw Γ M_X12_leads 52 [aR 12 0, aX] [] μ (rV Q) := by
  refine aw_aload_n dX12_leads_52 rfl ?_
  refine aw_aload_n dX12_leads_53 rfl ?_
  refine aw_get dX12_leads_54 rfl fk_RX12_89 (look_I rfl : look μ 12 0 2 = aI (μ 12 0 2)) ?_
  refine aw_putI dX12_leads_57 rfl fk_RX12_92 (fun r h => by cases h; rfl) rfl rfl ?_
  refine aw_aload_n dX12_leads_60 rfl ?_
  refine aw_lconst (v := (0 : Int64)) dX12_leads_61 rfl ?_
  refine aw_putL dX12_leads_62 fk_RX12_95 ?_
  refine aw_aload_n dX12_leads_65 rfl ?_
  refine aw_iconst (v := (0 : Int32)) dX12_leads_66 rfl ?_
  refine aw_putI dX12_leads_67 rfl fk_RX12_99 (fun r h => by cases h; rfl) rfl rfl ?_
  refine aw_aload_n dX12_leads_70 rfl ?_
  refine aw_get dX12_leads_71 rfl fk_RX12_89 ((look_I rfl).trans (congrArg aI ((sto_s (by decide)).trans ((sto_s (by decide)).trans ((sto_s (by decide)).trans ((sto_s (by decide)).trans (rfl)))))) : look (sto (sto (sto (sto μ 12 0 4 (μ 12 0 2)) 12 0 5 (hiL (0 : Int64))) 12 0 100 (loL (0 : Int64))) 12 0 3 (0 : Int32)) 12 0 2 = aI (μ 12 0 2)) ?_
  refine aw_aload_n dX12_leads_74 rfl ?_
  refine aw_get dX12_leads_75 rfl fk_RX12_81 ((look_I rfl).trans (congrArg aI ((sto_s (by decide)).trans ((sto_s (by decide)).trans ((sto_s (by decide)).trans ((sto_s (by decide)).trans (rfl)))))) : look (sto (sto (sto (sto μ 12 0 4 (μ 12 0 2)) 12 0 5 (hiL (0 : Int64))) 12 0 100 (loL (0 : Int64))) 12 0 3 (0 : Int32)) 12 0 1 = aI (μ 12 0 1)) ?_
  refine aw_icmp_ne (tgt := 82) dX12_leads_78 (by decide) (fun c0 => ?_) (fun c0 => ?_)
  · replace h := h.1 c0
    refine aw_aload_n dX12_leads_82 rfl ?_
    refine aw_get dX12_leads_83 rfl fk_RX12_9 (look_R rfl rfl : look _ 12 0 0 = aR 40 0) ?_
    refine aw_aload_n dX12_leads_86 rfl ?_
    refine aw_get dX12_leads_87 rfl fk_RX12_89 ((look_I rfl).trans (congrArg aI ((sto_s (by decide)).trans ((sto_s (by decide)).trans ((sto_s (by decide)).trans ((sto_s (by decide)).trans (rfl)))))) : look (sto (sto (sto (sto μ 12 0 4 (μ 12 0 2)) 12 0 5 (hiL (0 : Int64))) 12 0 100 (loL (0 : Int64))) 12 0 3 (0 : Int32)) 12 0 2 = aI (μ 12 0 2)) ?_
    refine aw_ba (j := tn (μ 12 0 2)) (y := μ 40 0 (tn (μ 12 0 2))) dX12_leads_90 rfl (fun _ => rfl) h.1 rfl ((sto_K (by decide)).trans ((sto_K (by decide)).trans ((sto_K (by decide)).trans ((sto_K (by decide)).trans (rfl))))) ?_
    replace h := h.2
    refine aw_istore_n (ls' := [aR 12 0, aI (μ 40 0 (tn (μ 12 0 2)))]) dX12_leads_91 (by decide) rfl rfl ?_
    refine aw_iload_n dX12_leads_92 rfl ?_
    refine aw_callS (M' := M_X12_isLetter) (vs := [aI (μ 40 0 (tn (μ 12 0 2)))]) (st := []) dX12_leads_93 mk_X12_isLetter ms_X12_isLetter ml_RX12_102 mp_X12_isLetter rm_X12_leads__X12_isLetter (Nat.le_of_ble_eq_true rfl) rfl (cw_mono h ?_)
    clear h
    rintro _ μ1 ⟨r2, rfl, h⟩
    show aw Γ M_X12_leads 96 [aR 12 0, aI (μ 40 0 (tn (μ 12 0 2)))] [aI r2] μ1 (rV Q)
    refine aw_if_eq (tgt := 201) dX12_leads_96 (by decide) (fun c0 => ?_) (fun c0 => ?_)
    · replace h := h.1 c0
      refine aw_iload_n dX12_leads_201 rfl ?_
      refine aw_callS (M' := M_X12_isDigit) (vs := [aI (μ 40 0 (tn (μ 12 0 2)))]) (st := []) dX12_leads_202 mk_X12_isDigit ms_X12_isDigit ml_RX12_106 mp_X12_isDigit rm_X12_leads__X12_isDigit (Nat.le_of_ble_eq_true rfl) rfl (cw_mono h ?_)
      clear h
      rintro _ μ3 ⟨r4, rfl, h⟩
      show aw Γ M_X12_leads 205 [aR 12 0, aI (μ 40 0 (tn (μ 12 0 2)))] [aI r4] μ3 (rV Q)
      refine aw_if_eq (tgt := 300) dX12_leads_205 (by decide) (fun c0 => ?_) (fun c0 => ?_)
      · replace h := h.1 c0
        refine aw_aload_n dX12_leads_300 rfl ?_
        refine aw_iload_n dX12_leads_301 rfl ?_
        refine aw_bipush (v := (59 : Int32)) dX12_leads_302 rfl ?_
        refine aw_icmp_ne (tgt := 311) dX12_leads_304 (by decide) (fun c0 => ?_) (fun c0 => ?_)
        · replace h := h.1 c0
          refine aw_iconst (v := (4 : Int32)) dX12_leads_311 rfl ?_
          refine aw_putI dX12_leads_312 rfl fk_RX12_99 (fun r h => by cases h; rfl) rfl rfl ?_
          refine aw_aload_n dX12_leads_315 rfl ?_
          refine aw_dup dX12_leads_316 (fun _ => rfl) ?_
          refine aw_get dX12_leads_317 rfl fk_RX12_89 ((look_I rfl).trans (congrArg aI ((sto_s (by decide)).trans (rfl))) : look (sto μ3 12 0 3 (4 : Int32)) 12 0 2 = aI (μ3 12 0 2)) ?_
          refine aw_iconst (v := (1 : Int32)) dX12_leads_320 rfl ?_
          refine aw_iadd dX12_leads_321 ?_
          refine aw_putI dX12_leads_322 rfl fk_RX12_89 (fun r h => by cases h; rfl) rfl rfl ?_
          exact aw_vret dX12_leads_325 rfl h
        · replace h := h.2 c0
          refine aw_iconst (v := (3 : Int32)) dX12_leads_307 rfl ?_
          refine aw_goto (tgt := 312) dX12_leads_308 (by decide) ?_
          refine aw_putI dX12_leads_312 rfl fk_RX12_99 (fun r h => by cases h; rfl) rfl rfl ?_
          refine aw_aload_n dX12_leads_315 rfl ?_
          refine aw_dup dX12_leads_316 (fun _ => rfl) ?_
          refine aw_get dX12_leads_317 rfl fk_RX12_89 ((look_I rfl).trans (congrArg aI ((sto_s (by decide)).trans (rfl))) : look (sto μ3 12 0 3 (3 : Int32)) 12 0 2 = aI (μ3 12 0 2)) ?_
          refine aw_iconst (v := (1 : Int32)) dX12_leads_320 rfl ?_
          refine aw_iadd dX12_leads_321 ?_
          refine aw_putI dX12_leads_322 rfl fk_RX12_89 (fun r h => by cases h; rfl) rfl rfl ?_
          exact aw_vret dX12_leads_325 rfl h
      · replace h := h.2 c0
        exact aw_wkk h (wk_e (wk_x wk_n))
    · replace h := h.2 c0
      exact aw_wkk h (wk_e (wk_x wk_n))
  · replace h := h.2 c0
    exact aw_vret dX12_leads_81 rfl h
theorem u_X12_leads_0 {Γ : cx_T} {μ : mH}  {Q : mH → Prop} (h : ((μ 12 0 1) ≤ (μ 12 0 2) → (aw Γ M_X12_leads 52 [aR 12 0, aX] [] μ (rV Q))) ∧ (¬ (μ 12 0 1) ≤ (μ 12 0 2) → (vp_in (μ 12 0 2) 200 ∧ (((μ 40 0 (tn (μ 12 0 2))) = (32 : Int32) → (aw Γ M_X12_leads 0 [aR 12 0, aX] [] (sto μ 12 0 2 ((μ 12 0 2) + (1 : Int32))) (rV Q))) ∧ (¬ (μ 40 0 (tn (μ 12 0 2))) = (32 : Int32) → (vp_in (μ 12 0 2) 200 ∧ ((¬ (μ 40 0 (tn (μ 12 0 2))) = (10 : Int32) → (aw Γ M_X12_leads 52 [aR 12 0, aX] [] μ (rV Q))) ∧ ((μ 40 0 (tn (μ 12 0 2))) = (10 : Int32) → (aw Γ M_X12_leads 0 [aR 12 0, aX] [] (sto μ 12 0 2 ((μ 12 0 2) + (1 : Int32))) (rV Q)))))))))) : aw Γ M_X12_leads 0 [aR 12 0, aX] [] μ (rV Q) := by
  refine aw_aload_n dX12_leads_0 rfl ?_
  refine aw_get dX12_leads_1 rfl fk_RX12_89 (look_I rfl : look μ 12 0 2 = aI (μ 12 0 2)) ?_
  refine aw_aload_n dX12_leads_4 rfl ?_
  refine aw_get dX12_leads_5 rfl fk_RX12_81 (look_I rfl : look μ 12 0 1 = aI (μ 12 0 1)) ?_
  refine aw_icmp_ge (tgt := 52) dX12_leads_8 (by decide) (fun c0 => ?_) (fun c0 => ?_)
  · replace h := h.1 c0
    exact h
  · replace h := h.2 c0
    refine aw_aload_n dX12_leads_11 rfl ?_
    refine aw_get dX12_leads_12 rfl fk_RX12_9 (look_R rfl rfl : look _ 12 0 0 = aR 40 0) ?_
    refine aw_aload_n dX12_leads_15 rfl ?_
    refine aw_get dX12_leads_16 rfl fk_RX12_89 (look_I rfl : look μ 12 0 2 = aI (μ 12 0 2)) ?_
    refine aw_ba (j := tn (μ 12 0 2)) (y := μ 40 0 (tn (μ 12 0 2))) dX12_leads_19 rfl (fun _ => rfl) h.1 rfl (rfl) ?_
    replace h := h.2
    refine aw_bipush (v := (32 : Int32)) dX12_leads_20 rfl ?_
    refine aw_icmp_eq (tgt := 39) dX12_leads_22 (by decide) (fun c0 => ?_) (fun c0 => ?_)
    · replace h := h.1 c0
      refine aw_aload_n dX12_leads_39 rfl ?_
      refine aw_dup dX12_leads_40 (fun _ => rfl) ?_
      refine aw_get dX12_leads_41 rfl fk_RX12_89 (look_I rfl : look μ 12 0 2 = aI (μ 12 0 2)) ?_
      refine aw_iconst (v := (1 : Int32)) dX12_leads_44 rfl ?_
      refine aw_iadd dX12_leads_45 ?_
      refine aw_putI dX12_leads_46 rfl fk_RX12_89 (fun r h => by cases h; rfl) rfl rfl ?_
      refine aw_goto (tgt := 0) dX12_leads_49 (by decide) ?_
      exact h
    · replace h := h.2 c0
      refine aw_aload_n dX12_leads_25 rfl ?_
      refine aw_get dX12_leads_26 rfl fk_RX12_9 (look_R rfl rfl : look _ 12 0 0 = aR 40 0) ?_
      refine aw_aload_n dX12_leads_29 rfl ?_
      refine aw_get dX12_leads_30 rfl fk_RX12_89 (look_I rfl : look μ 12 0 2 = aI (μ 12 0 2)) ?_
      refine aw_ba (j := tn (μ 12 0 2)) (y := μ 40 0 (tn (μ 12 0 2))) dX12_leads_33 rfl (fun _ => rfl) h.1 rfl (rfl) ?_
      replace h := h.2
      refine aw_bipush (v := (10 : Int32)) dX12_leads_34 rfl ?_
      refine aw_icmp_ne (tgt := 52) dX12_leads_36 (by decide) (fun c0 => ?_) (fun c0 => ?_)
      · replace h := h.1 c0
        exact h
      · replace h := h.2 c0
        refine aw_aload_n dX12_leads_39 rfl ?_
        refine aw_dup dX12_leads_40 (fun _ => rfl) ?_
        refine aw_get dX12_leads_41 rfl fk_RX12_89 (look_I rfl : look μ 12 0 2 = aI (μ 12 0 2)) ?_
        refine aw_iconst (v := (1 : Int32)) dX12_leads_44 rfl ?_
        refine aw_iadd dX12_leads_45 ?_
        refine aw_putI dX12_leads_46 rfl fk_RX12_89 (fun r h => by cases h; rfl) rfl rfl ?_
        refine aw_goto (tgt := 0) dX12_leads_49 (by decide) ?_
        exact h
theorem u_X12_leads_208 {Γ : cx_T} {μ : mH}  {Q : mH → Prop} (h : ((μ 12 0 1) ≤ (μ 12 0 2) → (Q (sto μ 12 0 3 (2 : Int32)))) ∧ (¬ (μ 12 0 1) ≤ (μ 12 0 2) → (vp_in (μ 12 0 2) 200 ∧ (cwi Γ M_X12_isDigit [aI (μ 40 0 (tn (μ 12 0 2)))] μ (fun r2 μ1 => (r2 = 0 → (Q (sto μ1 12 0 3 (2 : Int32)))) ∧ (¬ r2 = 0 → (((lg_cmp (mkL (μ1 12 0 5) (μ1 12 0 100)) (99999 : Int64)) ≤ 0 → (vp_in (μ1 12 0 2) 200 ∧ (aw Γ M_X12_leads 208 [aR 12 0, aX] [] (sto (sto (sto μ1 12 0 5 (hiL ((((10 : Int64) * (mkL (μ1 12 0 5) (μ1 12 0 100))) + ((μ1 40 0 (tn (μ1 12 0 2))).toInt64)) - (48 : Int64)))) 12 0 100 (loL ((((10 : Int64) * (mkL (μ1 12 0 5) (μ1 12 0 100))) + ((μ1 40 0 (tn (μ1 12 0 2))).toInt64)) - (48 : Int64)))) 12 0 2 ((μ1 12 0 2) + (1 : Int32))) (rV Q)))) ∧ (¬ (lg_cmp (mkL (μ1 12 0 5) (μ1 12 0 100)) (99999 : Int64)) ≤ 0 → (aw Γ M_X12_leads 208 [aR 12 0, aX] [] (sto (sto (sto μ1 12 0 5 (hiL (mkL (μ1 12 0 5) (μ1 12 0 100)))) 12 0 100 (loL (mkL (μ1 12 0 5) (μ1 12 0 100)))) 12 0 2 ((μ1 12 0 2) + (1 : Int32))) (rV Q)))))))))) : aw Γ M_X12_leads 208 [aR 12 0, aX] [] μ (rV Q) := by
  refine aw_aload_n dX12_leads_208 rfl ?_
  refine aw_get dX12_leads_209 rfl fk_RX12_89 (look_I rfl : look μ 12 0 2 = aI (μ 12 0 2)) ?_
  refine aw_aload_n dX12_leads_212 rfl ?_
  refine aw_get dX12_leads_213 rfl fk_RX12_81 (look_I rfl : look μ 12 0 1 = aI (μ 12 0 1)) ?_
  refine aw_icmp_ge (tgt := 292) dX12_leads_216 (by decide) (fun c0 => ?_) (fun c0 => ?_)
  · replace h := h.1 c0
    refine aw_aload_n dX12_leads_292 rfl ?_
    refine aw_iconst (v := (2 : Int32)) dX12_leads_293 rfl ?_
    refine aw_putI dX12_leads_294 rfl fk_RX12_99 (fun r h => by cases h; rfl) rfl rfl ?_
    refine aw_goto (tgt := 325) dX12_leads_297 (by decide) ?_
    exact aw_vret dX12_leads_325 rfl h
  · replace h := h.2 c0
    refine aw_aload_n dX12_leads_219 rfl ?_
    refine aw_get dX12_leads_220 rfl fk_RX12_9 (look_R rfl rfl : look _ 12 0 0 = aR 40 0) ?_
    refine aw_aload_n dX12_leads_223 rfl ?_
    refine aw_get dX12_leads_224 rfl fk_RX12_89 (look_I rfl : look μ 12 0 2 = aI (μ 12 0 2)) ?_
    refine aw_ba (j := tn (μ 12 0 2)) (y := μ 40 0 (tn (μ 12 0 2))) dX12_leads_227 rfl (fun _ => rfl) h.1 rfl (rfl) ?_
    replace h := h.2
    refine aw_callS (M' := M_X12_isDigit) (vs := [aI (μ 40 0 (tn (μ 12 0 2)))]) (st := []) dX12_leads_228 mk_X12_isDigit ms_X12_isDigit ml_RX12_106 mp_X12_isDigit rm_X12_leads__X12_isDigit (Nat.le_of_ble_eq_true rfl) rfl (cw_mono h ?_)
    clear h
    rintro _ μ1 ⟨r2, rfl, h⟩
    show aw Γ M_X12_leads 231 [aR 12 0, aX] [aI r2] μ1 (rV Q)
    refine aw_if_eq (tgt := 292) dX12_leads_231 (by decide) (fun c0 => ?_) (fun c0 => ?_)
    · replace h := h.1 c0
      refine aw_aload_n dX12_leads_292 rfl ?_
      refine aw_iconst (v := (2 : Int32)) dX12_leads_293 rfl ?_
      refine aw_putI dX12_leads_294 rfl fk_RX12_99 (fun r h => by cases h; rfl) rfl rfl ?_
      refine aw_goto (tgt := 325) dX12_leads_297 (by decide) ?_
      exact aw_vret dX12_leads_325 rfl h
    · replace h := h.2 c0
      refine aw_aload_n dX12_leads_234 rfl ?_
      refine aw_aload_n dX12_leads_235 rfl ?_
      refine aw_get dX12_leads_236 rfl fk_RX12_95 (show look μ1 12 0 5 = aL (mkL (μ1 12 0 5) (μ1 12 0 100)) from rfl) ?_
      refine aw_ldc2 (v := (99999 : Int64)) dX12_leads_239 kc_RX12_109 ?_
      refine aw_lcmp dX12_leads_242 ?_
      refine aw_if_le (tgt := 253) dX12_leads_243 (by decide) (fun c0 => ?_) (fun c0 => ?_)
      · replace h := h.1 c0
        refine aw_ldc2 (v := (10 : Int64)) dX12_leads_253 kc_RX12_111 ?_
        refine aw_aload_n dX12_leads_256 rfl ?_
        refine aw_get dX12_leads_257 rfl fk_RX12_95 (show look μ1 12 0 5 = aL (mkL (μ1 12 0 5) (μ1 12 0 100)) from rfl) ?_
        refine aw_lmul dX12_leads_260 ?_
        refine aw_aload_n dX12_leads_261 rfl ?_
        refine aw_get dX12_leads_262 rfl fk_RX12_9 (look_R rfl rfl : look _ 12 0 0 = aR 40 0) ?_
        refine aw_aload_n dX12_leads_265 rfl ?_
        refine aw_get dX12_leads_266 rfl fk_RX12_89 (look_I rfl : look μ1 12 0 2 = aI (μ1 12 0 2)) ?_
        refine aw_ba (j := tn (μ1 12 0 2)) (y := μ1 40 0 (tn (μ1 12 0 2))) dX12_leads_269 rfl (fun _ => rfl) h.1 rfl (rfl) ?_
        replace h := h.2
        refine aw_i2l dX12_leads_270 ?_
        refine aw_ladd dX12_leads_271 ?_
        refine aw_ldc2 (v := (48 : Int64)) dX12_leads_272 kc_RX12_113 ?_
        refine aw_lsub dX12_leads_275 ?_
        refine aw_putL dX12_leads_276 fk_RX12_95 ?_
        refine aw_aload_n dX12_leads_279 rfl ?_
        refine aw_dup dX12_leads_280 (fun _ => rfl) ?_
        refine aw_get dX12_leads_281 rfl fk_RX12_89 ((look_I rfl).trans (congrArg aI ((sto_s (by decide)).trans ((sto_s (by decide)).trans (rfl)))) : look (sto (sto μ1 12 0 5 (hiL ((((10 : Int64) * (mkL (μ1 12 0 5) (μ1 12 0 100))) + ((μ1 40 0 (tn (μ1 12 0 2))).toInt64)) - (48 : Int64)))) 12 0 100 (loL ((((10 : Int64) * (mkL (μ1 12 0 5) (μ1 12 0 100))) + ((μ1 40 0 (tn (μ1 12 0 2))).toInt64)) - (48 : Int64)))) 12 0 2 = aI (μ1 12 0 2)) ?_
        refine aw_iconst (v := (1 : Int32)) dX12_leads_284 rfl ?_
        refine aw_iadd dX12_leads_285 ?_
        refine aw_putI dX12_leads_286 rfl fk_RX12_89 (fun r h => by cases h; rfl) rfl rfl ?_
        refine aw_goto (tgt := 208) dX12_leads_289 (by decide) ?_
        exact h
      · replace h := h.2 c0
        refine aw_aload_n dX12_leads_246 rfl ?_
        refine aw_get dX12_leads_247 rfl fk_RX12_95 (show look μ1 12 0 5 = aL (mkL (μ1 12 0 5) (μ1 12 0 100)) from rfl) ?_
        refine aw_goto (tgt := 276) dX12_leads_250 (by decide) ?_
        refine aw_putL dX12_leads_276 fk_RX12_95 ?_
        refine aw_aload_n dX12_leads_279 rfl ?_
        refine aw_dup dX12_leads_280 (fun _ => rfl) ?_
        refine aw_get dX12_leads_281 rfl fk_RX12_89 ((look_I rfl).trans (congrArg aI ((sto_s (by decide)).trans ((sto_s (by decide)).trans (rfl)))) : look (sto (sto μ1 12 0 5 (hiL (mkL (μ1 12 0 5) (μ1 12 0 100)))) 12 0 100 (loL (mkL (μ1 12 0 5) (μ1 12 0 100)))) 12 0 2 = aI (μ1 12 0 2)) ?_
        refine aw_iconst (v := (1 : Int32)) dX12_leads_284 rfl ?_
        refine aw_iadd dX12_leads_285 ?_
        refine aw_putI dX12_leads_286 rfl fk_RX12_89 (fun r h => by cases h; rfl) rfl rfl ?_
        refine aw_goto (tgt := 208) dX12_leads_289 (by decide) ?_
        exact h
theorem u_X12_leads_99 {Γ : cx_T} {μ : mH}  {Q : mH → Prop} (h : ((μ 12 0 1) ≤ (μ 12 0 2) → (aw Γ M_X12_leads 174 [aR 12 0, aX] [] μ (rV Q))) ∧ (¬ (μ 12 0 1) ≤ (μ 12 0 2) → (vp_in (μ 12 0 2) 200 ∧ (cwi Γ M_X12_isLetter [aI (μ 40 0 (tn (μ 12 0 2)))] μ (fun r2 μ1 => (r2 = 0 → (aw Γ M_X12_leads 174 [aR 12 0, aX] [] μ1 (rV Q))) ∧ (¬ r2 = 0 → (((8 : Int32) ≤ ((μ1 12 0 2) - (μ1 12 0 4)) → (aw Γ M_X12_leads 99 [aR 12 0, aX] [] (sto μ1 12 0 2 ((μ1 12 0 2) + (1 : Int32))) (rV Q))) ∧ (¬ (8 : Int32) ≤ ((μ1 12 0 2) - (μ1 12 0 4)) → (vp_in (μ1 12 0 2) 200 ∧ (aw Γ M_X12_leads 99 [aR 12 0, aX] [] (sto (sto (sto μ1 12 0 5 (hiL (((mkL (μ1 12 0 5) (μ1 12 0 100)) <<< ((8 : Int32).toInt64 &&& 63)) ||| ((μ1 40 0 (tn (μ1 12 0 2))).toInt64)))) 12 0 100 (loL (((mkL (μ1 12 0 5) (μ1 12 0 100)) <<< ((8 : Int32).toInt64 &&& 63)) ||| ((μ1 40 0 (tn (μ1 12 0 2))).toInt64)))) 12 0 2 ((μ1 12 0 2) + (1 : Int32))) (rV Q))))))))))) : aw Γ M_X12_leads 99 [aR 12 0, aX] [] μ (rV Q) := by
  refine aw_aload_n dX12_leads_99 rfl ?_
  refine aw_get dX12_leads_100 rfl fk_RX12_89 (look_I rfl : look μ 12 0 2 = aI (μ 12 0 2)) ?_
  refine aw_aload_n dX12_leads_103 rfl ?_
  refine aw_get dX12_leads_104 rfl fk_RX12_81 (look_I rfl : look μ 12 0 1 = aI (μ 12 0 1)) ?_
  refine aw_icmp_ge (tgt := 174) dX12_leads_107 (by decide) (fun c0 => ?_) (fun c0 => ?_)
  · replace h := h.1 c0
    exact h
  · replace h := h.2 c0
    refine aw_aload_n dX12_leads_110 rfl ?_
    refine aw_get dX12_leads_111 rfl fk_RX12_9 (look_R rfl rfl : look _ 12 0 0 = aR 40 0) ?_
    refine aw_aload_n dX12_leads_114 rfl ?_
    refine aw_get dX12_leads_115 rfl fk_RX12_89 (look_I rfl : look μ 12 0 2 = aI (μ 12 0 2)) ?_
    refine aw_ba (j := tn (μ 12 0 2)) (y := μ 40 0 (tn (μ 12 0 2))) dX12_leads_118 rfl (fun _ => rfl) h.1 rfl (rfl) ?_
    replace h := h.2
    refine aw_callS (M' := M_X12_isLetter) (vs := [aI (μ 40 0 (tn (μ 12 0 2)))]) (st := []) dX12_leads_119 mk_X12_isLetter ms_X12_isLetter ml_RX12_102 mp_X12_isLetter rm_X12_leads__X12_isLetter (Nat.le_of_ble_eq_true rfl) rfl (cw_mono h ?_)
    clear h
    rintro _ μ1 ⟨r2, rfl, h⟩
    show aw Γ M_X12_leads 122 [aR 12 0, aX] [aI r2] μ1 (rV Q)
    refine aw_if_eq (tgt := 174) dX12_leads_122 (by decide) (fun c0 => ?_) (fun c0 => ?_)
    · replace h := h.1 c0
      exact h
    · replace h := h.2 c0
      refine aw_aload_n dX12_leads_125 rfl ?_
      refine aw_get dX12_leads_126 rfl fk_RX12_89 (look_I rfl : look μ1 12 0 2 = aI (μ1 12 0 2)) ?_
      refine aw_aload_n dX12_leads_129 rfl ?_
      refine aw_get dX12_leads_130 rfl fk_RX12_92 (look_I rfl : look μ1 12 0 4 = aI (μ1 12 0 4)) ?_
      refine aw_isub dX12_leads_133 ?_
      refine aw_bipush (v := (8 : Int32)) dX12_leads_134 rfl ?_
      refine aw_icmp_ge (tgt := 161) dX12_leads_136 (by decide) (fun c0 => ?_) (fun c0 => ?_)
      · replace h := h.1 c0
        refine aw_aload_n dX12_leads_161 rfl ?_
        refine aw_dup dX12_leads_162 (fun _ => rfl) ?_
        refine aw_get dX12_leads_163 rfl fk_RX12_89 (look_I rfl : look μ1 12 0 2 = aI (μ1 12 0 2)) ?_
        refine aw_iconst (v := (1 : Int32)) dX12_leads_166 rfl ?_
        refine aw_iadd dX12_leads_167 ?_
        refine aw_putI dX12_leads_168 rfl fk_RX12_89 (fun r h => by cases h; rfl) rfl rfl ?_
        refine aw_goto (tgt := 99) dX12_leads_171 (by decide) ?_
        exact h
      · replace h := h.2 c0
        refine aw_aload_n dX12_leads_139 rfl ?_
        refine aw_aload_n dX12_leads_140 rfl ?_
        refine aw_get dX12_leads_141 rfl fk_RX12_95 (show look μ1 12 0 5 = aL (mkL (μ1 12 0 5) (μ1 12 0 100)) from rfl) ?_
        refine aw_bipush (v := (8 : Int32)) dX12_leads_144 rfl ?_
        refine aw_lshl dX12_leads_146 ?_
        refine aw_aload_n dX12_leads_147 rfl ?_
        refine aw_get dX12_leads_148 rfl fk_RX12_9 (look_R rfl rfl : look _ 12 0 0 = aR 40 0) ?_
        refine aw_aload_n dX12_leads_151 rfl ?_
        refine aw_get dX12_leads_152 rfl fk_RX12_89 (look_I rfl : look μ1 12 0 2 = aI (μ1 12 0 2)) ?_
        refine aw_ba (j := tn (μ1 12 0 2)) (y := μ1 40 0 (tn (μ1 12 0 2))) dX12_leads_155 rfl (fun _ => rfl) h.1 rfl (rfl) ?_
        replace h := h.2
        refine aw_i2l dX12_leads_156 ?_
        refine aw_lor dX12_leads_157 ?_
        refine aw_putL dX12_leads_158 fk_RX12_95 ?_
        refine aw_aload_n dX12_leads_161 rfl ?_
        refine aw_dup dX12_leads_162 (fun _ => rfl) ?_
        refine aw_get dX12_leads_163 rfl fk_RX12_89 ((look_I rfl).trans (congrArg aI ((sto_s (by decide)).trans ((sto_s (by decide)).trans (rfl)))) : look (sto (sto μ1 12 0 5 (hiL (((mkL (μ1 12 0 5) (μ1 12 0 100)) <<< ((8 : Int32).toInt64 &&& 63)) ||| ((μ1 40 0 (tn (μ1 12 0 2))).toInt64)))) 12 0 100 (loL (((mkL (μ1 12 0 5) (μ1 12 0 100)) <<< ((8 : Int32).toInt64 &&& 63)) ||| ((μ1 40 0 (tn (μ1 12 0 2))).toInt64)))) 12 0 2 = aI (μ1 12 0 2)) ?_
        refine aw_iconst (v := (1 : Int32)) dX12_leads_166 rfl ?_
        refine aw_iadd dX12_leads_167 ?_
        refine aw_putI dX12_leads_168 rfl fk_RX12_89 (fun r h => by cases h; rfl) rfl rfl ?_
        refine aw_goto (tgt := 99) dX12_leads_171 (by decide) ?_
        exact h
theorem u_X12_leads_174 {Γ : cx_T} {μ : mH}  {Q : mH → Prop} (h : (((μ 12 0 2) - (μ 12 0 4)) ≤ (8 : Int32) → (Q (sto μ 12 0 3 (1 : Int32)))) ∧ (¬ ((μ 12 0 2) - (μ 12 0 4)) ≤ (8 : Int32) → (Q (sto (sto (sto μ 12 0 5 (hiL (0 : Int64))) 12 0 100 (loL (0 : Int64))) 12 0 3 (1 : Int32))))) : aw Γ M_X12_leads 174 [aR 12 0, aX] [] μ (rV Q) := by
  refine aw_aload_n dX12_leads_174 rfl ?_
  refine aw_get dX12_leads_175 rfl fk_RX12_89 (look_I rfl : look μ 12 0 2 = aI (μ 12 0 2)) ?_
  refine aw_aload_n dX12_leads_178 rfl ?_
  refine aw_get dX12_leads_179 rfl fk_RX12_92 (look_I rfl : look μ 12 0 4 = aI (μ 12 0 4)) ?_
  refine aw_isub dX12_leads_182 ?_
  refine aw_bipush (v := (8 : Int32)) dX12_leads_183 rfl ?_
  refine aw_icmp_le (tgt := 193) dX12_leads_185 (by decide) (fun c0 => ?_) (fun c0 => ?_)
  · replace h := h.1 c0
    refine aw_aload_n dX12_leads_193 rfl ?_
    refine aw_iconst (v := (1 : Int32)) dX12_leads_194 rfl ?_
    refine aw_putI dX12_leads_195 rfl fk_RX12_99 (fun r h => by cases h; rfl) rfl rfl ?_
    refine aw_goto (tgt := 325) dX12_leads_198 (by decide) ?_
    exact aw_vret dX12_leads_325 rfl h
  · replace h := h.2 c0
    refine aw_aload_n dX12_leads_188 rfl ?_
    refine aw_lconst (v := (0 : Int64)) dX12_leads_189 rfl ?_
    refine aw_putL dX12_leads_190 fk_RX12_95 ?_
    refine aw_aload_n dX12_leads_193 rfl ?_
    refine aw_iconst (v := (1 : Int32)) dX12_leads_194 rfl ?_
    refine aw_putI dX12_leads_195 rfl fk_RX12_99 (fun r h => by cases h; rfl) rfl rfl ?_
    refine aw_goto (tgt := 325) dX12_leads_198 (by decide) ?_
    exact aw_vret dX12_leads_325 rfl h
theorem u_X12_packed {Γ : cx_T} {μ : mH} {k0 : Nat} {Q : Int64 → mH → Prop} (h : aw Γ M_X12_packed 4 [aR 63 k0, aL (0 : Int64), aX, aI (0 : Int32)] [] μ (rL Q)) : cwl Γ M_X12_packed [aR 63 k0] μ Q := by
  refine cw_ofU (ls := [aR 63 k0, aX, aX, aX]) (Or.inl (by decide)) rfl (Nat.le_of_ble_eq_true rfl) rfl ?_
  refine aw_lconst (v := (0 : Int64)) dX12_packed_0 rfl ?_
  refine aw_lstore_n (ls' := [aR 63 k0, aL (0 : Int64), aX, aX]) dX12_packed_1 (by decide) rfl rfl ?_
  refine aw_iconst (v := (0 : Int32)) dX12_packed_2 rfl ?_
  refine aw_istore_n (ls' := [aR 63 k0, aL (0 : Int64), aX, aI (0 : Int32)]) dX12_packed_3 (by decide) rfl rfl ?_
  exact h
theorem u_X12_packed_4 {Γ : cx_T} {μ : mH} {i0 : Nat} {l1 : Int64} {x3 : Int32} {Q : Int64 → mH → Prop} (h : cwi Γ M_J0_length_8abf5 [aR 63 i0] μ (fun r2 μ1 => (r2 ≤ x3 → (Q l1 μ1)) ∧ (¬ r2 ≤ x3 → (cwi Γ M_J0_charAt_5068e [aR 63 i0, aI x3] μ1 (fun r4 μ3 => aw Γ M_X12_packed 4 [aR 63 i0, aL ((l1 <<< ((8 : Int32).toInt64 &&& 63)) ||| r4.toInt64), aX, aI (x3 + (1 : Int32))] [] μ3 (rL Q)))))) : aw Γ M_X12_packed 4 [aR 63 i0, aL l1, aX, aI x3] [] μ (rL Q) := by
  refine aw_iload_n dX12_packed_4 rfl ?_
  refine aw_aload_n dX12_packed_5 rfl ?_
  refine aw_callV (M' := M_J0_length_8abf5) (K := 63) (i := i0) (vs := []) (st := [aI x3]) dX12_packed_6 mk_J0_length_8abf5 mi_J0_length_8abf5 ml_RX12_115 mp_J0_length_8abf5 rc_63 rm_X12_packed__J0_length_8abf5 (Nat.le_of_ble_eq_true rfl) rfl (cw_mono h ?_)
  clear h
  rintro _ μ1 ⟨r2, rfl, h⟩
  show aw Γ M_X12_packed 9 [aR 63 i0, aL l1, aX, aI x3] [aI r2, aI x3] μ1 (rL Q)
  refine aw_icmp_ge (tgt := 30) dX12_packed_9 (by decide) (fun c0 => ?_) (fun c0 => ?_)
  · replace h := h.1 c0
    refine aw_lload_n dX12_packed_30 rfl ?_
    exact aw_lret dX12_packed_31 rfl ⟨_, rfl, h⟩
  · replace h := h.2 c0
    refine aw_lload_n dX12_packed_12 rfl ?_
    refine aw_bipush (v := (8 : Int32)) dX12_packed_13 rfl ?_
    refine aw_lshl dX12_packed_15 ?_
    refine aw_aload_n dX12_packed_16 rfl ?_
    refine aw_iload_n dX12_packed_17 rfl ?_
    refine aw_callV (M' := M_J0_charAt_5068e) (K := 63) (i := i0) (vs := [aI x3]) (st := [aL (l1 <<< ((8 : Int32).toInt64 &&& 63))]) dX12_packed_18 mk_J0_charAt_5068e mi_J0_charAt_5068e ml_RX12_121 mp_J0_charAt_5068e rc_63 rm_X12_packed__J0_charAt_5068e (Nat.le_of_ble_eq_true rfl) rfl (cw_mono h ?_)
    clear h
    rintro _ μ3 ⟨r4, rfl, h⟩
    show aw Γ M_X12_packed 21 [aR 63 i0, aL l1, aX, aI x3] [aI r4, aL (l1 <<< ((8 : Int32).toInt64 &&& 63))] μ3 (rL Q)
    refine aw_i2l dX12_packed_21 ?_
    refine aw_lor dX12_packed_22 ?_
    refine aw_lstore_n (ls' := [aR 63 i0, aL ((l1 <<< ((8 : Int32).toInt64 &&& 63)) ||| r4.toInt64), aX, aI x3]) dX12_packed_23 (by decide) rfl rfl ?_
    refine aw_iinc (v := x3 + (1 : Int32)) (ls' := [aR 63 i0, aL ((l1 <<< ((8 : Int32).toInt64 &&& 63)) ||| r4.toInt64), aX, aI (x3 + (1 : Int32))]) dX12_packed_24 rfl rfl (by decide) rfl rfl ?_
    refine aw_goto (tgt := 4) dX12_packed_27 (by decide) ?_
    exact h
theorem u_X12_isWord {Γ : cx_T} {μ : mH} {k1 : Nat} {Q : Int32 → mH → Prop} (h : (¬ (μ 12 0 3) = (1 : Int32) → (Q (0 : Int32) μ)) ∧ ((μ 12 0 3) = (1 : Int32) → (cwl Γ M_X12_packed [aR 63 k1] μ (fun r2 μ1 => (¬ (lg_cmp (mkL (μ 12 0 5) (μ 12 0 100)) r2) = 0 → (Q (0 : Int32) μ1)) ∧ ((lg_cmp (mkL (μ 12 0 5) (μ 12 0 100)) r2) = 0 → (Q (1 : Int32) μ1)))))) : cwi Γ M_X12_isWord [aR 12 0, aR 63 k1] μ Q := by
  refine cw_ofU (ls := [aR 12 0, aR 63 k1]) (Or.inl (by decide)) rfl (Nat.le_of_ble_eq_true rfl) rfl ?_
  refine aw_aload_n dX12_isWord_0 rfl ?_
  refine aw_get dX12_isWord_1 rfl fk_RX12_99 (look_I rfl : look μ 12 0 3 = aI (μ 12 0 3)) ?_
  refine aw_iconst (v := (1 : Int32)) dX12_isWord_4 rfl ?_
  refine aw_icmp_ne (tgt := 24) dX12_isWord_5 (by decide) (fun c0 => ?_) (fun c0 => ?_)
  · replace h := h.1 c0
    refine aw_iconst (v := (0 : Int32)) dX12_isWord_24 rfl ?_
    exact aw_iret (ty := .boolean) dX12_isWord_25 rfl (by decide) ⟨_, rfl, h⟩
  · replace h := h.2 c0
    refine aw_aload_n dX12_isWord_8 rfl ?_
    refine aw_get dX12_isWord_9 rfl fk_RX12_95 (show look μ 12 0 5 = aL (mkL (μ 12 0 5) (μ 12 0 100)) from rfl) ?_
    refine aw_aload_n dX12_isWord_12 rfl ?_
    refine aw_callS (M' := M_X12_packed) (vs := [aR 63 k1]) (st := [aL (mkL (μ 12 0 5) (μ 12 0 100))]) dX12_isWord_13 mk_X12_packed ms_X12_packed ml_RX12_125 mp_X12_packed rm_X12_isWord__X12_packed (Nat.le_of_ble_eq_true rfl) rfl (cw_mono h ?_)
    clear h
    rintro _ μ1 ⟨r2, rfl, h⟩
    show aw Γ M_X12_isWord 16 [aR 12 0, aR 63 k1] [aL r2, aL (mkL (μ 12 0 5) (μ 12 0 100))] μ1 (rI Q)
    refine aw_lcmp dX12_isWord_16 ?_
    refine aw_if_ne (tgt := 24) dX12_isWord_17 (by decide) (fun c0 => ?_) (fun c0 => ?_)
    · replace h := h.1 c0
      refine aw_iconst (v := (0 : Int32)) dX12_isWord_24 rfl ?_
      exact aw_iret (ty := .boolean) dX12_isWord_25 rfl (by decide) ⟨_, rfl, h⟩
    · replace h := h.2 c0
      refine aw_iconst (v := (1 : Int32)) dX12_isWord_20 rfl ?_
      refine aw_goto (tgt := 25) dX12_isWord_21 (by decide) ?_
      exact aw_iret (ty := .boolean) dX12_isWord_25 rfl (by decide) ⟨_, rfl, h⟩
theorem u_X12_number {Γ : cx_T} {μ : mH} {x1 : Int32} {x2 : Int32} {x3 : Int32} {Q : Int32 → mH → Prop} (h : (¬ (μ 12 0 3) = (2 : Int32) → (Q (0 : Int32) μ)) ∧ ((μ 12 0 3) = (2 : Int32) → (((lg_cmp (mkL (μ 12 0 5) (μ 12 0 100)) x2.toInt64) < 0 → (Q (0 : Int32) μ)) ∧ (¬ (lg_cmp (mkL (μ 12 0 5) (μ 12 0 100)) x2.toInt64) < 0 → (((lg_cmp (mkL (μ 12 0 5) (μ 12 0 100)) x3.toInt64) ≤ 0 → (vp_in x1 9 ∧ (cwv Γ M_X12_leads [aR 12 0] (sto μ 41 0 (tn x1) ((mkL (μ 12 0 5) (μ 12 0 100)).toInt32)) (fun μ1 => Q (1 : Int32) μ1)))) ∧ (¬ (lg_cmp (mkL (μ 12 0 5) (μ 12 0 100)) x3.toInt64) ≤ 0 → (Q (0 : Int32) μ))))))) : cwi Γ M_X12_number [aR 12 0, aI x1, aI x2, aI x3] μ Q := by
  refine cw_ofU (ls := [aR 12 0, aI x1, aI x2, aI x3]) (Or.inl (by decide)) rfl (Nat.le_of_ble_eq_true rfl) rfl ?_
  refine aw_aload_n dX12_number_0 rfl ?_
  refine aw_get dX12_number_1 rfl fk_RX12_99 (look_I rfl : look μ 12 0 3 = aI (μ 12 0 3)) ?_
  refine aw_iconst (v := (2 : Int32)) dX12_number_4 rfl ?_
  refine aw_icmp_ne (tgt := 28) dX12_number_5 (by decide) (fun c0 => ?_) (fun c0 => ?_)
  · replace h := h.1 c0
    refine aw_iconst (v := (0 : Int32)) dX12_number_28 rfl ?_
    exact aw_iret (ty := .boolean) dX12_number_29 rfl (by decide) ⟨_, rfl, h⟩
  · replace h := h.2 c0
    refine aw_aload_n dX12_number_8 rfl ?_
    refine aw_get dX12_number_9 rfl fk_RX12_95 (show look μ 12 0 5 = aL (mkL (μ 12 0 5) (μ 12 0 100)) from rfl) ?_
    refine aw_iload_n dX12_number_12 rfl ?_
    refine aw_i2l dX12_number_13 ?_
    refine aw_lcmp dX12_number_14 ?_
    refine aw_if_lt (tgt := 28) dX12_number_15 (by decide) (fun c0 => ?_) (fun c0 => ?_)
    · replace h := h.1 c0
      refine aw_iconst (v := (0 : Int32)) dX12_number_28 rfl ?_
      exact aw_iret (ty := .boolean) dX12_number_29 rfl (by decide) ⟨_, rfl, h⟩
    · replace h := h.2 c0
      refine aw_aload_n dX12_number_18 rfl ?_
      refine aw_get dX12_number_19 rfl fk_RX12_95 (show look μ 12 0 5 = aL (mkL (μ 12 0 5) (μ 12 0 100)) from rfl) ?_
      refine aw_iload_n dX12_number_22 rfl ?_
      refine aw_i2l dX12_number_23 ?_
      refine aw_lcmp dX12_number_24 ?_
      refine aw_if_le (tgt := 30) dX12_number_25 (by decide) (fun c0 => ?_) (fun c0 => ?_)
      · replace h := h.1 c0
        refine aw_aload_n dX12_number_30 rfl ?_
        refine aw_get dX12_number_31 rfl fk_RX12_13 (look_R rfl rfl : look _ 12 0 6 = aR 41 0) ?_
        refine aw_iload_n dX12_number_34 rfl ?_
        refine aw_aload_n dX12_number_35 rfl ?_
        refine aw_get dX12_number_36 rfl fk_RX12_95 (show look μ 12 0 5 = aL (mkL (μ 12 0 5) (μ 12 0 100)) from rfl) ?_
        refine aw_l2i dX12_number_39 ?_
        refine aw_is (j := tn x1) dX12_number_40 rfl (fun _ => rfl) h.1 rfl ?_
        replace h := h.2
        refine aw_aload_n dX12_number_41 rfl ?_
        refine aw_callV (M' := M_X12_leads) (K := 12) (i := 0) (vs := []) (st := []) dX12_number_42 mk_X12_leads mi_X12_leads ml_RX12_129 mp_X12_leads rc_12 rm_X12_number__X12_leads (Nat.le_of_ble_eq_true rfl) rfl (cw_mono h ?_)
        clear h
        intro _ μ1 h
        show aw Γ M_X12_number 45 [aR 12 0, aI x1, aI x2, aI x3] [] μ1 (rI Q)
        refine aw_iconst (v := (1 : Int32)) dX12_number_45 rfl ?_
        exact aw_iret (ty := .boolean) dX12_number_46 rfl (by decide) ⟨_, rfl, h⟩
      · replace h := h.2 c0
        refine aw_iconst (v := (0 : Int32)) dX12_number_28 rfl ?_
        exact aw_iret (ty := .boolean) dX12_number_29 rfl (by decide) ⟨_, rfl, h⟩
theorem u_X12_closes {Γ : cx_T} {μ : mH}  {Q : Int32 → mH → Prop} (h : ((μ 12 0 3) = (3 : Int32) → (cwv Γ M_X12_leads [aR 12 0] μ (fun μ1 => Q (1 : Int32) μ1))) ∧ (¬ (μ 12 0 3) = (3 : Int32) → (Q (0 : Int32) μ))) : cwi Γ M_X12_closes [aR 12 0] μ Q := by
  refine cw_ofU (ls := [aR 12 0]) (Or.inl (by decide)) rfl (Nat.le_of_ble_eq_true rfl) rfl ?_
  refine aw_aload_n dX12_closes_0 rfl ?_
  refine aw_get dX12_closes_1 rfl fk_RX12_99 (look_I rfl : look μ 12 0 3 = aI (μ 12 0 3)) ?_
  refine aw_iconst (v := (3 : Int32)) dX12_closes_4 rfl ?_
  refine aw_icmp_eq (tgt := 10) dX12_closes_5 (by decide) (fun c0 => ?_) (fun c0 => ?_)
  · replace h := h.1 c0
    refine aw_aload_n dX12_closes_10 rfl ?_
    refine aw_callV (M' := M_X12_leads) (K := 12) (i := 0) (vs := []) (st := []) dX12_closes_11 mk_X12_leads mi_X12_leads ml_RX12_129 mp_X12_leads rc_12 rm_X12_closes__X12_leads (Nat.le_of_ble_eq_true rfl) rfl (cw_mono h ?_)
    clear h
    intro _ μ1 h
    show aw Γ M_X12_closes 14 [aR 12 0] [] μ1 (rI Q)
    refine aw_iconst (v := (1 : Int32)) dX12_closes_14 rfl ?_
    exact aw_iret (ty := .boolean) dX12_closes_15 rfl (by decide) ⟨_, rfl, h⟩
  · replace h := h.2 c0
    refine aw_iconst (v := (0 : Int32)) dX12_closes_8 rfl ?_
    exact aw_iret (ty := .boolean) dX12_closes_9 rfl (by decide) ⟨_, rfl, h⟩
theorem u_X12_sumHere {Γ : cx_T} {μ : mH}  {Q : Int32 → mH → Prop} (h : cwi Γ M_X12_isWord [aR 12 0, aR 63 8] μ (fun r2 μ1 => (r2 = 0 → (cwi Γ M_X12_isWord [aR 12 0, aR 63 6] μ1 (fun r4 μ3 => (r4 = 0 → (cwi Γ M_X12_isWord [aR 12 0, aR 63 7] μ3 (fun r6 μ5 => (r6 = 0 → (aw Γ M_X12_sumHere 45 [aR 12 0] [aI (-1 : Int32), aI (5 : Int32), aR 41 0] μ5 (rI Q))) ∧ (¬ r6 = 0 → (aw Γ M_X12_sumHere 45 [aR 12 0] [aI (3 : Int32), aI (5 : Int32), aR 41 0] μ5 (rI Q)))))) ∧ (¬ r4 = 0 → (aw Γ M_X12_sumHere 45 [aR 12 0] [aI (2 : Int32), aI (5 : Int32), aR 41 0] μ3 (rI Q)))))) ∧ (¬ r2 = 0 → (aw Γ M_X12_sumHere 45 [aR 12 0] [aI (1 : Int32), aI (5 : Int32), aR 41 0] μ1 (rI Q))))) : cwi Γ M_X12_sumHere [aR 12 0] μ Q := by
  refine cw_ofU (ls := [aR 12 0]) (Or.inl (by decide)) rfl (Nat.le_of_ble_eq_true rfl) rfl ?_
  refine aw_aload_n dX12_sumHere_0 rfl ?_
  refine aw_get dX12_sumHere_1 rfl fk_RX12_13 (look_R rfl rfl : look _ 12 0 6 = aR 41 0) ?_
  refine aw_iconst (v := (5 : Int32)) dX12_sumHere_4 rfl ?_
  refine aw_aload_n dX12_sumHere_5 rfl ?_
  refine aw_ldcS (tx := "crc") (j := 8) dX12_sumHere_6 (by decide +kernel) (by decide) ?_
  refine aw_callV (M' := M_X12_isWord) (K := 12) (i := 0) (vs := [aR 63 8]) (st := [aI (5 : Int32), aR 41 0]) dX12_sumHere_8 mk_X12_isWord mi_X12_isWord ml_RX12_134 mp_X12_isWord rc_12 rm_X12_sumHere__X12_isWord (Nat.le_of_ble_eq_true rfl) rfl (cw_mono h ?_)
  clear h
  rintro _ μ1 ⟨r2, rfl, h⟩
  show aw Γ M_X12_sumHere 11 [aR 12 0] [aI r2, aI (5 : Int32), aR 41 0] μ1 (rI Q)
  refine aw_if_eq (tgt := 18) dX12_sumHere_11 (by decide) (fun c0 => ?_) (fun c0 => ?_)
  · replace h := h.1 c0
    refine aw_aload_n dX12_sumHere_18 rfl ?_
    refine aw_ldcS (tx := "add") (j := 6) dX12_sumHere_19 (by decide +kernel) (by decide) ?_
    refine aw_callV (M' := M_X12_isWord) (K := 12) (i := 0) (vs := [aR 63 6]) (st := [aI (5 : Int32), aR 41 0]) dX12_sumHere_21 mk_X12_isWord mi_X12_isWord ml_RX12_134 mp_X12_isWord rc_12 rm_X12_sumHere__X12_isWord (Nat.le_of_ble_eq_true rfl) rfl (cw_mono h ?_)
    clear h
    rintro _ μ3 ⟨r4, rfl, h⟩
    show aw Γ M_X12_sumHere 24 [aR 12 0] [aI r4, aI (5 : Int32), aR 41 0] μ3 (rI Q)
    refine aw_if_eq (tgt := 31) dX12_sumHere_24 (by decide) (fun c0 => ?_) (fun c0 => ?_)
    · replace h := h.1 c0
      refine aw_aload_n dX12_sumHere_31 rfl ?_
      refine aw_ldcS (tx := "xor") (j := 7) dX12_sumHere_32 (by decide +kernel) (by decide) ?_
      refine aw_callV (M' := M_X12_isWord) (K := 12) (i := 0) (vs := [aR 63 7]) (st := [aI (5 : Int32), aR 41 0]) dX12_sumHere_34 mk_X12_isWord mi_X12_isWord ml_RX12_134 mp_X12_isWord rc_12 rm_X12_sumHere__X12_isWord (Nat.le_of_ble_eq_true rfl) rfl (cw_mono h ?_)
      clear h
      rintro _ μ5 ⟨r6, rfl, h⟩
      show aw Γ M_X12_sumHere 37 [aR 12 0] [aI r6, aI (5 : Int32), aR 41 0] μ5 (rI Q)
      refine aw_if_eq (tgt := 44) dX12_sumHere_37 (by decide) (fun c0 => ?_) (fun c0 => ?_)
      · replace h := h.1 c0
        refine aw_iconst (v := (-1 : Int32)) dX12_sumHere_44 rfl ?_
        exact h
      · replace h := h.2 c0
        refine aw_iconst (v := (3 : Int32)) dX12_sumHere_40 rfl ?_
        refine aw_goto (tgt := 45) dX12_sumHere_41 (by decide) ?_
        exact h
    · replace h := h.2 c0
      refine aw_iconst (v := (2 : Int32)) dX12_sumHere_27 rfl ?_
      refine aw_goto (tgt := 45) dX12_sumHere_28 (by decide) ?_
      exact h
  · replace h := h.2 c0
    refine aw_iconst (v := (1 : Int32)) dX12_sumHere_14 rfl ?_
    refine aw_goto (tgt := 45) dX12_sumHere_15 (by decide) ?_
    exact h
theorem u_X12_sumHere_45 {Γ : cx_T} {μ : mH} {y0 : Int32} {y1 : Int32} {Q : Int32 → mH → Prop} (h : vp_in y1 9 ∧ ((¬ ((sto μ 41 0 (tn y1) y0) 41 0 5) = (-1 : Int32) → (cwv Γ M_X12_leads [aR 12 0] (sto μ 41 0 (tn y1) y0) (fun μ1 => (¬ (μ1 41 0 5) = (1 : Int32) → (Q (1 : Int32) μ1)) ∧ ((μ1 41 0 5) = (1 : Int32) → (cwi Γ M_X12_number [aR 12 0, aI (6 : Int32), aI (0 : Int32), aI (65535 : Int32)] μ1 (fun r3 μ2 => (r3 = 0 → (Q (0 : Int32) μ2)) ∧ (¬ r3 = 0 → (cwi Γ M_X12_number [aR 12 0, aI (7 : Int32), aI (0 : Int32), aI (65535 : Int32)] μ2 (fun r5 μ4 => (r5 = 0 → (Q (0 : Int32) μ4)) ∧ (¬ r5 = 0 → (Q (1 : Int32) μ4))))))))))) ∧ (((sto μ 41 0 (tn y1) y0) 41 0 5) = (-1 : Int32) → (Q (0 : Int32) (sto μ 41 0 (tn y1) y0))))) : aw Γ M_X12_sumHere 45 [aR 12 0] [aI y0, aI y1, aR 41 0] μ (rI Q) := by
  refine aw_is (j := tn y1) dX12_sumHere_45 rfl (fun _ => rfl) h.1 rfl ?_
  replace h := h.2
  refine aw_aload_n dX12_sumHere_46 rfl ?_
  refine aw_get dX12_sumHere_47 rfl fk_RX12_13 (look_R rfl rfl : look _ 12 0 6 = aR 41 0) ?_
  refine aw_iconst (v := (5 : Int32)) dX12_sumHere_50 rfl ?_
  refine aw_ia (j := 5) (y := (sto μ 41 0 (tn y1) y0) 41 0 5) dX12_sumHere_51 rfl (fun _ => rfl) (by unfold vp_in; decide) (by decide) (rfl) ?_
  refine aw_iconst (v := (-1 : Int32)) dX12_sumHere_52 rfl ?_
  refine aw_icmp_ne (tgt := 58) dX12_sumHere_53 (by decide) (fun c0 => ?_) (fun c0 => ?_)
  · replace h := h.1 c0
    refine aw_aload_n dX12_sumHere_58 rfl ?_
    refine aw_callV (M' := M_X12_leads) (K := 12) (i := 0) (vs := []) (st := []) dX12_sumHere_59 mk_X12_leads mi_X12_leads ml_RX12_129 mp_X12_leads rc_12 rm_X12_sumHere__X12_leads (Nat.le_of_ble_eq_true rfl) rfl (cw_mono h ?_)
    clear h
    intro _ μ1 h
    show aw Γ M_X12_sumHere 62 [aR 12 0] [] μ1 (rI Q)
    refine aw_aload_n dX12_sumHere_62 rfl ?_
    refine aw_get dX12_sumHere_63 rfl fk_RX12_13 (look_R rfl rfl : look _ 12 0 6 = aR 41 0) ?_
    refine aw_iconst (v := (5 : Int32)) dX12_sumHere_66 rfl ?_
    refine aw_ia (j := 5) (y := μ1 41 0 5) dX12_sumHere_67 rfl (fun _ => rfl) (by unfold vp_in; decide) (by decide) (rfl) ?_
    refine aw_iconst (v := (1 : Int32)) dX12_sumHere_68 rfl ?_
    refine aw_icmp_ne (tgt := 96) dX12_sumHere_69 (by decide) (fun c0 => ?_) (fun c0 => ?_)
    · replace h := h.1 c0
      refine aw_iconst (v := (1 : Int32)) dX12_sumHere_96 rfl ?_
      refine aw_goto (tgt := 101) dX12_sumHere_97 (by decide) ?_
      exact aw_iret (ty := .boolean) dX12_sumHere_101 rfl (by decide) ⟨_, rfl, h⟩
    · replace h := h.2 c0
      refine aw_aload_n dX12_sumHere_72 rfl ?_
      refine aw_bipush (v := (6 : Int32)) dX12_sumHere_73 rfl ?_
      refine aw_iconst (v := (0 : Int32)) dX12_sumHere_75 rfl ?_
      refine aw_ldc (v := (65535 : Int32)) dX12_sumHere_76 kc_RX12_142 ?_
      refine aw_callV (M' := M_X12_number) (K := 12) (i := 0) (vs := [aI (6 : Int32), aI (0 : Int32), aI (65535 : Int32)]) (st := []) dX12_sumHere_78 mk_X12_number mi_X12_number ml_RX12_143 mp_X12_number rc_12 rm_X12_sumHere__X12_number (Nat.le_of_ble_eq_true rfl) rfl (cw_mono h ?_)
      clear h
      rintro _ μ2 ⟨r3, rfl, h⟩
      show aw Γ M_X12_sumHere 81 [aR 12 0] [aI r3] μ2 (rI Q)
      refine aw_if_eq (tgt := 100) dX12_sumHere_81 (by decide) (fun c0 => ?_) (fun c0 => ?_)
      · replace h := h.1 c0
        refine aw_iconst (v := (0 : Int32)) dX12_sumHere_100 rfl ?_
        exact aw_iret (ty := .boolean) dX12_sumHere_101 rfl (by decide) ⟨_, rfl, h⟩
      · replace h := h.2 c0
        refine aw_aload_n dX12_sumHere_84 rfl ?_
        refine aw_bipush (v := (7 : Int32)) dX12_sumHere_85 rfl ?_
        refine aw_iconst (v := (0 : Int32)) dX12_sumHere_87 rfl ?_
        refine aw_ldc (v := (65535 : Int32)) dX12_sumHere_88 kc_RX12_142 ?_
        refine aw_callV (M' := M_X12_number) (K := 12) (i := 0) (vs := [aI (7 : Int32), aI (0 : Int32), aI (65535 : Int32)]) (st := []) dX12_sumHere_90 mk_X12_number mi_X12_number ml_RX12_143 mp_X12_number rc_12 rm_X12_sumHere__X12_number (Nat.le_of_ble_eq_true rfl) rfl (cw_mono h ?_)
        clear h
        rintro _ μ4 ⟨r5, rfl, h⟩
        show aw Γ M_X12_sumHere 93 [aR 12 0] [aI r5] μ4 (rI Q)
        refine aw_if_eq (tgt := 100) dX12_sumHere_93 (by decide) (fun c0 => ?_) (fun c0 => ?_)
        · replace h := h.1 c0
          refine aw_iconst (v := (0 : Int32)) dX12_sumHere_100 rfl ?_
          exact aw_iret (ty := .boolean) dX12_sumHere_101 rfl (by decide) ⟨_, rfl, h⟩
        · replace h := h.2 c0
          refine aw_iconst (v := (1 : Int32)) dX12_sumHere_96 rfl ?_
          refine aw_goto (tgt := 101) dX12_sumHere_97 (by decide) ?_
          exact aw_iret (ty := .boolean) dX12_sumHere_101 rfl (by decide) ⟨_, rfl, h⟩
  · replace h := h.2 c0
    refine aw_iconst (v := (0 : Int32)) dX12_sumHere_56 rfl ?_
    exact aw_iret (ty := .boolean) dX12_sumHere_57 rfl (by decide) ⟨_, rfl, h⟩
theorem u_X12_line {Γ : cx_T} {μ : mH}  {Q : Int32 → mH → Prop} (h : cwi Γ M_X12_isWord [aR 12 0, aR 63 0] μ (fun r2 μ1 => (r2 = 0 → (cwi Γ M_X12_isWord [aR 12 0, aR 63 1] μ1 (fun r4 μ3 => (r4 = 0 → (cwi Γ M_X12_isWord [aR 12 0, aR 63 2] μ3 (fun r6 μ5 => (r6 = 0 → (cwi Γ M_X12_isWord [aR 12 0, aR 63 3] μ5 (fun r8 μ7 => (r8 = 0 → (cwi Γ M_X12_isWord [aR 12 0, aR 63 4] μ7 (fun r10 μ9 => (r10 = 0 → (cwi Γ M_X12_isWord [aR 12 0, aR 63 5] μ9 (fun r12 μ11 => (r12 = 0 → (aw Γ M_X12_line 80 [aR 12 0, aX, aX] [aI (-1 : Int32)] μ11 (rI Q))) ∧ (¬ r12 = 0 → (aw Γ M_X12_line 80 [aR 12 0, aX, aX] [aI (8 : Int32)] μ11 (rI Q)))))) ∧ (¬ r10 = 0 → (aw Γ M_X12_line 80 [aR 12 0, aX, aX] [aI (5 : Int32)] μ9 (rI Q)))))) ∧ (¬ r8 = 0 → (aw Γ M_X12_line 80 [aR 12 0, aX, aX] [aI (4 : Int32)] μ7 (rI Q)))))) ∧ (¬ r6 = 0 → (aw Γ M_X12_line 80 [aR 12 0, aX, aX] [aI (2 : Int32)] μ5 (rI Q)))))) ∧ (¬ r4 = 0 → (aw Γ M_X12_line 80 [aR 12 0, aX, aX] [aI (1 : Int32)] μ3 (rI Q)))))) ∧ (¬ r2 = 0 → (aw Γ M_X12_line 80 [aR 12 0, aX, aX] [aI (0 : Int32)] μ1 (rI Q))))) : cwi Γ M_X12_line [aR 12 0] μ Q := by
  refine cw_ofU (ls := [aR 12 0, aX, aX]) (Or.inl (by decide)) rfl (Nat.le_of_ble_eq_true rfl) rfl ?_
  refine aw_aload_n dX12_line_0 rfl ?_
  refine aw_ldcS (tx := "cell") (j := 0) dX12_line_1 (by decide +kernel) (by decide) ?_
  refine aw_callV (M' := M_X12_isWord) (K := 12) (i := 0) (vs := [aR 63 0]) (st := []) dX12_line_3 mk_X12_isWord mi_X12_isWord ml_RX12_134 mp_X12_isWord rc_12 rm_X12_line__X12_isWord (Nat.le_of_ble_eq_true rfl) rfl (cw_mono h ?_)
  clear h
  rintro _ μ1 ⟨r2, rfl, h⟩
  show aw Γ M_X12_line 6 [aR 12 0, aX, aX] [aI r2] μ1 (rI Q)
  refine aw_if_eq (tgt := 13) dX12_line_6 (by decide) (fun c0 => ?_) (fun c0 => ?_)
  · replace h := h.1 c0
    refine aw_aload_n dX12_line_13 rfl ?_
    refine aw_ldcS (tx := "gain") (j := 1) dX12_line_14 (by decide +kernel) (by decide) ?_
    refine aw_callV (M' := M_X12_isWord) (K := 12) (i := 0) (vs := [aR 63 1]) (st := []) dX12_line_16 mk_X12_isWord mi_X12_isWord ml_RX12_134 mp_X12_isWord rc_12 rm_X12_line__X12_isWord (Nat.le_of_ble_eq_true rfl) rfl (cw_mono h ?_)
    clear h
    rintro _ μ3 ⟨r4, rfl, h⟩
    show aw Γ M_X12_line 19 [aR 12 0, aX, aX] [aI r4] μ3 (rI Q)
    refine aw_if_eq (tgt := 26) dX12_line_19 (by decide) (fun c0 => ?_) (fun c0 => ?_)
    · replace h := h.1 c0
      refine aw_aload_n dX12_line_26 rfl ?_
      refine aw_ldcS (tx := "mark") (j := 2) dX12_line_27 (by decide +kernel) (by decide) ?_
      refine aw_callV (M' := M_X12_isWord) (K := 12) (i := 0) (vs := [aR 63 2]) (st := []) dX12_line_29 mk_X12_isWord mi_X12_isWord ml_RX12_134 mp_X12_isWord rc_12 rm_X12_line__X12_isWord (Nat.le_of_ble_eq_true rfl) rfl (cw_mono h ?_)
      clear h
      rintro _ μ5 ⟨r6, rfl, h⟩
      show aw Γ M_X12_line 32 [aR 12 0, aX, aX] [aI r6] μ5 (rI Q)
      refine aw_if_eq (tgt := 39) dX12_line_32 (by decide) (fun c0 => ?_) (fun c0 => ?_)
      · replace h := h.1 c0
        refine aw_aload_n dX12_line_39 rfl ?_
        refine aw_ldcS (tx := "data") (j := 3) dX12_line_40 (by decide +kernel) (by decide) ?_
        refine aw_callV (M' := M_X12_isWord) (K := 12) (i := 0) (vs := [aR 63 3]) (st := []) dX12_line_42 mk_X12_isWord mi_X12_isWord ml_RX12_134 mp_X12_isWord rc_12 rm_X12_line__X12_isWord (Nat.le_of_ble_eq_true rfl) rfl (cw_mono h ?_)
        clear h
        rintro _ μ7 ⟨r8, rfl, h⟩
        show aw Γ M_X12_line 45 [aR 12 0, aX, aX] [aI r8] μ7 (rI Q)
        refine aw_if_eq (tgt := 52) dX12_line_45 (by decide) (fun c0 => ?_) (fun c0 => ?_)
        · replace h := h.1 c0
          refine aw_aload_n dX12_line_52 rfl ?_
          refine aw_ldcS (tx := "sum") (j := 4) dX12_line_53 (by decide +kernel) (by decide) ?_
          refine aw_callV (M' := M_X12_isWord) (K := 12) (i := 0) (vs := [aR 63 4]) (st := []) dX12_line_55 mk_X12_isWord mi_X12_isWord ml_RX12_134 mp_X12_isWord rc_12 rm_X12_line__X12_isWord (Nat.le_of_ble_eq_true rfl) rfl (cw_mono h ?_)
          clear h
          rintro _ μ9 ⟨r10, rfl, h⟩
          show aw Γ M_X12_line 58 [aR 12 0, aX, aX] [aI r10] μ9 (rI Q)
          refine aw_if_eq (tgt := 65) dX12_line_58 (by decide) (fun c0 => ?_) (fun c0 => ?_)
          · replace h := h.1 c0
            refine aw_aload_n dX12_line_65 rfl ?_
            refine aw_ldcS (tx := "swap") (j := 5) dX12_line_66 (by decide +kernel) (by decide) ?_
            refine aw_callV (M' := M_X12_isWord) (K := 12) (i := 0) (vs := [aR 63 5]) (st := []) dX12_line_68 mk_X12_isWord mi_X12_isWord ml_RX12_134 mp_X12_isWord rc_12 rm_X12_line__X12_isWord (Nat.le_of_ble_eq_true rfl) rfl (cw_mono h ?_)
            clear h
            rintro _ μ11 ⟨r12, rfl, h⟩
            show aw Γ M_X12_line 71 [aR 12 0, aX, aX] [aI r12] μ11 (rI Q)
            refine aw_if_eq (tgt := 79) dX12_line_71 (by decide) (fun c0 => ?_) (fun c0 => ?_)
            · replace h := h.1 c0
              refine aw_iconst (v := (-1 : Int32)) dX12_line_79 rfl ?_
              exact h
            · replace h := h.2 c0
              refine aw_bipush (v := (8 : Int32)) dX12_line_74 rfl ?_
              refine aw_goto (tgt := 80) dX12_line_76 (by decide) ?_
              exact h
          · replace h := h.2 c0
            refine aw_iconst (v := (5 : Int32)) dX12_line_61 rfl ?_
            refine aw_goto (tgt := 80) dX12_line_62 (by decide) ?_
            exact h
        · replace h := h.2 c0
          refine aw_iconst (v := (4 : Int32)) dX12_line_48 rfl ?_
          refine aw_goto (tgt := 80) dX12_line_49 (by decide) ?_
          exact h
      · replace h := h.2 c0
        refine aw_iconst (v := (2 : Int32)) dX12_line_35 rfl ?_
        refine aw_goto (tgt := 80) dX12_line_36 (by decide) ?_
        exact h
    · replace h := h.2 c0
      refine aw_iconst (v := (1 : Int32)) dX12_line_22 rfl ?_
      refine aw_goto (tgt := 80) dX12_line_23 (by decide) ?_
      exact h
  · replace h := h.2 c0
    refine aw_iconst (v := (0 : Int32)) dX12_line_9 rfl ?_
    refine aw_goto (tgt := 80) dX12_line_10 (by decide) ?_
    exact h
theorem u_X12_line_80 {Γ : cx_T} {μ : mH} {y0 : Int32} {Q : Int32 → mH → Prop} (h : (y0 = (-1 : Int32) → (Q (0 : Int32) μ)) ∧ (¬ y0 = (-1 : Int32) → (vp_in y0 9 ∧ (((μ 41 0 (tn y0)) = (-1 : Int32) → (cwv Γ M_X12_leads [aR 12 0] μ (fun μ1 => (y0 = (0 : Int32) → (cwi Γ M_X12_number [aR 12 0, aI (0 : Int32), aI (8 : Int32), aI (60 : Int32)] μ1 (fun r3 μ2 => aw Γ M_X12_line 230 [aR 12 0, aX, aI r3] [] μ2 (rI Q)))) ∧ (y0 = (1 : Int32) → (cwi Γ M_X12_number [aR 12 0, aI (1 : Int32), aI (0 : Int32), aI (8 : Int32)] μ1 (fun r5 μ4 => aw Γ M_X12_line 230 [aR 12 0, aX, aI r5] [] μ4 (rI Q)))) ∧ (y0 = (2 : Int32) → (cwi Γ M_X12_number [aR 12 0, aI (2 : Int32), aI (0 : Int32), aI (255 : Int32)] μ1 (fun r7 μ6 => (r7 = 0 → (aw Γ M_X12_line 230 [aR 12 0, aX, aI (0 : Int32)] [] μ6 (rI Q))) ∧ (¬ r7 = 0 → (cwi Γ M_X12_number [aR 12 0, aI (3 : Int32), aI (0 : Int32), aI (255 : Int32)] μ6 (fun r9 μ8 => (r9 = 0 → (aw Γ M_X12_line 230 [aR 12 0, aX, aI (0 : Int32)] [] μ8 (rI Q))) ∧ (¬ r9 = 0 → (aw Γ M_X12_line 230 [aR 12 0, aX, aI (1 : Int32)] [] μ8 (rI Q))))))))) ∧ (y0 = (4 : Int32) → (cwi Γ M_X12_number [aR 12 0, aI (4 : Int32), aI (1 : Int32), aI (8 : Int32)] μ1 (fun r11 μ10 => aw Γ M_X12_line 230 [aR 12 0, aX, aI r11] [] μ10 (rI Q)))) ∧ (y0 = (5 : Int32) → (cwi Γ M_X12_sumHere [aR 12 0] μ1 (fun r13 μ12 => aw Γ M_X12_line 230 [aR 12 0, aX, aI r13] [] μ12 (rI Q)))) ∧ (¬ y0 = (0 : Int32) → ¬ y0 = (1 : Int32) → ¬ y0 = (2 : Int32) → ¬ y0 = (4 : Int32) → ¬ y0 = (5 : Int32) → (aw Γ M_X12_line 230 [aR 12 0, aX, aI (1 : Int32)] [] (sto μ1 41 0 8 (1 : Int32)) (rI Q)))))) ∧ (¬ (μ 41 0 (tn y0)) = (-1 : Int32) → (Q (0 : Int32) μ)))))) : aw Γ M_X12_line 80 [aR 12 0, aX, aX] [aI y0] μ (rI Q) := by
  refine aw_istore_n (ls' := [aR 12 0, aI y0, aX]) dX12_line_80 (by decide) rfl rfl ?_
  refine aw_iload_n dX12_line_81 rfl ?_
  refine aw_iconst (v := (-1 : Int32)) dX12_line_82 rfl ?_
  refine aw_icmp_eq (tgt := 96) dX12_line_83 (by decide) (fun c0 => ?_) (fun c0 => ?_)
  · replace h := h.1 c0
    refine aw_iconst (v := (0 : Int32)) dX12_line_96 rfl ?_
    exact aw_iret (ty := .boolean) dX12_line_97 rfl (by decide) ⟨_, rfl, h⟩
  · replace h := h.2 c0
    refine aw_aload_n dX12_line_86 rfl ?_
    refine aw_get dX12_line_87 rfl fk_RX12_13 (look_R rfl rfl : look _ 12 0 6 = aR 41 0) ?_
    refine aw_iload_n dX12_line_90 rfl ?_
    refine aw_ia (j := tn y0) (y := μ 41 0 (tn y0)) dX12_line_91 rfl (fun _ => rfl) h.1 rfl (rfl) ?_
    replace h := h.2
    refine aw_iconst (v := (-1 : Int32)) dX12_line_92 rfl ?_
    refine aw_icmp_eq (tgt := 98) dX12_line_93 (by decide) (fun c0 => ?_) (fun c0 => ?_)
    · replace h := h.1 c0
      refine aw_aload_n dX12_line_98 rfl ?_
      refine aw_callV (M' := M_X12_leads) (K := 12) (i := 0) (vs := []) (st := []) dX12_line_99 mk_X12_leads mi_X12_leads ml_RX12_129 mp_X12_leads rc_12 rm_X12_line__X12_leads (Nat.le_of_ble_eq_true rfl) rfl (cw_mono h ?_)
      clear h
      intro _ μ1 h
      show aw Γ M_X12_line 102 [aR 12 0, aI y0, aX] [] μ1 (rI Q)
      refine aw_iconst (v := (1 : Int32)) dX12_line_102 rfl ?_
      refine aw_istore_n (ls' := [aR 12 0, aI y0, aI (1 : Int32)]) dX12_line_103 (by decide) rfl rfl ?_
      refine aw_iload_n dX12_line_104 rfl ?_
      by_cases c0 : y0 = (0 : Int32)
      · replace h := h.1 c0
        refine aw_tableIn (off := 39) (tgt := 144) dX12_line_105 (by rw [c0]; decide) (by rw [c0]; decide) (by rw [c0]; decide) (by decide) ?_
        refine aw_aload_n dX12_line_144 rfl ?_
        refine aw_iconst (v := (0 : Int32)) dX12_line_145 rfl ?_
        refine aw_bipush (v := (8 : Int32)) dX12_line_146 rfl ?_
        refine aw_bipush (v := (60 : Int32)) dX12_line_148 rfl ?_
        refine aw_callV (M' := M_X12_number) (K := 12) (i := 0) (vs := [aI (0 : Int32), aI (8 : Int32), aI (60 : Int32)]) (st := []) dX12_line_150 mk_X12_number mi_X12_number ml_RX12_143 mp_X12_number rc_12 rm_X12_line__X12_number (Nat.le_of_ble_eq_true rfl) rfl (cw_mono h ?_)
        clear h
        rintro _ μ14 ⟨r15, rfl, h⟩
        show aw Γ M_X12_line 153 [aR 12 0, aI y0, aI (1 : Int32)] [aI r15] μ14 (rI Q)
        refine aw_istore_n (ls' := [aR 12 0, aI y0, aI r15]) dX12_line_153 (by decide) rfl rfl ?_
        refine aw_goto (tgt := 230) dX12_line_154 (by decide) ?_
        exact aw_wkk h (wk_e (wk_x (wk_e wk_n)))
      by_cases c1 : y0 = (1 : Int32)
      · replace h := h.2.1 c1
        refine aw_tableIn (off := 52) (tgt := 157) dX12_line_105 (by rw [c1]; decide) (by rw [c1]; decide) (by rw [c1]; decide) (by decide) ?_
        refine aw_aload_n dX12_line_157 rfl ?_
        refine aw_iconst (v := (1 : Int32)) dX12_line_158 rfl ?_
        refine aw_iconst (v := (0 : Int32)) dX12_line_159 rfl ?_
        refine aw_bipush (v := (8 : Int32)) dX12_line_160 rfl ?_
        refine aw_callV (M' := M_X12_number) (K := 12) (i := 0) (vs := [aI (1 : Int32), aI (0 : Int32), aI (8 : Int32)]) (st := []) dX12_line_162 mk_X12_number mi_X12_number ml_RX12_143 mp_X12_number rc_12 rm_X12_line__X12_number (Nat.le_of_ble_eq_true rfl) rfl (cw_mono h ?_)
        clear h
        rintro _ μ16 ⟨r17, rfl, h⟩
        show aw Γ M_X12_line 165 [aR 12 0, aI y0, aI (1 : Int32)] [aI r17] μ16 (rI Q)
        refine aw_istore_n (ls' := [aR 12 0, aI y0, aI r17]) dX12_line_165 (by decide) rfl rfl ?_
        refine aw_goto (tgt := 230) dX12_line_166 (by decide) ?_
        exact aw_wkk h (wk_e (wk_x (wk_e wk_n)))
      by_cases c2 : y0 = (2 : Int32)
      · replace h := h.2.2.1 c2
        refine aw_tableIn (off := 64) (tgt := 169) dX12_line_105 (by rw [c2]; decide) (by rw [c2]; decide) (by rw [c2]; decide) (by decide) ?_
        refine aw_aload_n dX12_line_169 rfl ?_
        refine aw_iconst (v := (2 : Int32)) dX12_line_170 rfl ?_
        refine aw_iconst (v := (0 : Int32)) dX12_line_171 rfl ?_
        refine aw_sipush (v := (255 : Int32)) dX12_line_172 rfl ?_
        refine aw_callV (M' := M_X12_number) (K := 12) (i := 0) (vs := [aI (2 : Int32), aI (0 : Int32), aI (255 : Int32)]) (st := []) dX12_line_175 mk_X12_number mi_X12_number ml_RX12_143 mp_X12_number rc_12 rm_X12_line__X12_number (Nat.le_of_ble_eq_true rfl) rfl (cw_mono h ?_)
        clear h
        rintro _ μ18 ⟨r19, rfl, h⟩
        show aw Γ M_X12_line 178 [aR 12 0, aI y0, aI (1 : Int32)] [aI r19] μ18 (rI Q)
        refine aw_if_eq (tgt := 197) dX12_line_178 (by decide) (fun c0 => ?_) (fun c0 => ?_)
        · replace h := h.1 c0
          refine aw_iconst (v := (0 : Int32)) dX12_line_197 rfl ?_
          refine aw_istore_n (ls' := [aR 12 0, aI y0, aI (0 : Int32)]) dX12_line_198 (by decide) rfl rfl ?_
          refine aw_goto (tgt := 230) dX12_line_199 (by decide) ?_
          exact aw_wkk h (wk_e (wk_x (wk_e wk_n)))
        · replace h := h.2 c0
          refine aw_aload_n dX12_line_181 rfl ?_
          refine aw_iconst (v := (3 : Int32)) dX12_line_182 rfl ?_
          refine aw_iconst (v := (0 : Int32)) dX12_line_183 rfl ?_
          refine aw_sipush (v := (255 : Int32)) dX12_line_184 rfl ?_
          refine aw_callV (M' := M_X12_number) (K := 12) (i := 0) (vs := [aI (3 : Int32), aI (0 : Int32), aI (255 : Int32)]) (st := []) dX12_line_187 mk_X12_number mi_X12_number ml_RX12_143 mp_X12_number rc_12 rm_X12_line__X12_number (Nat.le_of_ble_eq_true rfl) rfl (cw_mono h ?_)
          clear h
          rintro _ μ20 ⟨r21, rfl, h⟩
          show aw Γ M_X12_line 190 [aR 12 0, aI y0, aI (1 : Int32)] [aI r21] μ20 (rI Q)
          refine aw_if_eq (tgt := 197) dX12_line_190 (by decide) (fun c0 => ?_) (fun c0 => ?_)
          · replace h := h.1 c0
            refine aw_iconst (v := (0 : Int32)) dX12_line_197 rfl ?_
            refine aw_istore_n (ls' := [aR 12 0, aI y0, aI (0 : Int32)]) dX12_line_198 (by decide) rfl rfl ?_
            refine aw_goto (tgt := 230) dX12_line_199 (by decide) ?_
            exact aw_wkk h (wk_e (wk_x (wk_e wk_n)))
          · replace h := h.2 c0
            refine aw_iconst (v := (1 : Int32)) dX12_line_193 rfl ?_
            refine aw_goto (tgt := 198) dX12_line_194 (by decide) ?_
            refine aw_istore_n (ls' := [aR 12 0, aI y0, aI (1 : Int32)]) dX12_line_198 (by decide) rfl rfl ?_
            refine aw_goto (tgt := 230) dX12_line_199 (by decide) ?_
            exact aw_wkk h (wk_e (wk_x (wk_e wk_n)))
      by_cases c3 : y0 = (4 : Int32)
      · replace h := h.2.2.2.1 c3
        refine aw_tableIn (off := 97) (tgt := 202) dX12_line_105 (by rw [c3]; decide) (by rw [c3]; decide) (by rw [c3]; decide) (by decide) ?_
        refine aw_aload_n dX12_line_202 rfl ?_
        refine aw_iconst (v := (4 : Int32)) dX12_line_203 rfl ?_
        refine aw_iconst (v := (1 : Int32)) dX12_line_204 rfl ?_
        refine aw_bipush (v := (8 : Int32)) dX12_line_205 rfl ?_
        refine aw_callV (M' := M_X12_number) (K := 12) (i := 0) (vs := [aI (4 : Int32), aI (1 : Int32), aI (8 : Int32)]) (st := []) dX12_line_207 mk_X12_number mi_X12_number ml_RX12_143 mp_X12_number rc_12 rm_X12_line__X12_number (Nat.le_of_ble_eq_true rfl) rfl (cw_mono h ?_)
        clear h
        rintro _ μ22 ⟨r23, rfl, h⟩
        show aw Γ M_X12_line 210 [aR 12 0, aI y0, aI (1 : Int32)] [aI r23] μ22 (rI Q)
        refine aw_istore_n (ls' := [aR 12 0, aI y0, aI r23]) dX12_line_210 (by decide) rfl rfl ?_
        refine aw_goto (tgt := 230) dX12_line_211 (by decide) ?_
        exact aw_wkk h (wk_e (wk_x (wk_e wk_n)))
      by_cases c4 : y0 = (5 : Int32)
      · replace h := h.2.2.2.2.1 c4
        refine aw_tableIn (off := 109) (tgt := 214) dX12_line_105 (by rw [c4]; decide) (by rw [c4]; decide) (by rw [c4]; decide) (by decide) ?_
        refine aw_aload_n dX12_line_214 rfl ?_
        refine aw_callV (M' := M_X12_sumHere) (K := 12) (i := 0) (vs := []) (st := []) dX12_line_215 mk_X12_sumHere mi_X12_sumHere ml_RX12_158 mp_X12_sumHere rc_12 rm_X12_line__X12_sumHere (Nat.le_of_ble_eq_true rfl) rfl (cw_mono h ?_)
        clear h
        rintro _ μ24 ⟨r25, rfl, h⟩
        show aw Γ M_X12_line 218 [aR 12 0, aI y0, aI (1 : Int32)] [aI r25] μ24 (rI Q)
        refine aw_istore_n (ls' := [aR 12 0, aI y0, aI r25]) dX12_line_218 (by decide) rfl rfl ?_
        refine aw_goto (tgt := 230) dX12_line_219 (by decide) ?_
        exact aw_wkk h (wk_e (wk_x (wk_e wk_n)))
      replace h := h.2.2.2.2.2 c0 c1 c2 c3 c4
      by_cases c5 : y0 = (3 : Int32)
      · refine aw_tableIn (off := 117) (tgt := 222) dX12_line_105 (by rw [c5]; decide) (by rw [c5]; decide) (by rw [c5]; decide) (by decide) ?_
        refine aw_aload_n dX12_line_222 rfl ?_
        refine aw_get dX12_line_223 rfl fk_RX12_13 (look_R rfl rfl : look _ 12 0 6 = aR 41 0) ?_
        refine aw_bipush (v := (8 : Int32)) dX12_line_226 rfl ?_
        refine aw_iconst (v := (1 : Int32)) dX12_line_228 rfl ?_
        refine aw_is (j := 8) dX12_line_229 rfl (fun _ => rfl) (by unfold vp_in; decide) (by decide) ?_
        exact aw_wkk h (wk_e (wk_x (wk_e wk_n)))
      refine aw_tableOut (tgt := 222) dX12_line_105 (by have e0 := lv_neT c0 (show (0 : Int32).toInt = (0 : Int) by decide); have e1 := lv_neT c1 (show (1 : Int32).toInt = (1 : Int) by decide); have e2 := lv_neT c2 (show (2 : Int32).toInt = (2 : Int) by decide); have e3 := lv_neT c3 (show (4 : Int32).toInt = (4 : Int) by decide); have e4 := lv_neT c4 (show (5 : Int32).toInt = (5 : Int) by decide); have e5 := lv_neT c5 (show (3 : Int32).toInt = (3 : Int) by decide); omega) (by decide) ?_
      refine aw_aload_n dX12_line_222 rfl ?_
      refine aw_get dX12_line_223 rfl fk_RX12_13 (look_R rfl rfl : look _ 12 0 6 = aR 41 0) ?_
      refine aw_bipush (v := (8 : Int32)) dX12_line_226 rfl ?_
      refine aw_iconst (v := (1 : Int32)) dX12_line_228 rfl ?_
      refine aw_is (j := 8) dX12_line_229 rfl (fun _ => rfl) (by unfold vp_in; decide) (by decide) ?_
      exact aw_wkk h (wk_e (wk_x (wk_e wk_n)))
    · replace h := h.2 c0
      refine aw_iconst (v := (0 : Int32)) dX12_line_96 rfl ?_
      exact aw_iret (ty := .boolean) dX12_line_97 rfl (by decide) ⟨_, rfl, h⟩
theorem u_X12_line_230 {Γ : cx_T} {μ : mH} {x2 : Int32} {Q : Int32 → mH → Prop} (h : (x2 = 0 → (Q (0 : Int32) μ)) ∧ (¬ x2 = 0 → (cwi Γ M_X12_closes [aR 12 0] μ (fun r2 μ1 => (r2 = 0 → (Q (0 : Int32) μ1)) ∧ (¬ r2 = 0 → (Q (1 : Int32) μ1)))))) : aw Γ M_X12_line 230 [aR 12 0, aX, aI x2] [] μ (rI Q) := by
  refine aw_iload_n dX12_line_230 rfl ?_
  refine aw_if_eq (tgt := 245) dX12_line_231 (by decide) (fun c0 => ?_) (fun c0 => ?_)
  · replace h := h.1 c0
    refine aw_iconst (v := (0 : Int32)) dX12_line_245 rfl ?_
    exact aw_iret (ty := .boolean) dX12_line_246 rfl (by decide) ⟨_, rfl, h⟩
  · replace h := h.2 c0
    refine aw_aload_n dX12_line_234 rfl ?_
    refine aw_callV (M' := M_X12_closes) (K := 12) (i := 0) (vs := []) (st := []) dX12_line_235 mk_X12_closes mi_X12_closes ml_RX12_162 mp_X12_closes rc_12 rm_X12_line__X12_closes (Nat.le_of_ble_eq_true rfl) rfl (cw_mono h ?_)
    clear h
    rintro _ μ1 ⟨r2, rfl, h⟩
    show aw Γ M_X12_line 238 [aR 12 0, aX, aI x2] [aI r2] μ1 (rI Q)
    refine aw_if_eq (tgt := 245) dX12_line_238 (by decide) (fun c0 => ?_) (fun c0 => ?_)
    · replace h := h.1 c0
      refine aw_iconst (v := (0 : Int32)) dX12_line_245 rfl ?_
      exact aw_iret (ty := .boolean) dX12_line_246 rfl (by decide) ⟨_, rfl, h⟩
    · replace h := h.2 c0
      refine aw_iconst (v := (1 : Int32)) dX12_line_241 rfl ?_
      refine aw_goto (tgt := 246) dX12_line_242 (by decide) ?_
      exact aw_iret (ty := .boolean) dX12_line_246 rfl (by decide) ⟨_, rfl, h⟩
theorem u_X12_fault {Γ : cx_T} {μ : mH}  {Q : Int32 → mH → Prop} (h : aw Γ M_X12_fault 2 [aR 12 0, aI (0 : Int32)] [] μ (rI Q)) : cwi Γ M_X12_fault [aR 12 0] μ Q := by
  refine cw_ofU (ls := [aR 12 0, aX]) (Or.inl (by decide)) rfl (Nat.le_of_ble_eq_true rfl) rfl ?_
  refine aw_iconst (v := (0 : Int32)) dX12_fault_0 rfl ?_
  refine aw_istore_n (ls' := [aR 12 0, aI (0 : Int32)]) dX12_fault_1 (by decide) rfl rfl ?_
  exact h
theorem u_X12_fault_2 {Γ : cx_T} {μ : mH} {x1 : Int32} {Q : Int32 → mH → Prop} (h : ((9 : Int32) ≤ x1 → (cwv Γ M_X12_leads [aR 12 0] (sto μ 12 0 2 (0 : Int32)) (fun μ1 => aw Γ M_X12_fault 30 [aR 12 0, aX] [] μ1 (rI Q)))) ∧ (¬ (9 : Int32) ≤ x1 → (vp_in x1 9 ∧ (aw Γ M_X12_fault 2 [aR 12 0, aI (x1 + (1 : Int32))] [] (sto μ 41 0 (tn x1) (-1 : Int32)) (rI Q))))) : aw Γ M_X12_fault 2 [aR 12 0, aI x1] [] μ (rI Q) := by
  refine aw_iload_n dX12_fault_2 rfl ?_
  refine aw_bipush (v := (9 : Int32)) dX12_fault_3 rfl ?_
  refine aw_icmp_ge (tgt := 21) dX12_fault_5 (by decide) (fun c0 => ?_) (fun c0 => ?_)
  · replace h := h.1 c0
    refine aw_aload_n dX12_fault_21 rfl ?_
    refine aw_iconst (v := (0 : Int32)) dX12_fault_22 rfl ?_
    refine aw_putI dX12_fault_23 rfl fk_RX12_89 (fun r h => by cases h; rfl) rfl rfl ?_
    refine aw_aload_n dX12_fault_26 rfl ?_
    refine aw_callV (M' := M_X12_leads) (K := 12) (i := 0) (vs := []) (st := []) dX12_fault_27 mk_X12_leads mi_X12_leads ml_RX12_129 mp_X12_leads rc_12 rm_X12_fault__X12_leads (Nat.le_of_ble_eq_true rfl) rfl (cw_mono h ?_)
    clear h
    intro _ μ1 h
    show aw Γ M_X12_fault 30 [aR 12 0, aI x1] [] μ1 (rI Q)
    exact aw_wkk h (wk_e (wk_x wk_n))
  · replace h := h.2 c0
    refine aw_aload_n dX12_fault_8 rfl ?_
    refine aw_get dX12_fault_9 rfl fk_RX12_13 (look_R rfl rfl : look _ 12 0 6 = aR 41 0) ?_
    refine aw_iload_n dX12_fault_12 rfl ?_
    refine aw_iconst (v := (-1 : Int32)) dX12_fault_13 rfl ?_
    refine aw_is (j := tn x1) dX12_fault_14 rfl (fun _ => rfl) h.1 rfl ?_
    replace h := h.2
    refine aw_iinc (v := x1 + (1 : Int32)) (ls' := [aR 12 0, aI (x1 + (1 : Int32))]) dX12_fault_15 rfl rfl (by decide) rfl rfl ?_
    refine aw_goto (tgt := 2) dX12_fault_18 (by decide) ?_
    exact h
theorem u_X12_fault_30 {Γ : cx_T} {μ : mH}  {Q : Int32 → mH → Prop} (h : ((μ 12 0 3) = 0 → (((μ 41 0 0) = (-1 : Int32) → (Q (μ 12 0 4) μ)) ∧ (¬ (μ 41 0 0) = (-1 : Int32) → (((μ 41 0 2) = (-1 : Int32) → (Q (μ 12 0 4) μ)) ∧ (¬ (μ 41 0 2) = (-1 : Int32) → (((μ 41 0 4) = (-1 : Int32) → (Q (μ 12 0 4) μ)) ∧ (¬ (μ 41 0 4) = (-1 : Int32) → ((¬ (μ 41 0 5) = (-1 : Int32) → (Q (-1 : Int32) μ)) ∧ ((μ 41 0 5) = (-1 : Int32) → (Q (μ 12 0 4) μ)))))))))) ∧ (¬ (μ 12 0 3) = 0 → (cwi Γ M_X12_line [aR 12 0] μ (fun r2 μ1 => (¬ r2 = 0 → (aw Γ M_X12_fault 30 [aR 12 0, aX] [] μ1 (rI Q))) ∧ (r2 = 0 → (Q (μ1 12 0 4) μ1)))))) : aw Γ M_X12_fault 30 [aR 12 0, aX] [] μ (rI Q) := by
  refine aw_aload_n dX12_fault_30 rfl ?_
  refine aw_get dX12_fault_31 rfl fk_RX12_99 (look_I rfl : look μ 12 0 3 = aI (μ 12 0 3)) ?_
  refine aw_if_eq (tgt := 49) dX12_fault_34 (by decide) (fun c0 => ?_) (fun c0 => ?_)
  · replace h := h.1 c0
    refine aw_aload_n dX12_fault_49 rfl ?_
    refine aw_get dX12_fault_50 rfl fk_RX12_13 (look_R rfl rfl : look _ 12 0 6 = aR 41 0) ?_
    refine aw_iconst (v := (0 : Int32)) dX12_fault_53 rfl ?_
    refine aw_ia (j := 0) (y := μ 41 0 0) dX12_fault_54 rfl (fun _ => rfl) (by unfold vp_in; decide) (by decide) (rfl) ?_
    refine aw_iconst (v := (-1 : Int32)) dX12_fault_55 rfl ?_
    refine aw_icmp_eq (tgt := 89) dX12_fault_56 (by decide) (fun c0 => ?_) (fun c0 => ?_)
    · replace h := h.1 c0
      refine aw_aload_n dX12_fault_89 rfl ?_
      refine aw_get dX12_fault_90 rfl fk_RX12_92 (look_I rfl : look μ 12 0 4 = aI (μ 12 0 4)) ?_
      refine aw_goto (tgt := 97) dX12_fault_93 (by decide) ?_
      exact aw_iret dX12_fault_97 rfl rfl ⟨_, rfl, h⟩
    · replace h := h.2 c0
      refine aw_aload_n dX12_fault_59 rfl ?_
      refine aw_get dX12_fault_60 rfl fk_RX12_13 (look_R rfl rfl : look _ 12 0 6 = aR 41 0) ?_
      refine aw_iconst (v := (2 : Int32)) dX12_fault_63 rfl ?_
      refine aw_ia (j := 2) (y := μ 41 0 2) dX12_fault_64 rfl (fun _ => rfl) (by unfold vp_in; decide) (by decide) (rfl) ?_
      refine aw_iconst (v := (-1 : Int32)) dX12_fault_65 rfl ?_
      refine aw_icmp_eq (tgt := 89) dX12_fault_66 (by decide) (fun c0 => ?_) (fun c0 => ?_)
      · replace h := h.1 c0
        refine aw_aload_n dX12_fault_89 rfl ?_
        refine aw_get dX12_fault_90 rfl fk_RX12_92 (look_I rfl : look μ 12 0 4 = aI (μ 12 0 4)) ?_
        refine aw_goto (tgt := 97) dX12_fault_93 (by decide) ?_
        exact aw_iret dX12_fault_97 rfl rfl ⟨_, rfl, h⟩
      · replace h := h.2 c0
        refine aw_aload_n dX12_fault_69 rfl ?_
        refine aw_get dX12_fault_70 rfl fk_RX12_13 (look_R rfl rfl : look _ 12 0 6 = aR 41 0) ?_
        refine aw_iconst (v := (4 : Int32)) dX12_fault_73 rfl ?_
        refine aw_ia (j := 4) (y := μ 41 0 4) dX12_fault_74 rfl (fun _ => rfl) (by unfold vp_in; decide) (by decide) (rfl) ?_
        refine aw_iconst (v := (-1 : Int32)) dX12_fault_75 rfl ?_
        refine aw_icmp_eq (tgt := 89) dX12_fault_76 (by decide) (fun c0 => ?_) (fun c0 => ?_)
        · replace h := h.1 c0
          refine aw_aload_n dX12_fault_89 rfl ?_
          refine aw_get dX12_fault_90 rfl fk_RX12_92 (look_I rfl : look μ 12 0 4 = aI (μ 12 0 4)) ?_
          refine aw_goto (tgt := 97) dX12_fault_93 (by decide) ?_
          exact aw_iret dX12_fault_97 rfl rfl ⟨_, rfl, h⟩
        · replace h := h.2 c0
          refine aw_aload_n dX12_fault_79 rfl ?_
          refine aw_get dX12_fault_80 rfl fk_RX12_13 (look_R rfl rfl : look _ 12 0 6 = aR 41 0) ?_
          refine aw_iconst (v := (5 : Int32)) dX12_fault_83 rfl ?_
          refine aw_ia (j := 5) (y := μ 41 0 5) dX12_fault_84 rfl (fun _ => rfl) (by unfold vp_in; decide) (by decide) (rfl) ?_
          refine aw_iconst (v := (-1 : Int32)) dX12_fault_85 rfl ?_
          refine aw_icmp_ne (tgt := 96) dX12_fault_86 (by decide) (fun c0 => ?_) (fun c0 => ?_)
          · replace h := h.1 c0
            refine aw_iconst (v := (-1 : Int32)) dX12_fault_96 rfl ?_
            exact aw_iret dX12_fault_97 rfl rfl ⟨_, rfl, h⟩
          · replace h := h.2 c0
            refine aw_aload_n dX12_fault_89 rfl ?_
            refine aw_get dX12_fault_90 rfl fk_RX12_92 (look_I rfl : look μ 12 0 4 = aI (μ 12 0 4)) ?_
            refine aw_goto (tgt := 97) dX12_fault_93 (by decide) ?_
            exact aw_iret dX12_fault_97 rfl rfl ⟨_, rfl, h⟩
  · replace h := h.2 c0
    refine aw_aload_n dX12_fault_37 rfl ?_
    refine aw_callV (M' := M_X12_line) (K := 12) (i := 0) (vs := []) (st := []) dX12_fault_38 mk_X12_line mi_X12_line ml_RX12_165 mp_X12_line rc_12 rm_X12_fault__X12_line (Nat.le_of_ble_eq_true rfl) rfl (cw_mono h ?_)
    clear h
    rintro _ μ1 ⟨r2, rfl, h⟩
    show aw Γ M_X12_fault 41 [aR 12 0, aX] [aI r2] μ1 (rI Q)
    refine aw_if_ne (tgt := 30) dX12_fault_41 (by decide) (fun c0 => ?_) (fun c0 => ?_)
    · replace h := h.1 c0
      exact h
    · replace h := h.2 c0
      refine aw_aload_n dX12_fault_44 rfl ?_
      refine aw_get dX12_fault_45 rfl fk_RX12_92 (look_I rfl : look μ1 12 0 4 = aI (μ1 12 0 4)) ?_
      exact aw_iret dX12_fault_48 rfl rfl ⟨_, rfl, h⟩
theorem u_X12_format {Γ : cx_T} {μ : mH}  {Q : Int32 → mH → Prop} (h : cwi Γ M_X12_fault [aR 12 0] μ (fun r2 μ1 => (r2 = (-1 : Int32) → (aw Γ M_X12_format 12 [aR 12 0, aI (0 : Int32)] [] μ1 (rI Q))) ∧ (¬ r2 = (-1 : Int32) → (Q (-1 : Int32) μ1)))) : cwi Γ M_X12_format [aR 12 0] μ Q := by
  refine cw_ofU (ls := [aR 12 0, aX]) (Or.inl (by decide)) rfl (Nat.le_of_ble_eq_true rfl) rfl ?_
  refine aw_aload_n dX12_format_0 rfl ?_
  refine aw_callV (M' := M_X12_fault) (K := 12) (i := 0) (vs := []) (st := []) dX12_format_1 mk_X12_fault mi_X12_fault ml_RX12_168 mp_X12_fault rc_12 rm_X12_format__X12_fault (Nat.le_of_ble_eq_true rfl) rfl (cw_mono h ?_)
  clear h
  rintro _ μ1 ⟨r2, rfl, h⟩
  show aw Γ M_X12_format 4 [aR 12 0, aX] [aI r2] μ1 (rI Q)
  refine aw_iconst (v := (-1 : Int32)) dX12_format_4 rfl ?_
  refine aw_icmp_eq (tgt := 10) dX12_format_5 (by decide) (fun c0 => ?_) (fun c0 => ?_)
  · replace h := h.1 c0
    refine aw_iconst (v := (0 : Int32)) dX12_format_10 rfl ?_
    refine aw_istore_n (ls' := [aR 12 0, aI (0 : Int32)]) dX12_format_11 (by decide) rfl rfl ?_
    exact h
  · replace h := h.2 c0
    refine aw_iconst (v := (-1 : Int32)) dX12_format_8 rfl ?_
    exact aw_iret dX12_format_9 rfl rfl ⟨_, rfl, h⟩
theorem u_X12_format_12 {Γ : cx_T} {μ : mH} {x1 : Int32} {Q : Int32 → mH → Prop} (h : ((9 : Int32) ≤ x1 → (Q (μ 42 0 4) (sto (sto (sto (sto μ 12 0 8 (1 : Int32)) 12 0 11 (0 : Int32)) 12 0 9 (0 : Int32)) 12 0 1 (0 : Int32)))) ∧ (¬ (9 : Int32) ≤ x1 → (vp_in x1 9 ∧ ((¬ (μ 41 0 (tn x1)) = (-1 : Int32) → (vp_in x1 9 ∧ (vp_in x1 9 ∧ (aw Γ M_X12_format 12 [aR 12 0, aI (x1 + (1 : Int32))] [] (sto μ 42 0 (tn x1) (μ 41 0 (tn x1))) (rI Q))))) ∧ ((μ 41 0 (tn x1)) = (-1 : Int32) → (vp_in x1 9 ∧ (aw Γ M_X12_format 12 [aR 12 0, aI (x1 + (1 : Int32))] [] (sto μ 42 0 (tn x1) (0 : Int32)) (rI Q)))))))) : aw Γ M_X12_format 12 [aR 12 0, aI x1] [] μ (rI Q) := by
  refine aw_iload_n dX12_format_12 rfl ?_
  refine aw_bipush (v := (9 : Int32)) dX12_format_13 rfl ?_
  refine aw_icmp_ge (tgt := 50) dX12_format_15 (by decide) (fun c0 => ?_) (fun c0 => ?_)
  · replace h := h.1 c0
    refine aw_aload_n dX12_format_50 rfl ?_
    refine aw_iconst (v := (1 : Int32)) dX12_format_51 rfl ?_
    refine aw_putZ dX12_format_52 rfl fk_RX12_171 (fun r h => by cases h; rfl) rfl rfl (Or.inr rfl) ?_
    refine aw_aload_n dX12_format_55 rfl ?_
    refine aw_iconst (v := (0 : Int32)) dX12_format_56 rfl ?_
    refine aw_putI dX12_format_57 rfl fk_RX12_175 (fun r h => by cases h; rfl) rfl rfl ?_
    refine aw_aload_n dX12_format_60 rfl ?_
    refine aw_iconst (v := (0 : Int32)) dX12_format_61 rfl ?_
    refine aw_putI dX12_format_62 rfl fk_RX12_178 (fun r h => by cases h; rfl) rfl rfl ?_
    refine aw_aload_n dX12_format_65 rfl ?_
    refine aw_iconst (v := (0 : Int32)) dX12_format_66 rfl ?_
    refine aw_putI dX12_format_67 rfl fk_RX12_81 (fun r h => by cases h; rfl) rfl rfl ?_
    refine aw_aload_n dX12_format_70 rfl ?_
    refine aw_get dX12_format_71 rfl fk_RX12_17 (look_R rfl rfl : look _ 12 0 7 = aR 42 0) ?_
    refine aw_iconst (v := (4 : Int32)) dX12_format_74 rfl ?_
    refine aw_ia (j := 4) (y := μ 42 0 4) dX12_format_75 rfl (fun _ => rfl) (by unfold vp_in; decide) (by decide) ((sto_K (by decide)).trans ((sto_K (by decide)).trans ((sto_K (by decide)).trans ((sto_K (by decide)).trans (rfl))))) ?_
    exact aw_iret dX12_format_76 rfl rfl ⟨_, rfl, h⟩
  · replace h := h.2 c0
    refine aw_aload_n dX12_format_18 rfl ?_
    refine aw_get dX12_format_19 rfl fk_RX12_17 (look_R rfl rfl : look _ 12 0 7 = aR 42 0) ?_
    refine aw_iload_n dX12_format_22 rfl ?_
    refine aw_aload_n dX12_format_23 rfl ?_
    refine aw_get dX12_format_24 rfl fk_RX12_13 (look_R rfl rfl : look _ 12 0 6 = aR 41 0) ?_
    refine aw_iload_n dX12_format_27 rfl ?_
    refine aw_ia (j := tn x1) (y := μ 41 0 (tn x1)) dX12_format_28 rfl (fun _ => rfl) h.1 rfl (rfl) ?_
    replace h := h.2
    refine aw_iconst (v := (-1 : Int32)) dX12_format_29 rfl ?_
    refine aw_icmp_ne (tgt := 37) dX12_format_30 (by decide) (fun c0 => ?_) (fun c0 => ?_)
    · replace h := h.1 c0
      refine aw_aload_n dX12_format_37 rfl ?_
      refine aw_get dX12_format_38 rfl fk_RX12_13 (look_R rfl rfl : look _ 12 0 6 = aR 41 0) ?_
      refine aw_iload_n dX12_format_41 rfl ?_
      refine aw_ia (j := tn x1) (y := μ 41 0 (tn x1)) dX12_format_42 rfl (fun _ => rfl) h.1 rfl (rfl) ?_
      replace h := h.2
      refine aw_is (j := tn x1) dX12_format_43 rfl (fun _ => rfl) h.1 rfl ?_
      replace h := h.2
      refine aw_iinc (v := x1 + (1 : Int32)) (ls' := [aR 12 0, aI (x1 + (1 : Int32))]) dX12_format_44 rfl rfl (by decide) rfl rfl ?_
      refine aw_goto (tgt := 12) dX12_format_47 (by decide) ?_
      exact h
    · replace h := h.2 c0
      refine aw_iconst (v := (0 : Int32)) dX12_format_33 rfl ?_
      refine aw_goto (tgt := 43) dX12_format_34 (by decide) ?_
      refine aw_is (j := tn x1) dX12_format_43 rfl (fun _ => rfl) h.1 rfl ?_
      replace h := h.2
      refine aw_iinc (v := x1 + (1 : Int32)) (ls' := [aR 12 0, aI (x1 + (1 : Int32))]) dX12_format_44 rfl rfl (by decide) rfl rfl ?_
      refine aw_goto (tgt := 12) dX12_format_47 (by decide) ?_
      exact h
theorem u_X12_flux {Γ : cx_T} {μ : mH} {x1 : Int32} {x2 : Int32} {x3 : Int32} {x4 : Int32} {x5 : Int32} {Q : Int32 → mH → Prop} (h : aw Γ M_X12_flux 6 [aR 12 0, aI x1, aI x2, aI x3, aI x4, aI x5, aI (0 : Int32), aI (0 : Int32), aX] [] μ (rI Q)) : cwi Γ M_X12_flux [aR 12 0, aI x1, aI x2, aI x3, aI x4, aI x5] μ Q := by
  refine cw_ofU (ls := [aR 12 0, aI x1, aI x2, aI x3, aI x4, aI x5, aX, aX, aX]) (Or.inl (by decide)) rfl (Nat.le_of_ble_eq_true rfl) rfl ?_
  refine aw_iconst (v := (0 : Int32)) dX12_flux_0 rfl ?_
  refine aw_istore (ls' := [aR 12 0, aI x1, aI x2, aI x3, aI x4, aI x5, aI (0 : Int32), aX, aX]) dX12_flux_1 (by decide) rfl rfl ?_
  refine aw_iconst (v := (0 : Int32)) dX12_flux_3 rfl ?_
  refine aw_istore (ls' := [aR 12 0, aI x1, aI x2, aI x3, aI x4, aI x5, aI (0 : Int32), aI (0 : Int32), aX]) dX12_flux_4 (by decide) rfl rfl ?_
  exact h
theorem u_X12_flux_6 {Γ : cx_T} {μ : mH} {x1 : Int32} {x2 : Int32} {x3 : Int32} {x4 : Int32} {x5 : Int32} {x6 : Int32} {x7 : Int32} {Q : Int32 → mH → Prop} (h : ((20 : Int32) ≤ x7 → ((((μ 12 0 9) + x6) ≤ (320 : Int32) → (aw Γ M_X12_flux 62 [aR 12 0, aI x1, aI x2, aI x3, aI x4, aI x5, aX, aI (0 : Int32), aX] [] μ (rI Q))) ∧ (¬ ((μ 12 0 9) + x6) ≤ (320 : Int32) → (Q (-1 : Int32) μ)))) ∧ (¬ (20 : Int32) ≤ x7 → (cwi Γ M_X12_byteOf [aI x7, aI x1, aI x2, aI x3, aI x4, aI x5] μ (fun r2 μ1 => (r2 ≤ 0 → (aw Γ M_X12_flux 6 [aR 12 0, aI x1, aI x2, aI x3, aI x4, aI x5, aI (x6 + (0 : Int32)), aI (x7 + (1 : Int32)), aX] [] μ1 (rI Q))) ∧ (¬ r2 ≤ 0 → (aw Γ M_X12_flux 6 [aR 12 0, aI x1, aI x2, aI x3, aI x4, aI x5, aI (x6 + (1 : Int32)), aI (x7 + (1 : Int32)), aX] [] μ1 (rI Q))))))) : aw Γ M_X12_flux 6 [aR 12 0, aI x1, aI x2, aI x3, aI x4, aI x5, aI x6, aI x7, aX] [] μ (rI Q) := by
  refine aw_iload dX12_flux_6 rfl ?_
  refine aw_bipush (v := (20 : Int32)) dX12_flux_8 rfl ?_
  refine aw_icmp_ge (tgt := 44) dX12_flux_10 (by decide) (fun c0 => ?_) (fun c0 => ?_)
  · replace h := h.1 c0
    refine aw_aload_n dX12_flux_44 rfl ?_
    refine aw_get dX12_flux_45 rfl fk_RX12_178 (look_I rfl : look μ 12 0 9 = aI (μ 12 0 9)) ?_
    refine aw_iload dX12_flux_48 rfl ?_
    refine aw_iadd dX12_flux_50 ?_
    refine aw_sipush (v := (320 : Int32)) dX12_flux_51 rfl ?_
    refine aw_icmp_le (tgt := 59) dX12_flux_54 (by decide) (fun c0 => ?_) (fun c0 => ?_)
    · replace h := h.1 c0
      refine aw_iconst (v := (0 : Int32)) dX12_flux_59 rfl ?_
      refine aw_istore (ls' := [aR 12 0, aI x1, aI x2, aI x3, aI x4, aI x5, aI x6, aI (0 : Int32), aX]) dX12_flux_60 (by decide) rfl rfl ?_
      exact aw_wkk h (wk_e (wk_e (wk_e (wk_e (wk_e (wk_e (wk_x (wk_e (wk_e wk_n)))))))))
    · replace h := h.2 c0
      refine aw_iconst (v := (-1 : Int32)) dX12_flux_57 rfl ?_
      exact aw_iret dX12_flux_58 rfl rfl ⟨_, rfl, h⟩
  · replace h := h.2 c0
    refine aw_iload dX12_flux_13 rfl ?_
    refine aw_iload dX12_flux_15 rfl ?_
    refine aw_iload_n dX12_flux_17 rfl ?_
    refine aw_iload_n dX12_flux_18 rfl ?_
    refine aw_iload_n dX12_flux_19 rfl ?_
    refine aw_iload dX12_flux_20 rfl ?_
    refine aw_iload dX12_flux_22 rfl ?_
    refine aw_callS (M' := M_X12_byteOf) (vs := [aI x7, aI x1, aI x2, aI x3, aI x4, aI x5]) (st := [aI x6]) dX12_flux_24 mk_X12_byteOf ms_X12_byteOf ml_RX12_181 mp_X12_byteOf rm_X12_flux__X12_byteOf (Nat.le_of_ble_eq_true rfl) rfl (cw_mono h ?_)
    clear h
    rintro _ μ1 ⟨r2, rfl, h⟩
    show aw Γ M_X12_flux 27 [aR 12 0, aI x1, aI x2, aI x3, aI x4, aI x5, aI x6, aI x7, aX] [aI r2, aI x6] μ1 (rI Q)
    refine aw_if_le (tgt := 34) dX12_flux_27 (by decide) (fun c0 => ?_) (fun c0 => ?_)
    · replace h := h.1 c0
      refine aw_iconst (v := (0 : Int32)) dX12_flux_34 rfl ?_
      refine aw_iadd dX12_flux_35 ?_
      refine aw_istore (ls' := [aR 12 0, aI x1, aI x2, aI x3, aI x4, aI x5, aI (x6 + (0 : Int32)), aI x7, aX]) dX12_flux_36 (by decide) rfl rfl ?_
      refine aw_iinc (v := x7 + (1 : Int32)) (ls' := [aR 12 0, aI x1, aI x2, aI x3, aI x4, aI x5, aI (x6 + (0 : Int32)), aI (x7 + (1 : Int32)), aX]) dX12_flux_38 rfl rfl (by decide) rfl rfl ?_
      refine aw_goto (tgt := 6) dX12_flux_41 (by decide) ?_
      exact h
    · replace h := h.2 c0
      refine aw_iconst (v := (1 : Int32)) dX12_flux_30 rfl ?_
      refine aw_goto (tgt := 35) dX12_flux_31 (by decide) ?_
      refine aw_iadd dX12_flux_35 ?_
      refine aw_istore (ls' := [aR 12 0, aI x1, aI x2, aI x3, aI x4, aI x5, aI (x6 + (1 : Int32)), aI x7, aX]) dX12_flux_36 (by decide) rfl rfl ?_
      refine aw_iinc (v := x7 + (1 : Int32)) (ls' := [aR 12 0, aI x1, aI x2, aI x3, aI x4, aI x5, aI (x6 + (1 : Int32)), aI (x7 + (1 : Int32)), aX]) dX12_flux_38 rfl rfl (by decide) rfl rfl ?_
      refine aw_goto (tgt := 6) dX12_flux_41 (by decide) ?_
      exact h
theorem u_X12_flux_62 {Γ : cx_T} {μ : mH} {x1 : Int32} {x2 : Int32} {x3 : Int32} {x4 : Int32} {x5 : Int32} {x7 : Int32} {Q : Int32 → mH → Prop} (h : ((20 : Int32) ≤ x7 → (Q (μ 12 0 9) μ)) ∧ (¬ (20 : Int32) ≤ x7 → (cwi Γ M_X12_byteOf [aI x7, aI x1, aI x2, aI x3, aI x4, aI x5] μ (fun r2 μ1 => (¬ r2 = 0 → (vp_in (μ1 12 0 9) 320 ∧ (aw Γ M_X12_flux 62 [aR 12 0, aI x1, aI x2, aI x3, aI x4, aI x5, aX, aI (x7 + (1 : Int32)), aX] [] (sto (sto μ1 43 0 (tn (μ1 12 0 9)) r2) 12 0 9 ((μ1 12 0 9) + (1 : Int32))) (rI Q)))) ∧ (r2 = 0 → (aw Γ M_X12_flux 62 [aR 12 0, aI x1, aI x2, aI x3, aI x4, aI x5, aX, aI (x7 + (1 : Int32)), aX] [] μ1 (rI Q))))))) : aw Γ M_X12_flux 62 [aR 12 0, aI x1, aI x2, aI x3, aI x4, aI x5, aX, aI x7, aX] [] μ (rI Q) := by
  refine aw_iload dX12_flux_62 rfl ?_
  refine aw_bipush (v := (20 : Int32)) dX12_flux_64 rfl ?_
  refine aw_icmp_ge (tgt := 118) dX12_flux_66 (by decide) (fun c0 => ?_) (fun c0 => ?_)
  · replace h := h.1 c0
    refine aw_aload_n dX12_flux_118 rfl ?_
    refine aw_get dX12_flux_119 rfl fk_RX12_178 (look_I rfl : look μ 12 0 9 = aI (μ 12 0 9)) ?_
    exact aw_iret dX12_flux_122 rfl rfl ⟨_, rfl, h⟩
  · replace h := h.2 c0
    refine aw_iload dX12_flux_69 rfl ?_
    refine aw_iload_n dX12_flux_71 rfl ?_
    refine aw_iload_n dX12_flux_72 rfl ?_
    refine aw_iload_n dX12_flux_73 rfl ?_
    refine aw_iload dX12_flux_74 rfl ?_
    refine aw_iload dX12_flux_76 rfl ?_
    refine aw_callS (M' := M_X12_byteOf) (vs := [aI x7, aI x1, aI x2, aI x3, aI x4, aI x5]) (st := []) dX12_flux_78 mk_X12_byteOf ms_X12_byteOf ml_RX12_181 mp_X12_byteOf rm_X12_flux__X12_byteOf (Nat.le_of_ble_eq_true rfl) rfl (cw_mono h ?_)
    clear h
    rintro _ μ1 ⟨r2, rfl, h⟩
    show aw Γ M_X12_flux 81 [aR 12 0, aI x1, aI x2, aI x3, aI x4, aI x5, aX, aI x7, aX] [aI r2] μ1 (rI Q)
    refine aw_istore (ls' := [aR 12 0, aI x1, aI x2, aI x3, aI x4, aI x5, aX, aI x7, aI r2]) dX12_flux_81 (by decide) rfl rfl ?_
    refine aw_iload dX12_flux_83 rfl ?_
    refine aw_if_ne (tgt := 91) dX12_flux_85 (by decide) (fun c0 => ?_) (fun c0 => ?_)
    · replace h := h.1 c0
      refine aw_aload_n dX12_flux_91 rfl ?_
      refine aw_get dX12_flux_92 rfl fk_RX12_20 (look_R rfl rfl : look _ 12 0 10 = aR 43 0) ?_
      refine aw_aload_n dX12_flux_95 rfl ?_
      refine aw_get dX12_flux_96 rfl fk_RX12_178 (look_I rfl : look μ1 12 0 9 = aI (μ1 12 0 9)) ?_
      refine aw_iload dX12_flux_99 rfl ?_
      refine aw_is (j := tn (μ1 12 0 9)) dX12_flux_101 rfl (fun _ => rfl) h.1 rfl ?_
      replace h := h.2
      refine aw_aload_n dX12_flux_102 rfl ?_
      refine aw_dup dX12_flux_103 (fun _ => rfl) ?_
      refine aw_get dX12_flux_104 rfl fk_RX12_178 ((look_I rfl).trans (congrArg aI ((sto_K (by decide)).trans (rfl))) : look (sto μ1 43 0 (tn (μ1 12 0 9)) r2) 12 0 9 = aI (μ1 12 0 9)) ?_
      refine aw_iconst (v := (1 : Int32)) dX12_flux_107 rfl ?_
      refine aw_iadd dX12_flux_108 ?_
      refine aw_putI dX12_flux_109 rfl fk_RX12_178 (fun r h => by cases h; rfl) rfl rfl ?_
      refine aw_iinc (v := x7 + (1 : Int32)) (ls' := [aR 12 0, aI x1, aI x2, aI x3, aI x4, aI x5, aX, aI (x7 + (1 : Int32)), aI r2]) dX12_flux_112 rfl rfl (by decide) rfl rfl ?_
      refine aw_goto (tgt := 62) dX12_flux_115 (by decide) ?_
      exact aw_wkk h (wk_e (wk_e (wk_e (wk_e (wk_e (wk_e (wk_e (wk_e (wk_x wk_n)))))))))
    · replace h := h.2 c0
      refine aw_goto (tgt := 112) dX12_flux_88 (by decide) ?_
      refine aw_iinc (v := x7 + (1 : Int32)) (ls' := [aR 12 0, aI x1, aI x2, aI x3, aI x4, aI x5, aX, aI (x7 + (1 : Int32)), aI r2]) dX12_flux_112 rfl rfl (by decide) rfl rfl ?_
      refine aw_goto (tgt := 62) dX12_flux_115 (by decide) ?_
      exact aw_wkk h (wk_e (wk_e (wk_e (wk_e (wk_e (wk_e (wk_e (wk_e (wk_x wk_n)))))))))
theorem u_X12_byteOf {Γ : cx_T} {μ : mH} {x0 : Int32} {x1 : Int32} {x2 : Int32} {x3 : Int32} {x4 : Int32} {x5 : Int32} {Q : Int32 → mH → Prop} (h : ((4 : Int32) ≤ x0 → (((8 : Int32) ≤ x0 → (((12 : Int32) ≤ x0 → (((16 : Int32) ≤ x0 → (Q ((x5 >>> ((24 : Int32) - ((8 : Int32) * (x0 - x0 / (4 : Int32) * (4 : Int32))) &&& 31)) &&& (255 : Int32)) μ)) ∧ (¬ (16 : Int32) ≤ x0 → (Q ((x4 >>> ((24 : Int32) - ((8 : Int32) * (x0 - x0 / (4 : Int32) * (4 : Int32))) &&& 31)) &&& (255 : Int32)) μ)))) ∧ (¬ (12 : Int32) ≤ x0 → (Q ((x3 >>> ((24 : Int32) - ((8 : Int32) * (x0 - x0 / (4 : Int32) * (4 : Int32))) &&& 31)) &&& (255 : Int32)) μ)))) ∧ (¬ (8 : Int32) ≤ x0 → (Q ((x2 >>> ((24 : Int32) - ((8 : Int32) * (x0 - x0 / (4 : Int32) * (4 : Int32))) &&& 31)) &&& (255 : Int32)) μ)))) ∧ (¬ (4 : Int32) ≤ x0 → (Q ((x1 >>> ((24 : Int32) - ((8 : Int32) * (x0 - x0 / (4 : Int32) * (4 : Int32))) &&& 31)) &&& (255 : Int32)) μ))) : cwi Γ M_X12_byteOf [aI x0, aI x1, aI x2, aI x3, aI x4, aI x5] μ Q := by
  refine cw_ofU (ls := [aI x0, aI x1, aI x2, aI x3, aI x4, aI x5, aX]) (Or.inl (by decide)) rfl (Nat.le_of_ble_eq_true rfl) rfl ?_
  refine aw_iload_n dX12_byteOf_0 rfl ?_
  refine aw_iconst (v := (4 : Int32)) dX12_byteOf_1 rfl ?_
  refine aw_icmp_ge (tgt := 9) dX12_byteOf_2 (by decide) (fun c0 => ?_) (fun c0 => ?_)
  · replace h := h.1 c0
    refine aw_iload_n dX12_byteOf_9 rfl ?_
    refine aw_bipush (v := (8 : Int32)) dX12_byteOf_10 rfl ?_
    refine aw_icmp_ge (tgt := 19) dX12_byteOf_12 (by decide) (fun c0 => ?_) (fun c0 => ?_)
    · replace h := h.1 c0
      refine aw_iload_n dX12_byteOf_19 rfl ?_
      refine aw_bipush (v := (12 : Int32)) dX12_byteOf_20 rfl ?_
      refine aw_icmp_ge (tgt := 29) dX12_byteOf_22 (by decide) (fun c0 => ?_) (fun c0 => ?_)
      · replace h := h.1 c0
        refine aw_iload_n dX12_byteOf_29 rfl ?_
        refine aw_bipush (v := (16 : Int32)) dX12_byteOf_30 rfl ?_
        refine aw_icmp_ge (tgt := 40) dX12_byteOf_32 (by decide) (fun c0 => ?_) (fun c0 => ?_)
        · replace h := h.1 c0
          refine aw_iload dX12_byteOf_40 rfl ?_
          refine aw_istore (ls' := [aI x0, aI x1, aI x2, aI x3, aI x4, aI x5, aI x5]) dX12_byteOf_42 (by decide) rfl rfl ?_
          refine aw_iload dX12_byteOf_44 rfl ?_
          refine aw_bipush (v := (24 : Int32)) dX12_byteOf_46 rfl ?_
          refine aw_bipush (v := (8 : Int32)) dX12_byteOf_48 rfl ?_
          refine aw_iload_n dX12_byteOf_50 rfl ?_
          refine aw_iconst (v := (4 : Int32)) dX12_byteOf_51 rfl ?_
          refine aw_irem dX12_byteOf_52 (by decide) ?_
          refine aw_imul dX12_byteOf_53 ?_
          refine aw_isub dX12_byteOf_54 ?_
          refine aw_ishr dX12_byteOf_55 ?_
          refine aw_sipush (v := (255 : Int32)) dX12_byteOf_56 rfl ?_
          refine aw_iand dX12_byteOf_59 ?_
          exact aw_iret dX12_byteOf_60 rfl rfl ⟨_, rfl, h⟩
        · replace h := h.2 c0
          refine aw_iload dX12_byteOf_35 rfl ?_
          refine aw_goto (tgt := 42) dX12_byteOf_37 (by decide) ?_
          refine aw_istore (ls' := [aI x0, aI x1, aI x2, aI x3, aI x4, aI x5, aI x4]) dX12_byteOf_42 (by decide) rfl rfl ?_
          refine aw_iload dX12_byteOf_44 rfl ?_
          refine aw_bipush (v := (24 : Int32)) dX12_byteOf_46 rfl ?_
          refine aw_bipush (v := (8 : Int32)) dX12_byteOf_48 rfl ?_
          refine aw_iload_n dX12_byteOf_50 rfl ?_
          refine aw_iconst (v := (4 : Int32)) dX12_byteOf_51 rfl ?_
          refine aw_irem dX12_byteOf_52 (by decide) ?_
          refine aw_imul dX12_byteOf_53 ?_
          refine aw_isub dX12_byteOf_54 ?_
          refine aw_ishr dX12_byteOf_55 ?_
          refine aw_sipush (v := (255 : Int32)) dX12_byteOf_56 rfl ?_
          refine aw_iand dX12_byteOf_59 ?_
          exact aw_iret dX12_byteOf_60 rfl rfl ⟨_, rfl, h⟩
      · replace h := h.2 c0
        refine aw_iload_n dX12_byteOf_25 rfl ?_
        refine aw_goto (tgt := 42) dX12_byteOf_26 (by decide) ?_
        refine aw_istore (ls' := [aI x0, aI x1, aI x2, aI x3, aI x4, aI x5, aI x3]) dX12_byteOf_42 (by decide) rfl rfl ?_
        refine aw_iload dX12_byteOf_44 rfl ?_
        refine aw_bipush (v := (24 : Int32)) dX12_byteOf_46 rfl ?_
        refine aw_bipush (v := (8 : Int32)) dX12_byteOf_48 rfl ?_
        refine aw_iload_n dX12_byteOf_50 rfl ?_
        refine aw_iconst (v := (4 : Int32)) dX12_byteOf_51 rfl ?_
        refine aw_irem dX12_byteOf_52 (by decide) ?_
        refine aw_imul dX12_byteOf_53 ?_
        refine aw_isub dX12_byteOf_54 ?_
        refine aw_ishr dX12_byteOf_55 ?_
        refine aw_sipush (v := (255 : Int32)) dX12_byteOf_56 rfl ?_
        refine aw_iand dX12_byteOf_59 ?_
        exact aw_iret dX12_byteOf_60 rfl rfl ⟨_, rfl, h⟩
    · replace h := h.2 c0
      refine aw_iload_n dX12_byteOf_15 rfl ?_
      refine aw_goto (tgt := 42) dX12_byteOf_16 (by decide) ?_
      refine aw_istore (ls' := [aI x0, aI x1, aI x2, aI x3, aI x4, aI x5, aI x2]) dX12_byteOf_42 (by decide) rfl rfl ?_
      refine aw_iload dX12_byteOf_44 rfl ?_
      refine aw_bipush (v := (24 : Int32)) dX12_byteOf_46 rfl ?_
      refine aw_bipush (v := (8 : Int32)) dX12_byteOf_48 rfl ?_
      refine aw_iload_n dX12_byteOf_50 rfl ?_
      refine aw_iconst (v := (4 : Int32)) dX12_byteOf_51 rfl ?_
      refine aw_irem dX12_byteOf_52 (by decide) ?_
      refine aw_imul dX12_byteOf_53 ?_
      refine aw_isub dX12_byteOf_54 ?_
      refine aw_ishr dX12_byteOf_55 ?_
      refine aw_sipush (v := (255 : Int32)) dX12_byteOf_56 rfl ?_
      refine aw_iand dX12_byteOf_59 ?_
      exact aw_iret dX12_byteOf_60 rfl rfl ⟨_, rfl, h⟩
  · replace h := h.2 c0
    refine aw_iload_n dX12_byteOf_5 rfl ?_
    refine aw_goto (tgt := 42) dX12_byteOf_6 (by decide) ?_
    refine aw_istore (ls' := [aI x0, aI x1, aI x2, aI x3, aI x4, aI x5, aI x1]) dX12_byteOf_42 (by decide) rfl rfl ?_
    refine aw_iload dX12_byteOf_44 rfl ?_
    refine aw_bipush (v := (24 : Int32)) dX12_byteOf_46 rfl ?_
    refine aw_bipush (v := (8 : Int32)) dX12_byteOf_48 rfl ?_
    refine aw_iload_n dX12_byteOf_50 rfl ?_
    refine aw_iconst (v := (4 : Int32)) dX12_byteOf_51 rfl ?_
    refine aw_irem dX12_byteOf_52 (by decide) ?_
    refine aw_imul dX12_byteOf_53 ?_
    refine aw_isub dX12_byteOf_54 ?_
    refine aw_ishr dX12_byteOf_55 ?_
    refine aw_sipush (v := (255 : Int32)) dX12_byteOf_56 rfl ?_
    refine aw_iand dX12_byteOf_59 ?_
    exact aw_iret dX12_byteOf_60 rfl rfl ⟨_, rfl, h⟩
theorem u_X12_wipe {Γ : cx_T} {μ : mH}  {Q : Int32 → mH → Prop} (h : Q (μ 12 0 9) (sto μ 12 0 9 (0 : Int32))) : cwi Γ M_X12_wipe [aR 12 0] μ Q := by
  refine cw_ofU (ls := [aR 12 0, aX]) (Or.inl (by decide)) rfl (Nat.le_of_ble_eq_true rfl) rfl ?_
  refine aw_aload_n dX12_wipe_0 rfl ?_
  refine aw_get dX12_wipe_1 rfl fk_RX12_178 (look_I rfl : look μ 12 0 9 = aI (μ 12 0 9)) ?_
  refine aw_istore_n (ls' := [aR 12 0, aI (μ 12 0 9)]) dX12_wipe_4 (by decide) rfl rfl ?_
  refine aw_aload_n dX12_wipe_5 rfl ?_
  refine aw_iconst (v := (0 : Int32)) dX12_wipe_6 rfl ?_
  refine aw_putI dX12_wipe_7 rfl fk_RX12_178 (fun r h => by cases h; rfl) rfl rfl ?_
  refine aw_iload_n dX12_wipe_10 rfl ?_
  exact aw_iret dX12_wipe_11 rfl rfl ⟨_, rfl, h⟩
theorem u_X12_read {Γ : cx_T} {μ : mH} {x1 : Int32} {Q : Int32 → mH → Prop} (h : ((μ 12 0 8) = 0 → (Q (-1 : Int32) μ)) ∧ (¬ (μ 12 0 8) = 0 → (cwi Γ M_X12_in [aI x1, aI (0 : Int32), aI (3 : Int32)] μ (fun r2 μ1 => (r2 = 0 → (Q (-1 : Int32) μ1)) ∧ (¬ r2 = 0 → ((¬ (μ1 12 0 11) = (10 : Int32) → (vp_in (μ1 12 0 11) 10 ∧ (vp_in (μ1 12 0 11) 10 ∧ (aw Γ M_X12_read 52 [aR 12 0, aX, aI (0 : Int32)] [] (sto (sto μ1 44 0 (tn (μ1 12 0 11)) x1) 45 0 (tn (μ1 12 0 11)) (μ1 12 0 9)) (rI Q))))) ∧ ((μ1 12 0 11) = (10 : Int32) → (Q (-1 : Int32) μ1)))))))) : cwi Γ M_X12_read [aR 12 0, aI x1] μ Q := by
  refine cw_ofU (ls := [aR 12 0, aI x1, aX]) (Or.inl (by decide)) rfl (Nat.le_of_ble_eq_true rfl) rfl ?_
  refine aw_aload_n dX12_read_0 rfl ?_
  refine aw_get dX12_read_1 rfl fk_RX12_171 (look_I rfl : look μ 12 0 8 = aI (μ 12 0 8)) ?_
  refine aw_if_eq (tgt := 25) dX12_read_4 (by decide) (fun c0 => ?_) (fun c0 => ?_)
  · replace h := h.1 c0
    refine aw_iconst (v := (-1 : Int32)) dX12_read_25 rfl ?_
    exact aw_iret dX12_read_26 rfl rfl ⟨_, rfl, h⟩
  · replace h := h.2 c0
    refine aw_iload_n dX12_read_7 rfl ?_
    refine aw_iconst (v := (0 : Int32)) dX12_read_8 rfl ?_
    refine aw_iconst (v := (3 : Int32)) dX12_read_9 rfl ?_
    refine aw_callS (M' := M_X12_in) (vs := [aI x1, aI (0 : Int32), aI (3 : Int32)]) (st := []) dX12_read_10 mk_X12_in ms_X12_in ml_RX12_85 mp_X12_in rm_X12_read__X12_in (Nat.le_of_ble_eq_true rfl) rfl (cw_mono h ?_)
    clear h
    rintro _ μ1 ⟨r2, rfl, h⟩
    show aw Γ M_X12_read 13 [aR 12 0, aI x1, aX] [aI r2] μ1 (rI Q)
    refine aw_if_eq (tgt := 25) dX12_read_13 (by decide) (fun c0 => ?_) (fun c0 => ?_)
    · replace h := h.1 c0
      refine aw_iconst (v := (-1 : Int32)) dX12_read_25 rfl ?_
      exact aw_iret dX12_read_26 rfl rfl ⟨_, rfl, h⟩
    · replace h := h.2 c0
      refine aw_aload_n dX12_read_16 rfl ?_
      refine aw_get dX12_read_17 rfl fk_RX12_175 (look_I rfl : look μ1 12 0 11 = aI (μ1 12 0 11)) ?_
      refine aw_bipush (v := (10 : Int32)) dX12_read_20 rfl ?_
      refine aw_icmp_ne (tgt := 27) dX12_read_22 (by decide) (fun c0 => ?_) (fun c0 => ?_)
      · replace h := h.1 c0
        refine aw_aload_n dX12_read_27 rfl ?_
        refine aw_get dX12_read_28 rfl fk_RX12_23 (look_R rfl rfl : look _ 12 0 12 = aR 44 0) ?_
        refine aw_aload_n dX12_read_31 rfl ?_
        refine aw_get dX12_read_32 rfl fk_RX12_175 (look_I rfl : look μ1 12 0 11 = aI (μ1 12 0 11)) ?_
        refine aw_iload_n dX12_read_35 rfl ?_
        refine aw_is (j := tn (μ1 12 0 11)) dX12_read_36 rfl (fun _ => rfl) h.1 rfl ?_
        replace h := h.2
        refine aw_aload_n dX12_read_37 rfl ?_
        refine aw_get dX12_read_38 rfl fk_RX12_26 (look_R rfl rfl : look _ 12 0 13 = aR 45 0) ?_
        refine aw_aload_n dX12_read_41 rfl ?_
        refine aw_get dX12_read_42 rfl fk_RX12_175 ((look_I rfl).trans (congrArg aI ((sto_K (by decide)).trans (rfl))) : look (sto μ1 44 0 (tn (μ1 12 0 11)) x1) 12 0 11 = aI (μ1 12 0 11)) ?_
        refine aw_aload_n dX12_read_45 rfl ?_
        refine aw_get dX12_read_46 rfl fk_RX12_178 ((look_I rfl).trans (congrArg aI ((sto_K (by decide)).trans (rfl))) : look (sto μ1 44 0 (tn (μ1 12 0 11)) x1) 12 0 9 = aI (μ1 12 0 9)) ?_
        refine aw_is (j := tn (μ1 12 0 11)) dX12_read_49 rfl (fun _ => rfl) h.1 rfl ?_
        replace h := h.2
        refine aw_iconst (v := (0 : Int32)) dX12_read_50 rfl ?_
        refine aw_istore_n (ls' := [aR 12 0, aI x1, aI (0 : Int32)]) dX12_read_51 (by decide) rfl rfl ?_
        exact aw_wkk h (wk_e (wk_x (wk_e wk_n)))
      · replace h := h.2 c0
        refine aw_iconst (v := (-1 : Int32)) dX12_read_25 rfl ?_
        exact aw_iret dX12_read_26 rfl rfl ⟨_, rfl, h⟩
theorem u_X12_read_52 {Γ : cx_T} {μ : mH} {x2 : Int32} {Q : Int32 → mH → Prop} (h : ((μ 12 0 9) ≤ x2 → (Q (((μ 12 0 11) + (1 : Int32)) - (1 : Int32)) (sto (sto μ 12 0 9 (0 : Int32)) 12 0 11 ((μ 12 0 11) + (1 : Int32))))) ∧ (¬ (μ 12 0 9) ≤ x2 → (vp_in x2 320 ∧ (vp_in (((320 : Int32) * (μ 12 0 11)) + x2) 3200 ∧ (aw Γ M_X12_read 52 [aR 12 0, aX, aI (x2 + (1 : Int32))] [] (sto μ 46 0 (tn (((320 : Int32) * (μ 12 0 11)) + x2)) (μ 43 0 (tn x2))) (rI Q)))))) : aw Γ M_X12_read 52 [aR 12 0, aX, aI x2] [] μ (rI Q) := by
  refine aw_iload_n dX12_read_52 rfl ?_
  refine aw_aload_n dX12_read_53 rfl ?_
  refine aw_get dX12_read_54 rfl fk_RX12_178 (look_I rfl : look μ 12 0 9 = aI (μ 12 0 9)) ?_
  refine aw_icmp_ge (tgt := 87) dX12_read_57 (by decide) (fun c0 => ?_) (fun c0 => ?_)
  · replace h := h.1 c0
    refine aw_aload_n dX12_read_87 rfl ?_
    refine aw_iconst (v := (0 : Int32)) dX12_read_88 rfl ?_
    refine aw_putI dX12_read_89 rfl fk_RX12_178 (fun r h => by cases h; rfl) rfl rfl ?_
    refine aw_aload_n dX12_read_92 rfl ?_
    refine aw_dup dX12_read_93 (fun _ => rfl) ?_
    refine aw_get dX12_read_94 rfl fk_RX12_175 ((look_I rfl).trans (congrArg aI ((sto_s (by decide)).trans (rfl))) : look (sto μ 12 0 9 (0 : Int32)) 12 0 11 = aI (μ 12 0 11)) ?_
    refine aw_iconst (v := (1 : Int32)) dX12_read_97 rfl ?_
    refine aw_iadd dX12_read_98 ?_
    refine aw_putI dX12_read_99 rfl fk_RX12_175 (fun r h => by cases h; rfl) rfl rfl ?_
    refine aw_aload_n dX12_read_102 rfl ?_
    refine aw_get dX12_read_103 rfl fk_RX12_175 ((look_I rfl).trans (congrArg aI (sto_eq)) : look (sto (sto μ 12 0 9 (0 : Int32)) 12 0 11 ((μ 12 0 11) + (1 : Int32))) 12 0 11 = aI ((μ 12 0 11) + (1 : Int32))) ?_
    refine aw_iconst (v := (1 : Int32)) dX12_read_106 rfl ?_
    refine aw_isub dX12_read_107 ?_
    exact aw_iret dX12_read_108 rfl rfl ⟨_, rfl, h⟩
  · replace h := h.2 c0
    refine aw_aload_n dX12_read_60 rfl ?_
    refine aw_get dX12_read_61 rfl fk_RX12_29 (look_R rfl rfl : look _ 12 0 14 = aR 46 0) ?_
    refine aw_sipush (v := (320 : Int32)) dX12_read_64 rfl ?_
    refine aw_aload_n dX12_read_67 rfl ?_
    refine aw_get dX12_read_68 rfl fk_RX12_175 (look_I rfl : look μ 12 0 11 = aI (μ 12 0 11)) ?_
    refine aw_imul dX12_read_71 ?_
    refine aw_iload_n dX12_read_72 rfl ?_
    refine aw_iadd dX12_read_73 ?_
    refine aw_aload_n dX12_read_74 rfl ?_
    refine aw_get dX12_read_75 rfl fk_RX12_20 (look_R rfl rfl : look _ 12 0 10 = aR 43 0) ?_
    refine aw_iload_n dX12_read_78 rfl ?_
    refine aw_ia (j := tn x2) (y := μ 43 0 (tn x2)) dX12_read_79 rfl (fun _ => rfl) h.1 rfl (rfl) ?_
    replace h := h.2
    refine aw_is (j := tn (((320 : Int32) * (μ 12 0 11)) + x2)) dX12_read_80 rfl (fun _ => rfl) h.1 rfl ?_
    replace h := h.2
    refine aw_iinc (v := x2 + (1 : Int32)) (ls' := [aR 12 0, aX, aI (x2 + (1 : Int32))]) dX12_read_81 rfl rfl (by decide) rfl rfl ?_
    refine aw_goto (tgt := 52) dX12_read_84 (by decide) ?_
    exact h
theorem u_X12_turns {Γ : cx_T} {μ : mH} {x1 : Int32} {x2 : Int32} {x3 : Int32} {Q : mH → Prop} (h : (¬ x1 = (-1 : Int32) → (vp_in x1 10 ∧ (aw Γ M_X12_turns 34 [aR 12 0, aI x1, aI x2, aI x3, aI ((16 : Int32) * x2), aI (μ 45 0 (tn x1)), aI (0 : Int32), aX, aX, aX] [] (sto μ 12 0 20 (0 : Int32)) (rV Q)))) ∧ (x1 = (-1 : Int32) → (aw Γ M_X12_turns 34 [aR 12 0, aI x1, aI x2, aI x3, aI ((16 : Int32) * x2), aI (μ 12 0 9), aI (0 : Int32), aX, aX, aX] [] (sto μ 12 0 20 (0 : Int32)) (rV Q)))) : cwv Γ M_X12_turns [aR 12 0, aI x1, aI x2, aI x3] μ Q := by
  refine cw_ofU (ls := [aR 12 0, aI x1, aI x2, aI x3, aX, aX, aX, aX, aX, aX]) (Or.inl (by decide)) rfl (Nat.le_of_ble_eq_true rfl) rfl ?_
  refine aw_aload_n dX12_turns_0 rfl ?_
  refine aw_iconst (v := (0 : Int32)) dX12_turns_1 rfl ?_
  refine aw_putI dX12_turns_2 rfl fk_RX12_185 (fun r h => by cases h; rfl) rfl rfl ?_
  refine aw_bipush (v := (16 : Int32)) dX12_turns_5 rfl ?_
  refine aw_iload_n dX12_turns_7 rfl ?_
  refine aw_imul dX12_turns_8 ?_
  refine aw_istore (ls' := [aR 12 0, aI x1, aI x2, aI x3, aI ((16 : Int32) * x2), aX, aX, aX, aX, aX]) dX12_turns_9 (by decide) rfl rfl ?_
  refine aw_iload_n dX12_turns_11 rfl ?_
  refine aw_iconst (v := (-1 : Int32)) dX12_turns_12 rfl ?_
  refine aw_icmp_ne (tgt := 23) dX12_turns_13 (by decide) (fun c0 => ?_) (fun c0 => ?_)
  · replace h := h.1 c0
    refine aw_aload_n dX12_turns_23 rfl ?_
    refine aw_get dX12_turns_24 rfl fk_RX12_26 (look_R rfl rfl : look _ 12 0 13 = aR 45 0) ?_
    refine aw_iload_n dX12_turns_27 rfl ?_
    refine aw_ia (j := tn x1) (y := μ 45 0 (tn x1)) dX12_turns_28 rfl (fun _ => rfl) h.1 rfl ((sto_K (by decide)).trans (rfl)) ?_
    replace h := h.2
    refine aw_istore (ls' := [aR 12 0, aI x1, aI x2, aI x3, aI ((16 : Int32) * x2), aI (μ 45 0 (tn x1)), aX, aX, aX, aX]) dX12_turns_29 (by decide) rfl rfl ?_
    refine aw_iconst (v := (0 : Int32)) dX12_turns_31 rfl ?_
    refine aw_istore (ls' := [aR 12 0, aI x1, aI x2, aI x3, aI ((16 : Int32) * x2), aI (μ 45 0 (tn x1)), aI (0 : Int32), aX, aX, aX]) dX12_turns_32 (by decide) rfl rfl ?_
    exact h
  · replace h := h.2 c0
    refine aw_aload_n dX12_turns_16 rfl ?_
    refine aw_get dX12_turns_17 rfl fk_RX12_178 ((look_I rfl).trans (congrArg aI ((sto_s (by decide)).trans (rfl))) : look (sto μ 12 0 20 (0 : Int32)) 12 0 9 = aI (μ 12 0 9)) ?_
    refine aw_goto (tgt := 29) dX12_turns_20 (by decide) ?_
    refine aw_istore (ls' := [aR 12 0, aI x1, aI x2, aI x3, aI ((16 : Int32) * x2), aI (μ 12 0 9), aX, aX, aX, aX]) dX12_turns_29 (by decide) rfl rfl ?_
    refine aw_iconst (v := (0 : Int32)) dX12_turns_31 rfl ?_
    refine aw_istore (ls' := [aR 12 0, aI x1, aI x2, aI x3, aI ((16 : Int32) * x2), aI (μ 12 0 9), aI (0 : Int32), aX, aX, aX]) dX12_turns_32 (by decide) rfl rfl ?_
    exact h
theorem u_X12_turns_34 {Γ : cx_T} {μ : mH} {x1 : Int32} {x2 : Int32} {x3 : Int32} {x4 : Int32} {x5 : Int32} {x6 : Int32} {Q : mH → Prop} (h : (x5 ≤ x6 → (Q μ)) ∧ (¬ x5 ≤ x6 → ((¬ x1 = (-1 : Int32) → (vp_in (((320 : Int32) * x1) + x6) 3200 ∧ (aw Γ M_X12_turns 69 [aR 12 0, aI x1, aI x2, aI x3, aI x4, aI x5, aI x6, aX, aX, aX] [aI (μ 46 0 (tn (((320 : Int32) * x1) + x6)))] μ (rV Q)))) ∧ (x1 = (-1 : Int32) → (vp_in x6 320 ∧ (aw Γ M_X12_turns 69 [aR 12 0, aI x1, aI x2, aI x3, aI x4, aI x5, aI x6, aX, aX, aX] [aI (μ 43 0 (tn x6))] μ (rV Q))))))) : aw Γ M_X12_turns 34 [aR 12 0, aI x1, aI x2, aI x3, aI x4, aI x5, aI x6, aX, aX, aX] [] μ (rV Q) := by
  refine aw_iload dX12_turns_34 rfl ?_
  refine aw_iload dX12_turns_36 rfl ?_
  refine aw_icmp_ge (tgt := 233) dX12_turns_38 (by decide) (fun c0 => ?_) (fun c0 => ?_)
  · replace h := h.1 c0
    exact aw_vret dX12_turns_233 rfl h
  · replace h := h.2 c0
    refine aw_iload_n dX12_turns_41 rfl ?_
    refine aw_iconst (v := (-1 : Int32)) dX12_turns_42 rfl ?_
    refine aw_icmp_ne (tgt := 56) dX12_turns_43 (by decide) (fun c0 => ?_) (fun c0 => ?_)
    · replace h := h.1 c0
      refine aw_aload_n dX12_turns_56 rfl ?_
      refine aw_get dX12_turns_57 rfl fk_RX12_29 (look_R rfl rfl : look _ 12 0 14 = aR 46 0) ?_
      refine aw_sipush (v := (320 : Int32)) dX12_turns_60 rfl ?_
      refine aw_iload_n dX12_turns_63 rfl ?_
      refine aw_imul dX12_turns_64 ?_
      refine aw_iload dX12_turns_65 rfl ?_
      refine aw_iadd dX12_turns_67 ?_
      refine aw_ia (j := tn (((320 : Int32) * x1) + x6)) (y := μ 46 0 (tn (((320 : Int32) * x1) + x6))) dX12_turns_68 rfl (fun _ => rfl) h.1 rfl (rfl) ?_
      replace h := h.2
      exact h
    · replace h := h.2 c0
      refine aw_aload_n dX12_turns_46 rfl ?_
      refine aw_get dX12_turns_47 rfl fk_RX12_20 (look_R rfl rfl : look _ 12 0 10 = aR 43 0) ?_
      refine aw_iload dX12_turns_50 rfl ?_
      refine aw_ia (j := tn x6) (y := μ 43 0 (tn x6)) dX12_turns_52 rfl (fun _ => rfl) h.1 rfl (rfl) ?_
      replace h := h.2
      refine aw_goto (tgt := 69) dX12_turns_53 (by decide) ?_
      exact h
theorem u_X12_turns_69 {Γ : cx_T} {μ : mH} {x1 : Int32} {x2 : Int32} {x3 : Int32} {x4 : Int32} {x5 : Int32} {x6 : Int32} {y0 : Int32} {Q : mH → Prop} (h : ¬ ((2 : Int32) * x4) = 0 ∧ (((1 : Int32) ≤ ((((32 : Int32) * y0) + x4) / ((2 : Int32) * x4)) → ((((((32 : Int32) * y0) + x4) / ((2 : Int32) * x4)) ≤ (8 : Int32) → (aw Γ M_X12_turns 115 [aR 12 0, aI x1, aI x2, aI x3, aI x4, aI x5, aI x6, aI y0, aI ((((32 : Int32) * y0) + x4) / ((2 : Int32) * x4)), aI (1 : Int32)] [] μ (rV Q))) ∧ (¬ ((((32 : Int32) * y0) + x4) / ((2 : Int32) * x4)) ≤ (8 : Int32) → (aw Γ M_X12_turns 115 [aR 12 0, aI x1, aI x2, aI x3, aI x4, aI x5, aI x6, aI y0, aI (8 : Int32), aI (1 : Int32)] [] μ (rV Q))))) ∧ (¬ (1 : Int32) ≤ ((((32 : Int32) * y0) + x4) / ((2 : Int32) * x4)) → (aw Γ M_X12_turns 115 [aR 12 0, aI x1, aI x2, aI x3, aI x4, aI x5, aI x6, aI y0, aI (1 : Int32), aI (1 : Int32)] [] μ (rV Q))))) : aw Γ M_X12_turns 69 [aR 12 0, aI x1, aI x2, aI x3, aI x4, aI x5, aI x6, aX, aX, aX] [aI y0] μ (rV Q) := by
  refine aw_istore (ls' := [aR 12 0, aI x1, aI x2, aI x3, aI x4, aI x5, aI x6, aI y0, aX, aX]) dX12_turns_69 (by decide) rfl rfl ?_
  refine aw_bipush (v := (32 : Int32)) dX12_turns_71 rfl ?_
  refine aw_iload dX12_turns_73 rfl ?_
  refine aw_imul dX12_turns_75 ?_
  refine aw_iload dX12_turns_76 rfl ?_
  refine aw_iadd dX12_turns_78 ?_
  refine aw_iconst (v := (2 : Int32)) dX12_turns_79 rfl ?_
  refine aw_iload dX12_turns_80 rfl ?_
  refine aw_imul dX12_turns_82 ?_
  refine aw_idiv dX12_turns_83 h.1 ?_
  replace h := h.2
  refine aw_istore (ls' := [aR 12 0, aI x1, aI x2, aI x3, aI x4, aI x5, aI x6, aI y0, aI ((((32 : Int32) * y0) + x4) / ((2 : Int32) * x4)), aX]) dX12_turns_84 (by decide) rfl rfl ?_
  refine aw_iload dX12_turns_86 rfl ?_
  refine aw_iconst (v := (1 : Int32)) dX12_turns_88 rfl ?_
  refine aw_icmp_ge (tgt := 96) dX12_turns_89 (by decide) (fun c0 => ?_) (fun c0 => ?_)
  · replace h := h.1 c0
    refine aw_iload dX12_turns_96 rfl ?_
    refine aw_bipush (v := (8 : Int32)) dX12_turns_98 rfl ?_
    refine aw_icmp_le (tgt := 108) dX12_turns_100 (by decide) (fun c0 => ?_) (fun c0 => ?_)
    · replace h := h.1 c0
      refine aw_iload dX12_turns_108 rfl ?_
      refine aw_istore (ls' := [aR 12 0, aI x1, aI x2, aI x3, aI x4, aI x5, aI x6, aI y0, aI ((((32 : Int32) * y0) + x4) / ((2 : Int32) * x4)), aX]) dX12_turns_110 (by decide) rfl rfl ?_
      refine aw_iconst (v := (1 : Int32)) dX12_turns_112 rfl ?_
      refine aw_istore (ls' := [aR 12 0, aI x1, aI x2, aI x3, aI x4, aI x5, aI x6, aI y0, aI ((((32 : Int32) * y0) + x4) / ((2 : Int32) * x4)), aI (1 : Int32)]) dX12_turns_113 (by decide) rfl rfl ?_
      exact h
    · replace h := h.2 c0
      refine aw_bipush (v := (8 : Int32)) dX12_turns_103 rfl ?_
      refine aw_goto (tgt := 110) dX12_turns_105 (by decide) ?_
      refine aw_istore (ls' := [aR 12 0, aI x1, aI x2, aI x3, aI x4, aI x5, aI x6, aI y0, aI (8 : Int32), aX]) dX12_turns_110 (by decide) rfl rfl ?_
      refine aw_iconst (v := (1 : Int32)) dX12_turns_112 rfl ?_
      refine aw_istore (ls' := [aR 12 0, aI x1, aI x2, aI x3, aI x4, aI x5, aI x6, aI y0, aI (8 : Int32), aI (1 : Int32)]) dX12_turns_113 (by decide) rfl rfl ?_
      exact h
  · replace h := h.2 c0
    refine aw_iconst (v := (1 : Int32)) dX12_turns_92 rfl ?_
    refine aw_goto (tgt := 110) dX12_turns_93 (by decide) ?_
    refine aw_istore (ls' := [aR 12 0, aI x1, aI x2, aI x3, aI x4, aI x5, aI x6, aI y0, aI (1 : Int32), aX]) dX12_turns_110 (by decide) rfl rfl ?_
    refine aw_iconst (v := (1 : Int32)) dX12_turns_112 rfl ?_
    refine aw_istore (ls' := [aR 12 0, aI x1, aI x2, aI x3, aI x4, aI x5, aI x6, aI y0, aI (1 : Int32), aI (1 : Int32)]) dX12_turns_113 (by decide) rfl rfl ?_
    exact h
theorem u_X12_turns_115 {Γ : cx_T} {μ : mH} {x1 : Int32} {x2 : Int32} {x3 : Int32} {x4 : Int32} {x5 : Int32} {x6 : Int32} {x7 : Int32} {x8 : Int32} {x9 : Int32} {Q : mH → Prop} (h : (x8 ≤ x9 → (vp_in (μ 12 0 20) 2700 ∧ (¬ x8 = 0 ∧ (cwi Γ M_J9_floorDiv_7cf53 [aI (((((16 : Int32) * x7) / x8) - x4) * x3), aI (32 : Int32)] (sto (sto μ 50 0 (tn (μ 12 0 20)) ((1 : Int32) &&& 1)) 12 0 20 ((μ 12 0 20) + (1 : Int32))) (fun r2 μ1 => (((12 : Int32) * x2) ≤ (x4 + r2) → (((x4 + r2) ≤ ((20 : Int32) * x2) → (aw Γ M_X12_turns 34 [aR 12 0, aI x1, aI x2, aI x3, aI (x4 + r2), aI x5, aI (x6 + (1 : Int32)), aX, aX, aX] [] μ1 (rV Q))) ∧ (¬ (x4 + r2) ≤ ((20 : Int32) * x2) → (aw Γ M_X12_turns 34 [aR 12 0, aI x1, aI x2, aI x3, aI ((20 : Int32) * x2), aI x5, aI (x6 + (1 : Int32)), aX, aX, aX] [] μ1 (rV Q))))) ∧ (¬ ((12 : Int32) * x2) ≤ (x4 + r2) → (aw Γ M_X12_turns 34 [aR 12 0, aI x1, aI x2, aI x3, aI ((12 : Int32) * x2), aI x5, aI (x6 + (1 : Int32)), aX, aX, aX] [] μ1 (rV Q)))))))) ∧ (¬ x8 ≤ x9 → (vp_in (μ 12 0 20) 2700 ∧ (aw Γ M_X12_turns 115 [aR 12 0, aI x1, aI x2, aI x3, aI x4, aI x5, aI x6, aI x7, aI x8, aI (x9 + (1 : Int32))] [] (sto (sto μ 50 0 (tn (μ 12 0 20)) ((0 : Int32) &&& 1)) 12 0 20 ((μ 12 0 20) + (1 : Int32))) (rV Q))))) : aw Γ M_X12_turns 115 [aR 12 0, aI x1, aI x2, aI x3, aI x4, aI x5, aI x6, aI x7, aI x8, aI x9] [] μ (rV Q) := by
  refine aw_iload dX12_turns_115 rfl ?_
  refine aw_iload dX12_turns_117 rfl ?_
  refine aw_icmp_ge (tgt := 148) dX12_turns_119 (by decide) (fun c0 => ?_) (fun c0 => ?_)
  · replace h := h.1 c0
    refine aw_aload_n dX12_turns_148 rfl ?_
    refine aw_get dX12_turns_149 rfl fk_RX12_41 (look_R rfl rfl : look _ 12 0 19 = aR 50 0) ?_
    refine aw_aload_n dX12_turns_152 rfl ?_
    refine aw_get dX12_turns_153 rfl fk_RX12_185 (look_I rfl : look μ 12 0 20 = aI (μ 12 0 20)) ?_
    refine aw_iconst (v := (1 : Int32)) dX12_turns_156 rfl ?_
    refine aw_zs (j := tn (μ 12 0 20)) dX12_turns_157 rfl (fun _ => rfl) h.1 rfl ?_
    replace h := h.2
    refine aw_aload_n dX12_turns_158 rfl ?_
    refine aw_dup dX12_turns_159 (fun _ => rfl) ?_
    refine aw_get dX12_turns_160 rfl fk_RX12_185 ((look_I rfl).trans (congrArg aI ((sto_K (by decide)).trans (rfl))) : look (sto μ 50 0 (tn (μ 12 0 20)) ((1 : Int32) &&& 1)) 12 0 20 = aI (μ 12 0 20)) ?_
    refine aw_iconst (v := (1 : Int32)) dX12_turns_163 rfl ?_
    refine aw_iadd dX12_turns_164 ?_
    refine aw_putI dX12_turns_165 rfl fk_RX12_185 (fun r h => by cases h; rfl) rfl rfl ?_
    refine aw_iload dX12_turns_168 rfl ?_
    refine aw_bipush (v := (16 : Int32)) dX12_turns_170 rfl ?_
    refine aw_iload dX12_turns_172 rfl ?_
    refine aw_imul dX12_turns_174 ?_
    refine aw_iload dX12_turns_175 rfl ?_
    refine aw_idiv dX12_turns_177 h.1 ?_
    replace h := h.2
    refine aw_iload dX12_turns_178 rfl ?_
    refine aw_isub dX12_turns_180 ?_
    refine aw_iload_n dX12_turns_181 rfl ?_
    refine aw_imul dX12_turns_182 ?_
    refine aw_bipush (v := (32 : Int32)) dX12_turns_183 rfl ?_
    refine aw_callS (M' := M_J9_floorDiv_7cf53) (vs := [aI (((((16 : Int32) * x7) / x8) - x4) * x3), aI (32 : Int32)]) (st := [aI x4]) dX12_turns_185 mk_J9_floorDiv_7cf53 ms_J9_floorDiv_7cf53 ml_RX12_188 mp_J9_floorDiv_7cf53 rm_X12_turns__J9_floorDiv_7cf53 (Nat.le_of_ble_eq_true rfl) rfl (cw_mono h ?_)
    clear h
    rintro _ μ1 ⟨r2, rfl, h⟩
    show aw Γ M_X12_turns 188 [aR 12 0, aI x1, aI x2, aI x3, aI x4, aI x5, aI x6, aI x7, aI x8, aI x9] [aI r2, aI x4] μ1 (rV Q)
    refine aw_iadd dX12_turns_188 ?_
    refine aw_istore (ls' := [aR 12 0, aI x1, aI x2, aI x3, aI (x4 + r2), aI x5, aI x6, aI x7, aI x8, aI x9]) dX12_turns_189 (by decide) rfl rfl ?_
    refine aw_iload dX12_turns_191 rfl ?_
    refine aw_bipush (v := (12 : Int32)) dX12_turns_193 rfl ?_
    refine aw_iload_n dX12_turns_195 rfl ?_
    refine aw_imul dX12_turns_196 ?_
    refine aw_icmp_ge (tgt := 207) dX12_turns_197 (by decide) (fun c0 => ?_) (fun c0 => ?_)
    · replace h := h.1 c0
      refine aw_iload dX12_turns_207 rfl ?_
      refine aw_bipush (v := (20 : Int32)) dX12_turns_209 rfl ?_
      refine aw_iload_n dX12_turns_211 rfl ?_
      refine aw_imul dX12_turns_212 ?_
      refine aw_icmp_le (tgt := 223) dX12_turns_213 (by decide) (fun c0 => ?_) (fun c0 => ?_)
      · replace h := h.1 c0
        refine aw_iload dX12_turns_223 rfl ?_
        refine aw_istore (ls' := [aR 12 0, aI x1, aI x2, aI x3, aI (x4 + r2), aI x5, aI x6, aI x7, aI x8, aI x9]) dX12_turns_225 (by decide) rfl rfl ?_
        refine aw_iinc (v := x6 + (1 : Int32)) (ls' := [aR 12 0, aI x1, aI x2, aI x3, aI (x4 + r2), aI x5, aI (x6 + (1 : Int32)), aI x7, aI x8, aI x9]) dX12_turns_227 rfl rfl (by decide) rfl rfl ?_
        refine aw_goto (tgt := 34) dX12_turns_230 (by decide) ?_
        exact aw_wkk h (wk_e (wk_e (wk_e (wk_e (wk_e (wk_e (wk_e (wk_x (wk_x (wk_x wk_n))))))))))
      · replace h := h.2 c0
        refine aw_bipush (v := (20 : Int32)) dX12_turns_216 rfl ?_
        refine aw_iload_n dX12_turns_218 rfl ?_
        refine aw_imul dX12_turns_219 ?_
        refine aw_goto (tgt := 225) dX12_turns_220 (by decide) ?_
        refine aw_istore (ls' := [aR 12 0, aI x1, aI x2, aI x3, aI ((20 : Int32) * x2), aI x5, aI x6, aI x7, aI x8, aI x9]) dX12_turns_225 (by decide) rfl rfl ?_
        refine aw_iinc (v := x6 + (1 : Int32)) (ls' := [aR 12 0, aI x1, aI x2, aI x3, aI ((20 : Int32) * x2), aI x5, aI (x6 + (1 : Int32)), aI x7, aI x8, aI x9]) dX12_turns_227 rfl rfl (by decide) rfl rfl ?_
        refine aw_goto (tgt := 34) dX12_turns_230 (by decide) ?_
        exact aw_wkk h (wk_e (wk_e (wk_e (wk_e (wk_e (wk_e (wk_e (wk_x (wk_x (wk_x wk_n))))))))))
    · replace h := h.2 c0
      refine aw_bipush (v := (12 : Int32)) dX12_turns_200 rfl ?_
      refine aw_iload_n dX12_turns_202 rfl ?_
      refine aw_imul dX12_turns_203 ?_
      refine aw_goto (tgt := 225) dX12_turns_204 (by decide) ?_
      refine aw_istore (ls' := [aR 12 0, aI x1, aI x2, aI x3, aI ((12 : Int32) * x2), aI x5, aI x6, aI x7, aI x8, aI x9]) dX12_turns_225 (by decide) rfl rfl ?_
      refine aw_iinc (v := x6 + (1 : Int32)) (ls' := [aR 12 0, aI x1, aI x2, aI x3, aI ((12 : Int32) * x2), aI x5, aI (x6 + (1 : Int32)), aI x7, aI x8, aI x9]) dX12_turns_227 rfl rfl (by decide) rfl rfl ?_
      refine aw_goto (tgt := 34) dX12_turns_230 (by decide) ?_
      exact aw_wkk h (wk_e (wk_e (wk_e (wk_e (wk_e (wk_e (wk_e (wk_x (wk_x (wk_x wk_n))))))))))
  · replace h := h.2 c0
    refine aw_aload_n dX12_turns_122 rfl ?_
    refine aw_get dX12_turns_123 rfl fk_RX12_41 (look_R rfl rfl : look _ 12 0 19 = aR 50 0) ?_
    refine aw_aload_n dX12_turns_126 rfl ?_
    refine aw_get dX12_turns_127 rfl fk_RX12_185 (look_I rfl : look μ 12 0 20 = aI (μ 12 0 20)) ?_
    refine aw_iconst (v := (0 : Int32)) dX12_turns_130 rfl ?_
    refine aw_zs (j := tn (μ 12 0 20)) dX12_turns_131 rfl (fun _ => rfl) h.1 rfl ?_
    replace h := h.2
    refine aw_aload_n dX12_turns_132 rfl ?_
    refine aw_dup dX12_turns_133 (fun _ => rfl) ?_
    refine aw_get dX12_turns_134 rfl fk_RX12_185 ((look_I rfl).trans (congrArg aI ((sto_K (by decide)).trans (rfl))) : look (sto μ 50 0 (tn (μ 12 0 20)) ((0 : Int32) &&& 1)) 12 0 20 = aI (μ 12 0 20)) ?_
    refine aw_iconst (v := (1 : Int32)) dX12_turns_137 rfl ?_
    refine aw_iadd dX12_turns_138 ?_
    refine aw_putI dX12_turns_139 rfl fk_RX12_185 (fun r h => by cases h; rfl) rfl rfl ?_
    refine aw_iinc (v := x9 + (1 : Int32)) (ls' := [aR 12 0, aI x1, aI x2, aI x3, aI x4, aI x5, aI x6, aI x7, aI x8, aI (x9 + (1 : Int32))]) dX12_turns_142 rfl rfl (by decide) rfl rfl ?_
    refine aw_goto (tgt := 115) dX12_turns_145 (by decide) ?_
    exact h
theorem u_X12_raw {Γ : cx_T} {μ : mH} {x1 : Int32} {x2 : Int32} {x3 : Int32} {Q : Int32 → mH → Prop} (h : cwi Γ M_X12_in [aI x1, aI (8 : Int32), aI (60 : Int32)] μ (fun r2 μ1 => (r2 = 0 → (Q (-1 : Int32) μ1)) ∧ (¬ r2 = 0 → (cwi Γ M_X12_in [aI x2, aI (0 : Int32), aI (8 : Int32)] μ1 (fun r4 μ3 => (¬ r4 = 0 → (cwv Γ M_X12_turns [aR 12 0, aI (-1 : Int32), aI x1, aI x2] μ3 (fun μ5 => (¬ x3 = (-1 : Int32) → (cwi Γ M_X12_in [aI x3, aI (0 : Int32), aI ((μ5 12 0 20) - (1 : Int32))] μ5 (fun r7 μ6 => (r7 = 0 → (Q (-1 : Int32) μ6)) ∧ (¬ r7 = 0 → (vp_in x3 2700 ∧ (((μ6 50 0 (tn x3)) = 0 → (Q (0 : Int32) μ6)) ∧ (¬ (μ6 50 0 (tn x3)) = 0 → (Q (1 : Int32) μ6)))))))) ∧ (x3 = (-1 : Int32) → (Q (μ5 12 0 20) μ5))))) ∧ (r4 = 0 → (Q (-1 : Int32) μ3))))))) : cwi Γ M_X12_raw [aR 12 0, aI x1, aI x2, aI x3] μ Q := by
  refine cw_ofU (ls := [aR 12 0, aI x1, aI x2, aI x3]) (Or.inl (by decide)) rfl (Nat.le_of_ble_eq_true rfl) rfl ?_
  refine aw_iload_n dX12_raw_0 rfl ?_
  refine aw_bipush (v := (8 : Int32)) dX12_raw_1 rfl ?_
  refine aw_bipush (v := (60 : Int32)) dX12_raw_3 rfl ?_
  refine aw_callS (M' := M_X12_in) (vs := [aI x1, aI (8 : Int32), aI (60 : Int32)]) (st := []) dX12_raw_5 mk_X12_in ms_X12_in ml_RX12_85 mp_X12_in rm_X12_raw__X12_in (Nat.le_of_ble_eq_true rfl) rfl (cw_mono h ?_)
  clear h
  rintro _ μ1 ⟨r2, rfl, h⟩
  show aw Γ M_X12_raw 8 [aR 12 0, aI x1, aI x2, aI x3] [aI r2] μ1 (rI Q)
  refine aw_if_eq (tgt := 21) dX12_raw_8 (by decide) (fun c0 => ?_) (fun c0 => ?_)
  · replace h := h.1 c0
    refine aw_iconst (v := (-1 : Int32)) dX12_raw_21 rfl ?_
    exact aw_iret dX12_raw_22 rfl rfl ⟨_, rfl, h⟩
  · replace h := h.2 c0
    refine aw_iload_n dX12_raw_11 rfl ?_
    refine aw_iconst (v := (0 : Int32)) dX12_raw_12 rfl ?_
    refine aw_bipush (v := (8 : Int32)) dX12_raw_13 rfl ?_
    refine aw_callS (M' := M_X12_in) (vs := [aI x2, aI (0 : Int32), aI (8 : Int32)]) (st := []) dX12_raw_15 mk_X12_in ms_X12_in ml_RX12_85 mp_X12_in rm_X12_raw__X12_in (Nat.le_of_ble_eq_true rfl) rfl (cw_mono h ?_)
    clear h
    rintro _ μ3 ⟨r4, rfl, h⟩
    show aw Γ M_X12_raw 18 [aR 12 0, aI x1, aI x2, aI x3] [aI r4] μ3 (rI Q)
    refine aw_if_ne (tgt := 23) dX12_raw_18 (by decide) (fun c0 => ?_) (fun c0 => ?_)
    · replace h := h.1 c0
      refine aw_aload_n dX12_raw_23 rfl ?_
      refine aw_iconst (v := (-1 : Int32)) dX12_raw_24 rfl ?_
      refine aw_iload_n dX12_raw_25 rfl ?_
      refine aw_iload_n dX12_raw_26 rfl ?_
      refine aw_callV (M' := M_X12_turns) (K := 12) (i := 0) (vs := [aI (-1 : Int32), aI x1, aI x2]) (st := []) dX12_raw_27 mk_X12_turns mi_X12_turns ml_RX12_194 mp_X12_turns rc_12 rm_X12_raw__X12_turns (Nat.le_of_ble_eq_true rfl) rfl (cw_mono h ?_)
      clear h
      intro _ μ5 h
      show aw Γ M_X12_raw 30 [aR 12 0, aI x1, aI x2, aI x3] [] μ5 (rI Q)
      refine aw_iload_n dX12_raw_30 rfl ?_
      refine aw_iconst (v := (-1 : Int32)) dX12_raw_31 rfl ?_
      refine aw_icmp_ne (tgt := 42) dX12_raw_32 (by decide) (fun c0 => ?_) (fun c0 => ?_)
      · replace h := h.1 c0
        refine aw_iload_n dX12_raw_42 rfl ?_
        refine aw_iconst (v := (0 : Int32)) dX12_raw_43 rfl ?_
        refine aw_aload_n dX12_raw_44 rfl ?_
        refine aw_get dX12_raw_45 rfl fk_RX12_185 (look_I rfl : look μ5 12 0 20 = aI (μ5 12 0 20)) ?_
        refine aw_iconst (v := (1 : Int32)) dX12_raw_48 rfl ?_
        refine aw_isub dX12_raw_49 ?_
        refine aw_callS (M' := M_X12_in) (vs := [aI x3, aI (0 : Int32), aI ((μ5 12 0 20) - (1 : Int32))]) (st := []) dX12_raw_50 mk_X12_in ms_X12_in ml_RX12_85 mp_X12_in rm_X12_raw__X12_in (Nat.le_of_ble_eq_true rfl) rfl (cw_mono h ?_)
        clear h
        rintro _ μ6 ⟨r7, rfl, h⟩
        show aw Γ M_X12_raw 53 [aR 12 0, aI x1, aI x2, aI x3] [aI r7] μ6 (rI Q)
        refine aw_if_eq (tgt := 73) dX12_raw_53 (by decide) (fun c0 => ?_) (fun c0 => ?_)
        · replace h := h.1 c0
          refine aw_iconst (v := (-1 : Int32)) dX12_raw_73 rfl ?_
          exact aw_iret dX12_raw_74 rfl rfl ⟨_, rfl, h⟩
        · replace h := h.2 c0
          refine aw_aload_n dX12_raw_56 rfl ?_
          refine aw_get dX12_raw_57 rfl fk_RX12_41 (look_R rfl rfl : look _ 12 0 19 = aR 50 0) ?_
          refine aw_iload_n dX12_raw_60 rfl ?_
          refine aw_za (j := tn x3) (y := μ6 50 0 (tn x3)) dX12_raw_61 rfl (fun _ => rfl) h.1 rfl (rfl) ?_
          replace h := h.2
          refine aw_if_eq (tgt := 69) dX12_raw_62 (by decide) (fun c0 => ?_) (fun c0 => ?_)
          · replace h := h.1 c0
            refine aw_iconst (v := (0 : Int32)) dX12_raw_69 rfl ?_
            refine aw_goto (tgt := 74) dX12_raw_70 (by decide) ?_
            exact aw_iret dX12_raw_74 rfl rfl ⟨_, rfl, h⟩
          · replace h := h.2 c0
            refine aw_iconst (v := (1 : Int32)) dX12_raw_65 rfl ?_
            refine aw_goto (tgt := 74) dX12_raw_66 (by decide) ?_
            exact aw_iret dX12_raw_74 rfl rfl ⟨_, rfl, h⟩
      · replace h := h.2 c0
        refine aw_aload_n dX12_raw_35 rfl ?_
        refine aw_get dX12_raw_36 rfl fk_RX12_185 (look_I rfl : look μ5 12 0 20 = aI (μ5 12 0 20)) ?_
        refine aw_goto (tgt := 74) dX12_raw_39 (by decide) ?_
        exact aw_iret dX12_raw_74 rfl rfl ⟨_, rfl, h⟩
    · replace h := h.2 c0
      refine aw_iconst (v := (-1 : Int32)) dX12_raw_21 rfl ?_
      exact aw_iret dX12_raw_22 rfl rfl ⟨_, rfl, h⟩
theorem u_X12_many {Γ : cx_T} {μ : mH}  {Q : Int32 → mH → Prop} (h : Q ((4 : Int32) + (μ 42 0 4)) μ) : cwi Γ M_X12_many [aR 12 0] μ Q := by
  refine cw_ofU (ls := [aR 12 0]) (Or.inl (by decide)) rfl (Nat.le_of_ble_eq_true rfl) rfl ?_
  refine aw_iconst (v := (4 : Int32)) dX12_many_0 rfl ?_
  refine aw_aload_n dX12_many_1 rfl ?_
  refine aw_get dX12_many_2 rfl fk_RX12_17 (look_R rfl rfl : look _ 12 0 7 = aR 42 0) ?_
  refine aw_iconst (v := (4 : Int32)) dX12_many_5 rfl ?_
  refine aw_ia (j := 4) (y := μ 42 0 4) dX12_many_6 rfl (fun _ => rfl) (by unfold vp_in; decide) (by decide) (rfl) ?_
  refine aw_iadd dX12_many_7 ?_
  exact aw_iret dX12_many_8 rfl rfl ⟨_, rfl, h⟩
theorem u_X12_bitOf {Γ : cx_T} {μ : mH} {x0 : Int32} {x1 : Int32} {Q : Int32 → mH → Prop} (h : Q ((x0 >>> (x1 &&& 31)) &&& (1 : Int32)) μ) : cwi Γ M_X12_bitOf [aI x0, aI x1] μ Q := by
  refine cw_ofU (ls := [aI x0, aI x1]) (Or.inl (by decide)) rfl (Nat.le_of_ble_eq_true rfl) rfl ?_
  refine aw_iload_n dX12_bitOf_0 rfl ?_
  refine aw_iload_n dX12_bitOf_1 rfl ?_
  refine aw_ishr dX12_bitOf_2 ?_
  refine aw_iconst (v := (1 : Int32)) dX12_bitOf_3 rfl ?_
  refine aw_iand dX12_bitOf_4 ?_
  exact aw_iret dX12_bitOf_5 rfl rfl ⟨_, rfl, h⟩
theorem u_X12_isMark {Γ : cx_T} {μ : mH} {x1 : Int32} {Q : Int32 → mH → Prop} (h : aw Γ M_X12_isMark 20 [aR 12 0, aI x1, aI (((256 : Int32) * (μ 42 0 2)) + (μ 42 0 3)), aI (0 : Int32)] [] μ (rI Q)) : cwi Γ M_X12_isMark [aR 12 0, aI x1] μ Q := by
  refine cw_ofU (ls := [aR 12 0, aI x1, aX, aX]) (Or.inl (by decide)) rfl (Nat.le_of_ble_eq_true rfl) rfl ?_
  refine aw_sipush (v := (256 : Int32)) dX12_isMark_0 rfl ?_
  refine aw_aload_n dX12_isMark_3 rfl ?_
  refine aw_get dX12_isMark_4 rfl fk_RX12_17 (look_R rfl rfl : look _ 12 0 7 = aR 42 0) ?_
  refine aw_iconst (v := (2 : Int32)) dX12_isMark_7 rfl ?_
  refine aw_ia (j := 2) (y := μ 42 0 2) dX12_isMark_8 rfl (fun _ => rfl) (by unfold vp_in; decide) (by decide) (rfl) ?_
  refine aw_imul dX12_isMark_9 ?_
  refine aw_aload_n dX12_isMark_10 rfl ?_
  refine aw_get dX12_isMark_11 rfl fk_RX12_17 (look_R rfl rfl : look _ 12 0 7 = aR 42 0) ?_
  refine aw_iconst (v := (3 : Int32)) dX12_isMark_14 rfl ?_
  refine aw_ia (j := 3) (y := μ 42 0 3) dX12_isMark_15 rfl (fun _ => rfl) (by unfold vp_in; decide) (by decide) (rfl) ?_
  refine aw_iadd dX12_isMark_16 ?_
  refine aw_istore_n (ls' := [aR 12 0, aI x1, aI (((256 : Int32) * (μ 42 0 2)) + (μ 42 0 3)), aX]) dX12_isMark_17 (by decide) rfl rfl ?_
  refine aw_iconst (v := (0 : Int32)) dX12_isMark_18 rfl ?_
  refine aw_istore_n (ls' := [aR 12 0, aI x1, aI (((256 : Int32) * (μ 42 0 2)) + (μ 42 0 3)), aI (0 : Int32)]) dX12_isMark_19 (by decide) rfl rfl ?_
  exact h
theorem u_X12_isMark_20 {Γ : cx_T} {μ : mH} {x1 : Int32} {x2 : Int32} {x3 : Int32} {Q : Int32 → mH → Prop} (h : ((16 : Int32) ≤ x3 → (Q (1 : Int32) μ)) ∧ (¬ (16 : Int32) ≤ x3 → (vp_in (x1 + x3) 2700 ∧ (cwi Γ M_X12_bitOf [aI x2, aI ((15 : Int32) - x3)] μ (fun r2 μ1 => (¬ r2 = (1 : Int32) → (((μ 50 0 (tn (x1 + x3))) = (0 : Int32) → (aw Γ M_X12_isMark 20 [aR 12 0, aI x1, aI x2, aI (x3 + (1 : Int32))] [] μ1 (rI Q))) ∧ (¬ (μ 50 0 (tn (x1 + x3))) = (0 : Int32) → (Q (0 : Int32) μ1)))) ∧ (r2 = (1 : Int32) → (((μ 50 0 (tn (x1 + x3))) = (1 : Int32) → (aw Γ M_X12_isMark 20 [aR 12 0, aI x1, aI x2, aI (x3 + (1 : Int32))] [] μ1 (rI Q))) ∧ (¬ (μ 50 0 (tn (x1 + x3))) = (1 : Int32) → (Q (0 : Int32) μ1))))))))) : aw Γ M_X12_isMark 20 [aR 12 0, aI x1, aI x2, aI x3] [] μ (rI Q) := by
  refine aw_iload_n dX12_isMark_20 rfl ?_
  refine aw_bipush (v := (16 : Int32)) dX12_isMark_21 rfl ?_
  refine aw_icmp_ge (tgt := 62) dX12_isMark_23 (by decide) (fun c0 => ?_) (fun c0 => ?_)
  · replace h := h.1 c0
    refine aw_iconst (v := (1 : Int32)) dX12_isMark_62 rfl ?_
    exact aw_iret (ty := .boolean) dX12_isMark_63 rfl (by decide) ⟨_, rfl, h⟩
  · replace h := h.2 c0
    refine aw_aload_n dX12_isMark_26 rfl ?_
    refine aw_get dX12_isMark_27 rfl fk_RX12_41 (look_R rfl rfl : look _ 12 0 19 = aR 50 0) ?_
    refine aw_iload_n dX12_isMark_30 rfl ?_
    refine aw_iload_n dX12_isMark_31 rfl ?_
    refine aw_iadd dX12_isMark_32 ?_
    refine aw_za (j := tn (x1 + x3)) (y := μ 50 0 (tn (x1 + x3))) dX12_isMark_33 rfl (fun _ => rfl) h.1 rfl (rfl) ?_
    replace h := h.2
    refine aw_iload_n dX12_isMark_34 rfl ?_
    refine aw_bipush (v := (15 : Int32)) dX12_isMark_35 rfl ?_
    refine aw_iload_n dX12_isMark_37 rfl ?_
    refine aw_isub dX12_isMark_38 ?_
    refine aw_callS (M' := M_X12_bitOf) (vs := [aI x2, aI ((15 : Int32) - x3)]) (st := [aI (μ 50 0 (tn (x1 + x3)))]) dX12_isMark_39 mk_X12_bitOf ms_X12_bitOf ml_RX12_198 mp_X12_bitOf rm_X12_isMark__X12_bitOf (Nat.le_of_ble_eq_true rfl) rfl (cw_mono h ?_)
    clear h
    rintro _ μ1 ⟨r2, rfl, h⟩
    show aw Γ M_X12_isMark 42 [aR 12 0, aI x1, aI x2, aI x3] [aI r2, aI (μ 50 0 (tn (x1 + x3)))] μ1 (rI Q)
    refine aw_iconst (v := (1 : Int32)) dX12_isMark_42 rfl ?_
    refine aw_icmp_ne (tgt := 50) dX12_isMark_43 (by decide) (fun c0 => ?_) (fun c0 => ?_)
    · replace h := h.1 c0
      refine aw_iconst (v := (0 : Int32)) dX12_isMark_50 rfl ?_
      refine aw_icmp_eq (tgt := 56) dX12_isMark_51 (by decide) (fun c0 => ?_) (fun c0 => ?_)
      · replace h := h.1 c0
        refine aw_iinc (v := x3 + (1 : Int32)) (ls' := [aR 12 0, aI x1, aI x2, aI (x3 + (1 : Int32))]) dX12_isMark_56 rfl rfl (by decide) rfl rfl ?_
        refine aw_goto (tgt := 20) dX12_isMark_59 (by decide) ?_
        exact h
      · replace h := h.2 c0
        refine aw_iconst (v := (0 : Int32)) dX12_isMark_54 rfl ?_
        exact aw_iret (ty := .boolean) dX12_isMark_55 rfl (by decide) ⟨_, rfl, h⟩
    · replace h := h.2 c0
      refine aw_iconst (v := (1 : Int32)) dX12_isMark_46 rfl ?_
      refine aw_goto (tgt := 51) dX12_isMark_47 (by decide) ?_
      refine aw_icmp_eq (tgt := 56) dX12_isMark_51 (by decide) (fun c0 => ?_) (fun c0 => ?_)
      · replace h := h.1 c0
        refine aw_iinc (v := x3 + (1 : Int32)) (ls' := [aR 12 0, aI x1, aI x2, aI (x3 + (1 : Int32))]) dX12_isMark_56 rfl rfl (by decide) rfl rfl ?_
        refine aw_goto (tgt := 20) dX12_isMark_59 (by decide) ?_
        exact h
      · replace h := h.2 c0
        refine aw_iconst (v := (0 : Int32)) dX12_isMark_54 rfl ?_
        exact aw_iret (ty := .boolean) dX12_isMark_55 rfl (by decide) ⟨_, rfl, h⟩
theorem u_X12_finds {Γ : cx_T} {μ : mH} {x1 : Int32} {x2 : Int32} {x3 : Int32} {Q : mH → Prop} (h : cwv Γ M_X12_turns [aR 12 0, aI x1, aI x2, aI x3] μ (fun μ1 => cwi Γ M_X12_many [aR 12 0] (sto μ1 12 0 21 (0 : Int32)) (fun r3 μ2 => aw Γ M_X12_finds 27 [aR 12 0, aX, aX, aX, aI (0 : Int32), aI ((16 : Int32) + ((16 : Int32) * r3))] [] μ2 (rV Q)))) : cwv Γ M_X12_finds [aR 12 0, aI x1, aI x2, aI x3] μ Q := by
  refine cw_ofU (ls := [aR 12 0, aI x1, aI x2, aI x3, aX, aX]) (Or.inl (by decide)) rfl (Nat.le_of_ble_eq_true rfl) rfl ?_
  refine aw_aload_n dX12_finds_0 rfl ?_
  refine aw_iload_n dX12_finds_1 rfl ?_
  refine aw_iload_n dX12_finds_2 rfl ?_
  refine aw_iload_n dX12_finds_3 rfl ?_
  refine aw_callV (M' := M_X12_turns) (K := 12) (i := 0) (vs := [aI x1, aI x2, aI x3]) (st := []) dX12_finds_4 mk_X12_turns mi_X12_turns ml_RX12_194 mp_X12_turns rc_12 rm_X12_finds__X12_turns (Nat.le_of_ble_eq_true rfl) rfl (cw_mono h ?_)
  clear h
  intro _ μ1 h
  show aw Γ M_X12_finds 7 [aR 12 0, aI x1, aI x2, aI x3, aX, aX] [] μ1 (rV Q)
  refine aw_aload_n dX12_finds_7 rfl ?_
  refine aw_iconst (v := (0 : Int32)) dX12_finds_8 rfl ?_
  refine aw_putI dX12_finds_9 rfl fk_RX12_201 (fun r h => by cases h; rfl) rfl rfl ?_
  refine aw_iconst (v := (0 : Int32)) dX12_finds_12 rfl ?_
  refine aw_istore (ls' := [aR 12 0, aI x1, aI x2, aI x3, aI (0 : Int32), aX]) dX12_finds_13 (by decide) rfl rfl ?_
  refine aw_bipush (v := (16 : Int32)) dX12_finds_15 rfl ?_
  refine aw_bipush (v := (16 : Int32)) dX12_finds_17 rfl ?_
  refine aw_aload_n dX12_finds_19 rfl ?_
  refine aw_callV (M' := M_X12_many) (K := 12) (i := 0) (vs := []) (st := [aI (16 : Int32), aI (16 : Int32)]) dX12_finds_20 mk_X12_many mi_X12_many ml_RX12_204 mp_X12_many rc_12 rm_X12_finds__X12_many (Nat.le_of_ble_eq_true rfl) rfl (cw_mono h ?_)
  clear h
  rintro _ μ2 ⟨r3, rfl, h⟩
  show aw Γ M_X12_finds 23 [aR 12 0, aI x1, aI x2, aI x3, aI (0 : Int32), aX] [aI r3, aI (16 : Int32), aI (16 : Int32)] μ2 (rV Q)
  refine aw_imul dX12_finds_23 ?_
  refine aw_iadd dX12_finds_24 ?_
  refine aw_istore (ls' := [aR 12 0, aI x1, aI x2, aI x3, aI (0 : Int32), aI ((16 : Int32) + ((16 : Int32) * r3))]) dX12_finds_25 (by decide) rfl rfl ?_
  exact aw_wkk h (wk_e (wk_x (wk_x (wk_x (wk_e (wk_e wk_n))))))
theorem u_X12_finds_27 {Γ : cx_T} {μ : mH} {x4 : Int32} {x5 : Int32} {Q : mH → Prop} (h : ((μ 12 0 20) < (x4 + x5) → (Q μ)) ∧ (¬ (μ 12 0 20) < (x4 + x5) → (((8 : Int32) ≤ (μ 12 0 21) → (Q μ)) ∧ (¬ (8 : Int32) ≤ (μ 12 0 21) → (cwi Γ M_X12_isMark [aR 12 0, aI x4] μ (fun r2 μ1 => (¬ r2 = 0 → (cwv Γ M_X12_takes [aR 12 0, aI (x4 + (16 : Int32))] μ1 (fun μ3 => aw Γ M_X12_finds 27 [aR 12 0, aX, aX, aX, aI (x4 + x5), aI x5] [] μ3 (rV Q)))) ∧ (r2 = 0 → (aw Γ M_X12_finds 27 [aR 12 0, aX, aX, aX, aI (x4 + (1 : Int32)), aI x5] [] μ1 (rV Q))))))))) : aw Γ M_X12_finds 27 [aR 12 0, aX, aX, aX, aI x4, aI x5] [] μ (rV Q) := by
  refine aw_iload dX12_finds_27 rfl ?_
  refine aw_iload dX12_finds_29 rfl ?_
  refine aw_iadd dX12_finds_31 ?_
  refine aw_aload_n dX12_finds_32 rfl ?_
  refine aw_get dX12_finds_33 rfl fk_RX12_185 (look_I rfl : look μ 12 0 20 = aI (μ 12 0 20)) ?_
  refine aw_icmp_gt (tgt := 82) dX12_finds_36 (by decide) (fun c0 => ?_) (fun c0 => ?_)
  · replace h := h.1 c0
    exact aw_vret dX12_finds_82 rfl h
  · replace h := h.2 c0
    refine aw_aload_n dX12_finds_39 rfl ?_
    refine aw_get dX12_finds_40 rfl fk_RX12_201 (look_I rfl : look μ 12 0 21 = aI (μ 12 0 21)) ?_
    refine aw_bipush (v := (8 : Int32)) dX12_finds_43 rfl ?_
    refine aw_icmp_ge (tgt := 82) dX12_finds_45 (by decide) (fun c0 => ?_) (fun c0 => ?_)
    · replace h := h.1 c0
      exact aw_vret dX12_finds_82 rfl h
    · replace h := h.2 c0
      refine aw_aload_n dX12_finds_48 rfl ?_
      refine aw_iload dX12_finds_49 rfl ?_
      refine aw_callV (M' := M_X12_isMark) (K := 12) (i := 0) (vs := [aI x4]) (st := []) dX12_finds_51 mk_X12_isMark mi_X12_isMark ml_RX12_207 mp_X12_isMark rc_12 rm_X12_finds__X12_isMark (Nat.le_of_ble_eq_true rfl) rfl (cw_mono h ?_)
      clear h
      rintro _ μ1 ⟨r2, rfl, h⟩
      show aw Γ M_X12_finds 54 [aR 12 0, aX, aX, aX, aI x4, aI x5] [aI r2] μ1 (rV Q)
      refine aw_if_ne (tgt := 63) dX12_finds_54 (by decide) (fun c0 => ?_) (fun c0 => ?_)
      · replace h := h.1 c0
        refine aw_aload_n dX12_finds_63 rfl ?_
        refine aw_iload dX12_finds_64 rfl ?_
        refine aw_bipush (v := (16 : Int32)) dX12_finds_66 rfl ?_
        refine aw_iadd dX12_finds_68 ?_
        refine aw_callV (M' := M_X12_takes) (K := 12) (i := 0) (vs := [aI (x4 + (16 : Int32))]) (st := []) dX12_finds_69 mk_X12_takes mi_X12_takes ml_RX12_210 mp_X12_takes rc_12 rm_X12_finds__X12_takes (Nat.le_of_ble_eq_true rfl) rfl (cw_mono h ?_)
        clear h
        intro _ μ3 h
        show aw Γ M_X12_finds 72 [aR 12 0, aX, aX, aX, aI x4, aI x5] [] μ3 (rV Q)
        refine aw_iload dX12_finds_72 rfl ?_
        refine aw_iload dX12_finds_74 rfl ?_
        refine aw_iadd dX12_finds_76 ?_
        refine aw_istore (ls' := [aR 12 0, aX, aX, aX, aI (x4 + x5), aI x5]) dX12_finds_77 (by decide) rfl rfl ?_
        refine aw_goto (tgt := 27) dX12_finds_79 (by decide) ?_
        exact h
      · replace h := h.2 c0
        refine aw_iinc (v := x4 + (1 : Int32)) (ls' := [aR 12 0, aX, aX, aX, aI (x4 + (1 : Int32)), aI x5]) dX12_finds_57 rfl rfl (by decide) rfl rfl ?_
        refine aw_goto (tgt := 27) dX12_finds_60 (by decide) ?_
        exact h
theorem u_X12_takes {Γ : cx_T} {μ : mH} {x1 : Int32} {Q : mH → Prop} (h : vp_in (μ 12 0 21) 8 ∧ (vp_in (μ 12 0 21) 8 ∧ (cwi Γ M_X12_bitOf [aI (μ 42 0 3), aI (0 : Int32)] (sto (sto μ 51 0 (tn (μ 12 0 21)) x1) 53 0 (tn (μ 12 0 21)) (0 : Int32)) (fun r2 μ1 => aw Γ M_X12_takes 33 [aR 12 0, aI x1, aI r2, aI (0 : Int32), aX, aX, aX, aX] [] μ1 (rV Q))))) : cwv Γ M_X12_takes [aR 12 0, aI x1] μ Q := by
  refine cw_ofU (ls := [aR 12 0, aI x1, aX, aX, aX, aX, aX, aX]) (Or.inl (by decide)) rfl (Nat.le_of_ble_eq_true rfl) rfl ?_
  refine aw_aload_n dX12_takes_0 rfl ?_
  refine aw_get dX12_takes_1 rfl fk_RX12_45 (look_R rfl rfl : look _ 12 0 22 = aR 51 0) ?_
  refine aw_aload_n dX12_takes_4 rfl ?_
  refine aw_get dX12_takes_5 rfl fk_RX12_201 (look_I rfl : look μ 12 0 21 = aI (μ 12 0 21)) ?_
  refine aw_iload_n dX12_takes_8 rfl ?_
  refine aw_is (j := tn (μ 12 0 21)) dX12_takes_9 rfl (fun _ => rfl) h.1 rfl ?_
  replace h := h.2
  refine aw_aload_n dX12_takes_10 rfl ?_
  refine aw_get dX12_takes_11 rfl fk_RX12_51 (look_R rfl rfl : look _ 12 0 24 = aR 53 0) ?_
  refine aw_aload_n dX12_takes_14 rfl ?_
  refine aw_get dX12_takes_15 rfl fk_RX12_201 ((look_I rfl).trans (congrArg aI ((sto_K (by decide)).trans (rfl))) : look (sto μ 51 0 (tn (μ 12 0 21)) x1) 12 0 21 = aI (μ 12 0 21)) ?_
  refine aw_iconst (v := (0 : Int32)) dX12_takes_18 rfl ?_
  refine aw_is (j := tn (μ 12 0 21)) dX12_takes_19 rfl (fun _ => rfl) h.1 rfl ?_
  replace h := h.2
  refine aw_aload_n dX12_takes_20 rfl ?_
  refine aw_get dX12_takes_21 rfl fk_RX12_17 (look_R rfl rfl : look _ 12 0 7 = aR 42 0) ?_
  refine aw_iconst (v := (3 : Int32)) dX12_takes_24 rfl ?_
  refine aw_ia (j := 3) (y := μ 42 0 3) dX12_takes_25 rfl (fun _ => rfl) (by unfold vp_in; decide) (by decide) ((sto_K (by decide)).trans ((sto_K (by decide)).trans (rfl))) ?_
  refine aw_iconst (v := (0 : Int32)) dX12_takes_26 rfl ?_
  refine aw_callS (M' := M_X12_bitOf) (vs := [aI (μ 42 0 3), aI (0 : Int32)]) (st := []) dX12_takes_27 mk_X12_bitOf ms_X12_bitOf ml_RX12_198 mp_X12_bitOf rm_X12_takes__X12_bitOf (Nat.le_of_ble_eq_true rfl) rfl (cw_mono h ?_)
  clear h
  rintro _ μ1 ⟨r2, rfl, h⟩
  show aw Γ M_X12_takes 30 [aR 12 0, aI x1, aX, aX, aX, aX, aX, aX] [aI r2] μ1 (rV Q)
  refine aw_istore_n (ls' := [aR 12 0, aI x1, aI r2, aX, aX, aX, aX, aX]) dX12_takes_30 (by decide) rfl rfl ?_
  refine aw_iconst (v := (0 : Int32)) dX12_takes_31 rfl ?_
  refine aw_istore_n (ls' := [aR 12 0, aI x1, aI r2, aI (0 : Int32), aX, aX, aX, aX]) dX12_takes_32 (by decide) rfl rfl ?_
  exact h
theorem u_X12_takes_33 {Γ : cx_T} {μ : mH} {x1 : Int32} {x2 : Int32} {x3 : Int32} {Q : mH → Prop} (h : cwi Γ M_X12_many [aR 12 0] μ (fun r2 μ1 => (r2 ≤ x3 → (Q (sto μ1 12 0 21 ((μ1 12 0 21) + (1 : Int32))))) ∧ (¬ r2 ≤ x3 → (aw Γ M_X12_takes 47 [aR 12 0, aI x1, aI x2, aI x3, aI (0 : Int32), aI (0 : Int32), aX, aX] [] μ1 (rV Q))))) : aw Γ M_X12_takes 33 [aR 12 0, aI x1, aI x2, aI x3, aX, aX, aX, aX] [] μ (rV Q) := by
  refine aw_iload_n dX12_takes_33 rfl ?_
  refine aw_aload_n dX12_takes_34 rfl ?_
  refine aw_callV (M' := M_X12_many) (K := 12) (i := 0) (vs := []) (st := [aI x3]) dX12_takes_35 mk_X12_many mi_X12_many ml_RX12_204 mp_X12_many rc_12 rm_X12_takes__X12_many (Nat.le_of_ble_eq_true rfl) rfl (cw_mono h ?_)
  clear h
  rintro _ μ1 ⟨r2, rfl, h⟩
  show aw Γ M_X12_takes 38 [aR 12 0, aI x1, aI x2, aI x3, aX, aX, aX, aX] [aI r2, aI x3] μ1 (rV Q)
  refine aw_icmp_ge (tgt := 184) dX12_takes_38 (by decide) (fun c0 => ?_) (fun c0 => ?_)
  · replace h := h.1 c0
    refine aw_aload_n dX12_takes_184 rfl ?_
    refine aw_dup dX12_takes_185 (fun _ => rfl) ?_
    refine aw_get dX12_takes_186 rfl fk_RX12_201 (look_I rfl : look μ1 12 0 21 = aI (μ1 12 0 21)) ?_
    refine aw_iconst (v := (1 : Int32)) dX12_takes_189 rfl ?_
    refine aw_iadd dX12_takes_190 ?_
    refine aw_putI dX12_takes_191 rfl fk_RX12_201 (fun r h => by cases h; rfl) rfl rfl ?_
    exact aw_vret dX12_takes_194 rfl h
  · replace h := h.2 c0
    refine aw_iconst (v := (0 : Int32)) dX12_takes_41 rfl ?_
    refine aw_istore (ls' := [aR 12 0, aI x1, aI x2, aI x3, aI (0 : Int32), aX, aX, aX]) dX12_takes_42 (by decide) rfl rfl ?_
    refine aw_iconst (v := (0 : Int32)) dX12_takes_44 rfl ?_
    refine aw_istore (ls' := [aR 12 0, aI x1, aI x2, aI x3, aI (0 : Int32), aI (0 : Int32), aX, aX]) dX12_takes_45 (by decide) rfl rfl ?_
    exact h
theorem u_X12_takes_47 {Γ : cx_T} {μ : mH} {x1 : Int32} {x2 : Int32} {x3 : Int32} {x4 : Int32} {x5 : Int32} {Q : mH → Prop} (h : ((8 : Int32) ≤ x5 → (vp_in (((12 : Int32) * (μ 12 0 21)) + x3) 96 ∧ (aw Γ M_X12_takes 33 [aR 12 0, aI x1, aI x2, aI (x3 + (1 : Int32)), aX, aX, aX, aX] [] (sto μ 52 0 (tn (((12 : Int32) * (μ 12 0 21)) + x3)) x4) (rV Q)))) ∧ (¬ (8 : Int32) ≤ x5 → (vp_in ((x1 + ((16 : Int32) * x3)) + ((2 : Int32) * x5)) 2700 ∧ (((μ 50 0 (tn ((x1 + ((16 : Int32) * x3)) + ((2 : Int32) * x5)))) = 0 → (aw Γ M_X12_takes 78 [aR 12 0, aI x1, aI x2, aI x3, aI x4, aI x5, aX, aX] [aI (0 : Int32)] μ (rV Q))) ∧ (¬ (μ 50 0 (tn ((x1 + ((16 : Int32) * x3)) + ((2 : Int32) * x5)))) = 0 → (aw Γ M_X12_takes 78 [aR 12 0, aI x1, aI x2, aI x3, aI x4, aI x5, aX, aX] [aI (1 : Int32)] μ (rV Q))))))) : aw Γ M_X12_takes 47 [aR 12 0, aI x1, aI x2, aI x3, aI x4, aI x5, aX, aX] [] μ (rV Q) := by
  refine aw_iload dX12_takes_47 rfl ?_
  refine aw_bipush (v := (8 : Int32)) dX12_takes_49 rfl ?_
  refine aw_icmp_ge (tgt := 162) dX12_takes_51 (by decide) (fun c0 => ?_) (fun c0 => ?_)
  · replace h := h.1 c0
    refine aw_aload_n dX12_takes_162 rfl ?_
    refine aw_get dX12_takes_163 rfl fk_RX12_48 (look_R rfl rfl : look _ 12 0 23 = aR 52 0) ?_
    refine aw_bipush (v := (12 : Int32)) dX12_takes_166 rfl ?_
    refine aw_aload_n dX12_takes_168 rfl ?_
    refine aw_get dX12_takes_169 rfl fk_RX12_201 (look_I rfl : look μ 12 0 21 = aI (μ 12 0 21)) ?_
    refine aw_imul dX12_takes_172 ?_
    refine aw_iload_n dX12_takes_173 rfl ?_
    refine aw_iadd dX12_takes_174 ?_
    refine aw_iload dX12_takes_175 rfl ?_
    refine aw_is (j := tn (((12 : Int32) * (μ 12 0 21)) + x3)) dX12_takes_177 rfl (fun _ => rfl) h.1 rfl ?_
    replace h := h.2
    refine aw_iinc (v := x3 + (1 : Int32)) (ls' := [aR 12 0, aI x1, aI x2, aI (x3 + (1 : Int32)), aI x4, aI x5, aX, aX]) dX12_takes_178 rfl rfl (by decide) rfl rfl ?_
    refine aw_goto (tgt := 33) dX12_takes_181 (by decide) ?_
    exact aw_wkk h (wk_e (wk_e (wk_e (wk_e (wk_x (wk_x (wk_e (wk_e wk_n))))))))
  · replace h := h.2 c0
    refine aw_aload_n dX12_takes_54 rfl ?_
    refine aw_get dX12_takes_55 rfl fk_RX12_41 (look_R rfl rfl : look _ 12 0 19 = aR 50 0) ?_
    refine aw_iload_n dX12_takes_58 rfl ?_
    refine aw_bipush (v := (16 : Int32)) dX12_takes_59 rfl ?_
    refine aw_iload_n dX12_takes_61 rfl ?_
    refine aw_imul dX12_takes_62 ?_
    refine aw_iadd dX12_takes_63 ?_
    refine aw_iconst (v := (2 : Int32)) dX12_takes_64 rfl ?_
    refine aw_iload dX12_takes_65 rfl ?_
    refine aw_imul dX12_takes_67 ?_
    refine aw_iadd dX12_takes_68 ?_
    refine aw_za (j := tn ((x1 + ((16 : Int32) * x3)) + ((2 : Int32) * x5))) (y := μ 50 0 (tn ((x1 + ((16 : Int32) * x3)) + ((2 : Int32) * x5)))) dX12_takes_69 rfl (fun _ => rfl) h.1 rfl (rfl) ?_
    replace h := h.2
    refine aw_if_eq (tgt := 77) dX12_takes_70 (by decide) (fun c0 => ?_) (fun c0 => ?_)
    · replace h := h.1 c0
      refine aw_iconst (v := (0 : Int32)) dX12_takes_77 rfl ?_
      exact h
    · replace h := h.2 c0
      refine aw_iconst (v := (1 : Int32)) dX12_takes_73 rfl ?_
      refine aw_goto (tgt := 78) dX12_takes_74 (by decide) ?_
      exact h
theorem u_X12_takes_78 {Γ : cx_T} {μ : mH} {x1 : Int32} {x2 : Int32} {x3 : Int32} {x4 : Int32} {x5 : Int32} {y0 : Int32} {Q : mH → Prop} (h : vp_in (((x1 + ((16 : Int32) * x3)) + ((2 : Int32) * x5)) + (1 : Int32)) 2700 ∧ (((μ 50 0 (tn (((x1 + ((16 : Int32) * x3)) + ((2 : Int32) * x5)) + (1 : Int32)))) = 0 → (aw Γ M_X12_takes 106 [aR 12 0, aI x1, aI x2, aI x3, aI x4, aI x5, aI y0, aX] [aI (0 : Int32)] μ (rV Q))) ∧ (¬ (μ 50 0 (tn (((x1 + ((16 : Int32) * x3)) + ((2 : Int32) * x5)) + (1 : Int32)))) = 0 → (aw Γ M_X12_takes 106 [aR 12 0, aI x1, aI x2, aI x3, aI x4, aI x5, aI y0, aX] [aI (1 : Int32)] μ (rV Q))))) : aw Γ M_X12_takes 78 [aR 12 0, aI x1, aI x2, aI x3, aI x4, aI x5, aX, aX] [aI y0] μ (rV Q) := by
  refine aw_istore (ls' := [aR 12 0, aI x1, aI x2, aI x3, aI x4, aI x5, aI y0, aX]) dX12_takes_78 (by decide) rfl rfl ?_
  refine aw_aload_n dX12_takes_80 rfl ?_
  refine aw_get dX12_takes_81 rfl fk_RX12_41 (look_R rfl rfl : look _ 12 0 19 = aR 50 0) ?_
  refine aw_iload_n dX12_takes_84 rfl ?_
  refine aw_bipush (v := (16 : Int32)) dX12_takes_85 rfl ?_
  refine aw_iload_n dX12_takes_87 rfl ?_
  refine aw_imul dX12_takes_88 ?_
  refine aw_iadd dX12_takes_89 ?_
  refine aw_iconst (v := (2 : Int32)) dX12_takes_90 rfl ?_
  refine aw_iload dX12_takes_91 rfl ?_
  refine aw_imul dX12_takes_93 ?_
  refine aw_iadd dX12_takes_94 ?_
  refine aw_iconst (v := (1 : Int32)) dX12_takes_95 rfl ?_
  refine aw_iadd dX12_takes_96 ?_
  refine aw_za (j := tn (((x1 + ((16 : Int32) * x3)) + ((2 : Int32) * x5)) + (1 : Int32))) (y := μ 50 0 (tn (((x1 + ((16 : Int32) * x3)) + ((2 : Int32) * x5)) + (1 : Int32)))) dX12_takes_97 rfl (fun _ => rfl) h.1 rfl (rfl) ?_
  replace h := h.2
  refine aw_if_eq (tgt := 105) dX12_takes_98 (by decide) (fun c0 => ?_) (fun c0 => ?_)
  · replace h := h.1 c0
    refine aw_iconst (v := (0 : Int32)) dX12_takes_105 rfl ?_
    exact h
  · replace h := h.2 c0
    refine aw_iconst (v := (1 : Int32)) dX12_takes_101 rfl ?_
    refine aw_goto (tgt := 106) dX12_takes_102 (by decide) ?_
    exact h
theorem u_X12_takes_106 {Γ : cx_T} {μ : mH} {x1 : Int32} {x2 : Int32} {x3 : Int32} {x4 : Int32} {x5 : Int32} {x6 : Int32} {y0 : Int32} {Q : mH → Prop} (h : vp_in (μ 12 0 21) 8 ∧ ((¬ x2 = 0 → (aw Γ M_X12_takes 134 [aR 12 0, aI x1, aX, aI x3, aI x4, aI x5, aX, aI y0] [aI (0 : Int32), aI x6, aI (μ 53 0 (tn (μ 12 0 21))), aI (μ 12 0 21), aR 53 0] μ (rV Q))) ∧ (x2 = 0 → ((¬ y0 = 0 → (aw Γ M_X12_takes 134 [aR 12 0, aI x1, aX, aI x3, aI x4, aI x5, aX, aI y0] [aI (0 : Int32), aI x6, aI (μ 53 0 (tn (μ 12 0 21))), aI (μ 12 0 21), aR 53 0] μ (rV Q))) ∧ (y0 = 0 → (aw Γ M_X12_takes 134 [aR 12 0, aI x1, aX, aI x3, aI x4, aI x5, aX, aI y0] [aI (1 : Int32), aI x6, aI (μ 53 0 (tn (μ 12 0 21))), aI (μ 12 0 21), aR 53 0] μ (rV Q))))))) : aw Γ M_X12_takes 106 [aR 12 0, aI x1, aI x2, aI x3, aI x4, aI x5, aI x6, aX] [aI y0] μ (rV Q) := by
  refine aw_istore (ls' := [aR 12 0, aI x1, aI x2, aI x3, aI x4, aI x5, aI x6, aI y0]) dX12_takes_106 (by decide) rfl rfl ?_
  refine aw_aload_n dX12_takes_108 rfl ?_
  refine aw_get dX12_takes_109 rfl fk_RX12_51 (look_R rfl rfl : look _ 12 0 24 = aR 53 0) ?_
  refine aw_aload_n dX12_takes_112 rfl ?_
  refine aw_get dX12_takes_113 rfl fk_RX12_201 (look_I rfl : look μ 12 0 21 = aI (μ 12 0 21)) ?_
  refine aw_dup2 dX12_takes_116 (fun _ => rfl) (fun _ => rfl) ?_
  refine aw_ia (j := tn (μ 12 0 21)) (y := μ 53 0 (tn (μ 12 0 21))) dX12_takes_117 rfl (fun _ => rfl) h.1 rfl (rfl) ?_
  replace h := h.2
  refine aw_iload dX12_takes_118 rfl ?_
  refine aw_iload_n dX12_takes_120 rfl ?_
  refine aw_if_ne (tgt := 133) dX12_takes_121 (by decide) (fun c0 => ?_) (fun c0 => ?_)
  · replace h := h.1 c0
    refine aw_iconst (v := (0 : Int32)) dX12_takes_133 rfl ?_
    exact aw_wkk h (wk_e (wk_e (wk_x (wk_e (wk_e (wk_e (wk_x (wk_e wk_n))))))))
  · replace h := h.2 c0
    refine aw_iload dX12_takes_124 rfl ?_
    refine aw_if_ne (tgt := 133) dX12_takes_126 (by decide) (fun c0 => ?_) (fun c0 => ?_)
    · replace h := h.1 c0
      refine aw_iconst (v := (0 : Int32)) dX12_takes_133 rfl ?_
      exact aw_wkk h (wk_e (wk_e (wk_x (wk_e (wk_e (wk_e (wk_x (wk_e wk_n))))))))
    · replace h := h.2 c0
      refine aw_iconst (v := (1 : Int32)) dX12_takes_129 rfl ?_
      refine aw_goto (tgt := 134) dX12_takes_130 (by decide) ?_
      exact aw_wkk h (wk_e (wk_e (wk_x (wk_e (wk_e (wk_e (wk_x (wk_e wk_n))))))))
theorem u_X12_takes_134 {Γ : cx_T} {μ : mH} {x1 : Int32} {x3 : Int32} {x4 : Int32} {x5 : Int32} {x7 : Int32} {y0 : Int32} {y1 : Int32} {y2 : Int32} {y3 : Int32} {Q : mH → Prop} (h : (¬ y1 = y0 → (vp_in y3 8 ∧ (aw Γ M_X12_takes 47 [aR 12 0, aI x1, aI x7, aI x3, aI (((2 : Int32) * x4) + x7), aI (x5 + (1 : Int32)), aX, aX] [] (sto μ 53 0 (tn y3) (y2 + (1 : Int32))) (rV Q)))) ∧ (y1 = y0 → (vp_in y3 8 ∧ (aw Γ M_X12_takes 47 [aR 12 0, aI x1, aI x7, aI x3, aI (((2 : Int32) * x4) + x7), aI (x5 + (1 : Int32)), aX, aX] [] (sto μ 53 0 (tn y3) (y2 + (0 : Int32))) (rV Q))))) : aw Γ M_X12_takes 134 [aR 12 0, aI x1, aX, aI x3, aI x4, aI x5, aX, aI x7] [aI y0, aI y1, aI y2, aI y3, aR 53 0] μ (rV Q) := by
  refine aw_icmp_ne (tgt := 141) dX12_takes_134 (by decide) (fun c0 => ?_) (fun c0 => ?_)
  · replace h := h.1 c0
    refine aw_iconst (v := (1 : Int32)) dX12_takes_141 rfl ?_
    refine aw_iadd dX12_takes_142 ?_
    refine aw_is (j := tn y3) dX12_takes_143 rfl (fun _ => rfl) h.1 rfl ?_
    replace h := h.2
    refine aw_iconst (v := (2 : Int32)) dX12_takes_144 rfl ?_
    refine aw_iload dX12_takes_145 rfl ?_
    refine aw_imul dX12_takes_147 ?_
    refine aw_iload dX12_takes_148 rfl ?_
    refine aw_iadd dX12_takes_150 ?_
    refine aw_istore (ls' := [aR 12 0, aI x1, aX, aI x3, aI (((2 : Int32) * x4) + x7), aI x5, aX, aI x7]) dX12_takes_151 (by decide) rfl rfl ?_
    refine aw_iload dX12_takes_153 rfl ?_
    refine aw_istore_n (ls' := [aR 12 0, aI x1, aI x7, aI x3, aI (((2 : Int32) * x4) + x7), aI x5, aX, aI x7]) dX12_takes_155 (by decide) rfl rfl ?_
    refine aw_iinc (v := x5 + (1 : Int32)) (ls' := [aR 12 0, aI x1, aI x7, aI x3, aI (((2 : Int32) * x4) + x7), aI (x5 + (1 : Int32)), aX, aI x7]) dX12_takes_156 rfl rfl (by decide) rfl rfl ?_
    refine aw_goto (tgt := 47) dX12_takes_159 (by decide) ?_
    exact aw_wkk h (wk_e (wk_e (wk_e (wk_e (wk_e (wk_e (wk_e (wk_x wk_n))))))))
  · replace h := h.2 c0
    refine aw_iconst (v := (0 : Int32)) dX12_takes_137 rfl ?_
    refine aw_goto (tgt := 142) dX12_takes_138 (by decide) ?_
    refine aw_iadd dX12_takes_142 ?_
    refine aw_is (j := tn y3) dX12_takes_143 rfl (fun _ => rfl) h.1 rfl ?_
    replace h := h.2
    refine aw_iconst (v := (2 : Int32)) dX12_takes_144 rfl ?_
    refine aw_iload dX12_takes_145 rfl ?_
    refine aw_imul dX12_takes_147 ?_
    refine aw_iload dX12_takes_148 rfl ?_
    refine aw_iadd dX12_takes_150 ?_
    refine aw_istore (ls' := [aR 12 0, aI x1, aX, aI x3, aI (((2 : Int32) * x4) + x7), aI x5, aX, aI x7]) dX12_takes_151 (by decide) rfl rfl ?_
    refine aw_iload dX12_takes_153 rfl ?_
    refine aw_istore_n (ls' := [aR 12 0, aI x1, aI x7, aI x3, aI (((2 : Int32) * x4) + x7), aI x5, aX, aI x7]) dX12_takes_155 (by decide) rfl rfl ?_
    refine aw_iinc (v := x5 + (1 : Int32)) (ls' := [aR 12 0, aI x1, aI x7, aI x3, aI (((2 : Int32) * x4) + x7), aI (x5 + (1 : Int32)), aX, aI x7]) dX12_takes_156 rfl rfl (by decide) rfl rfl ?_
    refine aw_goto (tgt := 47) dX12_takes_159 (by decide) ?_
    exact aw_wkk h (wk_e (wk_e (wk_e (wk_e (wk_e (wk_e (wk_e (wk_x wk_n))))))))
theorem u_X12_sumOf {Γ : cx_T} {μ : mH}  {Q : Int32 → mH → Prop} (h : (¬ (μ 42 0 5) = (1 : Int32) → (aw Γ M_X12_sumOf 24 [aR 12 0, aI (0 : Int32), aI (0 : Int32), aX] [] μ (rI Q))) ∧ ((μ 42 0 5) = (1 : Int32) → (aw Γ M_X12_sumOf 24 [aR 12 0, aI (μ 42 0 7), aI (0 : Int32), aX] [] μ (rI Q)))) : cwi Γ M_X12_sumOf [aR 12 0] μ Q := by
  refine cw_ofU (ls := [aR 12 0, aX, aX, aX]) (Or.inl (by decide)) rfl (Nat.le_of_ble_eq_true rfl) rfl ?_
  refine aw_aload_n dX12_sumOf_0 rfl ?_
  refine aw_get dX12_sumOf_1 rfl fk_RX12_17 (look_R rfl rfl : look _ 12 0 7 = aR 42 0) ?_
  refine aw_iconst (v := (5 : Int32)) dX12_sumOf_4 rfl ?_
  refine aw_ia (j := 5) (y := μ 42 0 5) dX12_sumOf_5 rfl (fun _ => rfl) (by unfold vp_in; decide) (by decide) (rfl) ?_
  refine aw_iconst (v := (1 : Int32)) dX12_sumOf_6 rfl ?_
  refine aw_icmp_ne (tgt := 20) dX12_sumOf_7 (by decide) (fun c0 => ?_) (fun c0 => ?_)
  · replace h := h.1 c0
    refine aw_iconst (v := (0 : Int32)) dX12_sumOf_20 rfl ?_
    refine aw_istore_n (ls' := [aR 12 0, aI (0 : Int32), aX, aX]) dX12_sumOf_21 (by decide) rfl rfl ?_
    refine aw_iconst (v := (0 : Int32)) dX12_sumOf_22 rfl ?_
    refine aw_istore_n (ls' := [aR 12 0, aI (0 : Int32), aI (0 : Int32), aX]) dX12_sumOf_23 (by decide) rfl rfl ?_
    exact h
  · replace h := h.2 c0
    refine aw_aload_n dX12_sumOf_10 rfl ?_
    refine aw_get dX12_sumOf_11 rfl fk_RX12_17 (look_R rfl rfl : look _ 12 0 7 = aR 42 0) ?_
    refine aw_bipush (v := (7 : Int32)) dX12_sumOf_14 rfl ?_
    refine aw_ia (j := 7) (y := μ 42 0 7) dX12_sumOf_16 rfl (fun _ => rfl) (by unfold vp_in; decide) (by decide) (rfl) ?_
    refine aw_goto (tgt := 21) dX12_sumOf_17 (by decide) ?_
    refine aw_istore_n (ls' := [aR 12 0, aI (μ 42 0 7), aX, aX]) dX12_sumOf_21 (by decide) rfl rfl ?_
    refine aw_iconst (v := (0 : Int32)) dX12_sumOf_22 rfl ?_
    refine aw_istore_n (ls' := [aR 12 0, aI (μ 42 0 7), aI (0 : Int32), aX]) dX12_sumOf_23 (by decide) rfl rfl ?_
    exact h
theorem u_X12_sumOf_24 {Γ : cx_T} {μ : mH} {x1 : Int32} {x2 : Int32} {Q : Int32 → mH → Prop} (h : cwi Γ M_X12_many [aR 12 0] μ (fun r2 μ1 => ((r2 - (2 : Int32)) ≤ x2 → (Q x1 μ1)) ∧ (¬ (r2 - (2 : Int32)) ≤ x2 → ((¬ (μ1 42 0 5) = (2 : Int32) → (aw Γ M_X12_sumOf 53 [aR 12 0, aI x1, aI x2, aX] [] μ1 (rI Q))) ∧ ((μ1 42 0 5) = (2 : Int32) → (vp_in x2 12 ∧ (aw Γ M_X12_sumOf 53 [aR 12 0, aI (x1 + (μ1 54 0 (tn x2))), aI x2, aX] [] μ1 (rI Q)))))))) : aw Γ M_X12_sumOf 24 [aR 12 0, aI x1, aI x2, aX] [] μ (rI Q) := by
  refine aw_iload_n dX12_sumOf_24 rfl ?_
  refine aw_aload_n dX12_sumOf_25 rfl ?_
  refine aw_callV (M' := M_X12_many) (K := 12) (i := 0) (vs := []) (st := [aI x2]) dX12_sumOf_26 mk_X12_many mi_X12_many ml_RX12_204 mp_X12_many rc_12 rm_X12_sumOf__X12_many (Nat.le_of_ble_eq_true rfl) rfl (cw_mono h ?_)
  clear h
  rintro _ μ1 ⟨r2, rfl, h⟩
  show aw Γ M_X12_sumOf 29 [aR 12 0, aI x1, aI x2, aX] [aI r2, aI x2] μ1 (rI Q)
  refine aw_iconst (v := (2 : Int32)) dX12_sumOf_29 rfl ?_
  refine aw_isub dX12_sumOf_30 ?_
  refine aw_icmp_ge (tgt := 147) dX12_sumOf_31 (by decide) (fun c0 => ?_) (fun c0 => ?_)
  · replace h := h.1 c0
    refine aw_iload_n dX12_sumOf_147 rfl ?_
    exact aw_iret dX12_sumOf_148 rfl rfl ⟨_, rfl, h⟩
  · replace h := h.2 c0
    refine aw_aload_n dX12_sumOf_34 rfl ?_
    refine aw_get dX12_sumOf_35 rfl fk_RX12_17 (look_R rfl rfl : look _ 12 0 7 = aR 42 0) ?_
    refine aw_iconst (v := (5 : Int32)) dX12_sumOf_38 rfl ?_
    refine aw_ia (j := 5) (y := μ1 42 0 5) dX12_sumOf_39 rfl (fun _ => rfl) (by unfold vp_in; decide) (by decide) (rfl) ?_
    refine aw_iconst (v := (2 : Int32)) dX12_sumOf_40 rfl ?_
    refine aw_icmp_ne (tgt := 53) dX12_sumOf_41 (by decide) (fun c0 => ?_) (fun c0 => ?_)
    · replace h := h.1 c0
      exact h
    · replace h := h.2 c0
      refine aw_iload_n dX12_sumOf_44 rfl ?_
      refine aw_aload_n dX12_sumOf_45 rfl ?_
      refine aw_get dX12_sumOf_46 rfl fk_RX12_54 (look_R rfl rfl : look _ 12 0 25 = aR 54 0) ?_
      refine aw_iload_n dX12_sumOf_49 rfl ?_
      refine aw_ia (j := tn x2) (y := μ1 54 0 (tn x2)) dX12_sumOf_50 rfl (fun _ => rfl) h.1 rfl (rfl) ?_
      replace h := h.2
      refine aw_iadd dX12_sumOf_51 ?_
      refine aw_istore_n (ls' := [aR 12 0, aI (x1 + (μ1 54 0 (tn x2))), aI x2, aX]) dX12_sumOf_52 (by decide) rfl rfl ?_
      exact h
theorem u_X12_sumOf_53 {Γ : cx_T} {μ : mH} {x1 : Int32} {x2 : Int32} {Q : Int32 → mH → Prop} (h : (¬ (μ 42 0 5) = (3 : Int32) → (aw Γ M_X12_sumOf 72 [aR 12 0, aI x1, aI x2, aX] [] μ (rI Q))) ∧ ((μ 42 0 5) = (3 : Int32) → (vp_in x2 12 ∧ (aw Γ M_X12_sumOf 72 [aR 12 0, aI (x1 ^^^ (μ 54 0 (tn x2))), aI x2, aX] [] μ (rI Q))))) : aw Γ M_X12_sumOf 53 [aR 12 0, aI x1, aI x2, aX] [] μ (rI Q) := by
  refine aw_aload_n dX12_sumOf_53 rfl ?_
  refine aw_get dX12_sumOf_54 rfl fk_RX12_17 (look_R rfl rfl : look _ 12 0 7 = aR 42 0) ?_
  refine aw_iconst (v := (5 : Int32)) dX12_sumOf_57 rfl ?_
  refine aw_ia (j := 5) (y := μ 42 0 5) dX12_sumOf_58 rfl (fun _ => rfl) (by unfold vp_in; decide) (by decide) (rfl) ?_
  refine aw_iconst (v := (3 : Int32)) dX12_sumOf_59 rfl ?_
  refine aw_icmp_ne (tgt := 72) dX12_sumOf_60 (by decide) (fun c0 => ?_) (fun c0 => ?_)
  · replace h := h.1 c0
    exact h
  · replace h := h.2 c0
    refine aw_iload_n dX12_sumOf_63 rfl ?_
    refine aw_aload_n dX12_sumOf_64 rfl ?_
    refine aw_get dX12_sumOf_65 rfl fk_RX12_54 (look_R rfl rfl : look _ 12 0 25 = aR 54 0) ?_
    refine aw_iload_n dX12_sumOf_68 rfl ?_
    refine aw_ia (j := tn x2) (y := μ 54 0 (tn x2)) dX12_sumOf_69 rfl (fun _ => rfl) h.1 rfl (rfl) ?_
    replace h := h.2
    refine aw_ixor dX12_sumOf_70 ?_
    refine aw_istore_n (ls' := [aR 12 0, aI (x1 ^^^ (μ 54 0 (tn x2))), aI x2, aX]) dX12_sumOf_71 (by decide) rfl rfl ?_
    exact h
theorem u_X12_sumOf_72 {Γ : cx_T} {μ : mH} {x1 : Int32} {x2 : Int32} {Q : Int32 → mH → Prop} (h : ((μ 42 0 5) = (1 : Int32) → (vp_in x2 12 ∧ (aw Γ M_X12_sumOf 100 [aR 12 0, aI (x1 ^^^ ((256 : Int32) * (μ 54 0 (tn x2)))), aI x2, aI (0 : Int32)] [] μ (rI Q)))) ∧ (¬ (μ 42 0 5) = (1 : Int32) → (aw Γ M_X12_sumOf 24 [aR 12 0, aI x1, aI (x2 + (1 : Int32)), aX] [] μ (rI Q)))) : aw Γ M_X12_sumOf 72 [aR 12 0, aI x1, aI x2, aX] [] μ (rI Q) := by
  refine aw_aload_n dX12_sumOf_72 rfl ?_
  refine aw_get dX12_sumOf_73 rfl fk_RX12_17 (look_R rfl rfl : look _ 12 0 7 = aR 42 0) ?_
  refine aw_iconst (v := (5 : Int32)) dX12_sumOf_76 rfl ?_
  refine aw_ia (j := 5) (y := μ 42 0 5) dX12_sumOf_77 rfl (fun _ => rfl) (by unfold vp_in; decide) (by decide) (rfl) ?_
  refine aw_iconst (v := (1 : Int32)) dX12_sumOf_78 rfl ?_
  refine aw_icmp_eq (tgt := 85) dX12_sumOf_79 (by decide) (fun c0 => ?_) (fun c0 => ?_)
  · replace h := h.1 c0
    refine aw_iload_n dX12_sumOf_85 rfl ?_
    refine aw_sipush (v := (256 : Int32)) dX12_sumOf_86 rfl ?_
    refine aw_aload_n dX12_sumOf_89 rfl ?_
    refine aw_get dX12_sumOf_90 rfl fk_RX12_54 (look_R rfl rfl : look _ 12 0 25 = aR 54 0) ?_
    refine aw_iload_n dX12_sumOf_93 rfl ?_
    refine aw_ia (j := tn x2) (y := μ 54 0 (tn x2)) dX12_sumOf_94 rfl (fun _ => rfl) h.1 rfl (rfl) ?_
    replace h := h.2
    refine aw_imul dX12_sumOf_95 ?_
    refine aw_ixor dX12_sumOf_96 ?_
    refine aw_istore_n (ls' := [aR 12 0, aI (x1 ^^^ ((256 : Int32) * (μ 54 0 (tn x2)))), aI x2, aX]) dX12_sumOf_97 (by decide) rfl rfl ?_
    refine aw_iconst (v := (0 : Int32)) dX12_sumOf_98 rfl ?_
    refine aw_istore_n (ls' := [aR 12 0, aI (x1 ^^^ ((256 : Int32) * (μ 54 0 (tn x2)))), aI x2, aI (0 : Int32)]) dX12_sumOf_99 (by decide) rfl rfl ?_
    exact h
  · replace h := h.2 c0
    refine aw_goto (tgt := 141) dX12_sumOf_82 (by decide) ?_
    refine aw_iinc (v := x2 + (1 : Int32)) (ls' := [aR 12 0, aI x1, aI (x2 + (1 : Int32)), aX]) dX12_sumOf_141 rfl rfl (by decide) rfl rfl ?_
    refine aw_goto (tgt := 24) dX12_sumOf_144 (by decide) ?_
    exact h
theorem u_X12_sumOf_100 {Γ : cx_T} {μ : mH} {x1 : Int32} {x2 : Int32} {x3 : Int32} {Q : Int32 → mH → Prop} (h : ((8 : Int32) ≤ x3 → (aw Γ M_X12_sumOf 24 [aR 12 0, aI x1, aI (x2 + (1 : Int32)), aX] [] μ (rI Q))) ∧ (¬ (8 : Int32) ≤ x3 → (cwi Γ M_X12_bitOf [aI x1, aI (15 : Int32)] μ (fun r2 μ1 => (¬ r2 = (1 : Int32) → (aw Γ M_X12_sumOf 100 [aR 12 0, aI ((((2 : Int32) * x1) ^^^ (0 : Int32)) &&& (65535 : Int32)), aI x2, aI (x3 + (1 : Int32))] [] μ1 (rI Q))) ∧ (r2 = (1 : Int32) → (aw Γ M_X12_sumOf 100 [aR 12 0, aI ((((2 : Int32) * x1) ^^^ (μ1 42 0 6)) &&& (65535 : Int32)), aI x2, aI (x3 + (1 : Int32))] [] μ1 (rI Q))))))) : aw Γ M_X12_sumOf 100 [aR 12 0, aI x1, aI x2, aI x3] [] μ (rI Q) := by
  refine aw_iload_n dX12_sumOf_100 rfl ?_
  refine aw_bipush (v := (8 : Int32)) dX12_sumOf_101 rfl ?_
  refine aw_icmp_ge (tgt := 141) dX12_sumOf_103 (by decide) (fun c0 => ?_) (fun c0 => ?_)
  · replace h := h.1 c0
    refine aw_iinc (v := x2 + (1 : Int32)) (ls' := [aR 12 0, aI x1, aI (x2 + (1 : Int32)), aI x3]) dX12_sumOf_141 rfl rfl (by decide) rfl rfl ?_
    refine aw_goto (tgt := 24) dX12_sumOf_144 (by decide) ?_
    exact aw_wkk h (wk_e (wk_e (wk_e (wk_x wk_n))))
  · replace h := h.2 c0
    refine aw_iconst (v := (2 : Int32)) dX12_sumOf_106 rfl ?_
    refine aw_iload_n dX12_sumOf_107 rfl ?_
    refine aw_imul dX12_sumOf_108 ?_
    refine aw_iload_n dX12_sumOf_109 rfl ?_
    refine aw_bipush (v := (15 : Int32)) dX12_sumOf_110 rfl ?_
    refine aw_callS (M' := M_X12_bitOf) (vs := [aI x1, aI (15 : Int32)]) (st := [aI ((2 : Int32) * x1)]) dX12_sumOf_112 mk_X12_bitOf ms_X12_bitOf ml_RX12_198 mp_X12_bitOf rm_X12_sumOf__X12_bitOf (Nat.le_of_ble_eq_true rfl) rfl (cw_mono h ?_)
    clear h
    rintro _ μ1 ⟨r2, rfl, h⟩
    show aw Γ M_X12_sumOf 115 [aR 12 0, aI x1, aI x2, aI x3] [aI r2, aI ((2 : Int32) * x1)] μ1 (rI Q)
    refine aw_iconst (v := (1 : Int32)) dX12_sumOf_115 rfl ?_
    refine aw_icmp_ne (tgt := 129) dX12_sumOf_116 (by decide) (fun c0 => ?_) (fun c0 => ?_)
    · replace h := h.1 c0
      refine aw_iconst (v := (0 : Int32)) dX12_sumOf_129 rfl ?_
      refine aw_ixor dX12_sumOf_130 ?_
      refine aw_ldc (v := (65535 : Int32)) dX12_sumOf_131 kc_RX12_142 ?_
      refine aw_iand dX12_sumOf_133 ?_
      refine aw_istore_n (ls' := [aR 12 0, aI ((((2 : Int32) * x1) ^^^ (0 : Int32)) &&& (65535 : Int32)), aI x2, aI x3]) dX12_sumOf_134 (by decide) rfl rfl ?_
      refine aw_iinc (v := x3 + (1 : Int32)) (ls' := [aR 12 0, aI ((((2 : Int32) * x1) ^^^ (0 : Int32)) &&& (65535 : Int32)), aI x2, aI (x3 + (1 : Int32))]) dX12_sumOf_135 rfl rfl (by decide) rfl rfl ?_
      refine aw_goto (tgt := 100) dX12_sumOf_138 (by decide) ?_
      exact h
    · replace h := h.2 c0
      refine aw_aload_n dX12_sumOf_119 rfl ?_
      refine aw_get dX12_sumOf_120 rfl fk_RX12_17 (look_R rfl rfl : look _ 12 0 7 = aR 42 0) ?_
      refine aw_bipush (v := (6 : Int32)) dX12_sumOf_123 rfl ?_
      refine aw_ia (j := 6) (y := μ1 42 0 6) dX12_sumOf_125 rfl (fun _ => rfl) (by unfold vp_in; decide) (by decide) (rfl) ?_
      refine aw_goto (tgt := 130) dX12_sumOf_126 (by decide) ?_
      refine aw_ixor dX12_sumOf_130 ?_
      refine aw_ldc (v := (65535 : Int32)) dX12_sumOf_131 kc_RX12_142 ?_
      refine aw_iand dX12_sumOf_133 ?_
      refine aw_istore_n (ls' := [aR 12 0, aI ((((2 : Int32) * x1) ^^^ (μ1 42 0 6)) &&& (65535 : Int32)), aI x2, aI x3]) dX12_sumOf_134 (by decide) rfl rfl ?_
      refine aw_iinc (v := x3 + (1 : Int32)) (ls' := [aR 12 0, aI ((((2 : Int32) * x1) ^^^ (μ1 42 0 6)) &&& (65535 : Int32)), aI x2, aI (x3 + (1 : Int32))]) dX12_sumOf_135 rfl rfl (by decide) rfl rfl ?_
      refine aw_goto (tgt := 100) dX12_sumOf_138 (by decide) ?_
      exact h
theorem u_X12_sumOfSector {Γ : cx_T} {μ : mH} {x1 : Int32} {Q : Int32 → mH → Prop} (h : aw Γ M_X12_sumOfSector 2 [aR 12 0, aI x1, aI (0 : Int32)] [] μ (rI Q)) : cwi Γ M_X12_sumOfSector [aR 12 0, aI x1] μ Q := by
  refine cw_ofU (ls := [aR 12 0, aI x1, aX]) (Or.inl (by decide)) rfl (Nat.le_of_ble_eq_true rfl) rfl ?_
  refine aw_iconst (v := (0 : Int32)) dX12_sumOfSector_0 rfl ?_
  refine aw_istore_n (ls' := [aR 12 0, aI x1, aI (0 : Int32)]) dX12_sumOfSector_1 (by decide) rfl rfl ?_
  exact h
theorem u_X12_sumOfSector_2 {Γ : cx_T} {μ : mH} {x1 : Int32} {x2 : Int32} {Q : Int32 → mH → Prop} (h : cwi Γ M_X12_many [aR 12 0] μ (fun r2 μ1 => (r2 ≤ x2 → (cwi Γ M_X12_sumOf [aR 12 0] μ1 (fun r4 μ3 => Q r4 μ3))) ∧ (¬ r2 ≤ x2 → (vp_in (((12 : Int32) * x1) + x2) 96 ∧ (vp_in x2 12 ∧ (aw Γ M_X12_sumOfSector 2 [aR 12 0, aI x1, aI (x2 + (1 : Int32))] [] (sto μ1 54 0 (tn x2) (μ1 52 0 (tn (((12 : Int32) * x1) + x2)))) (rI Q))))))) : aw Γ M_X12_sumOfSector 2 [aR 12 0, aI x1, aI x2] [] μ (rI Q) := by
  refine aw_iload_n dX12_sumOfSector_2 rfl ?_
  refine aw_aload_n dX12_sumOfSector_3 rfl ?_
  refine aw_callV (M' := M_X12_many) (K := 12) (i := 0) (vs := []) (st := [aI x2]) dX12_sumOfSector_4 mk_X12_many mi_X12_many ml_RX12_204 mp_X12_many rc_12 rm_X12_sumOfSector__X12_many (Nat.le_of_ble_eq_true rfl) rfl (cw_mono h ?_)
  clear h
  rintro _ μ1 ⟨r2, rfl, h⟩
  show aw Γ M_X12_sumOfSector 7 [aR 12 0, aI x1, aI x2] [aI r2, aI x2] μ1 (rI Q)
  refine aw_icmp_ge (tgt := 33) dX12_sumOfSector_7 (by decide) (fun c0 => ?_) (fun c0 => ?_)
  · replace h := h.1 c0
    refine aw_aload_n dX12_sumOfSector_33 rfl ?_
    refine aw_callV (M' := M_X12_sumOf) (K := 12) (i := 0) (vs := []) (st := []) dX12_sumOfSector_34 mk_X12_sumOf mi_X12_sumOf ml_RX12_214 mp_X12_sumOf rc_12 rm_X12_sumOfSector__X12_sumOf (Nat.le_of_ble_eq_true rfl) rfl (cw_mono h ?_)
    clear h
    rintro _ μ3 ⟨r4, rfl, h⟩
    show aw Γ M_X12_sumOfSector 37 [aR 12 0, aI x1, aI x2] [aI r4] μ3 (rI Q)
    exact aw_iret dX12_sumOfSector_37 rfl rfl ⟨_, rfl, h⟩
  · replace h := h.2 c0
    refine aw_aload_n dX12_sumOfSector_10 rfl ?_
    refine aw_get dX12_sumOfSector_11 rfl fk_RX12_54 (look_R rfl rfl : look _ 12 0 25 = aR 54 0) ?_
    refine aw_iload_n dX12_sumOfSector_14 rfl ?_
    refine aw_aload_n dX12_sumOfSector_15 rfl ?_
    refine aw_get dX12_sumOfSector_16 rfl fk_RX12_48 (look_R rfl rfl : look _ 12 0 23 = aR 52 0) ?_
    refine aw_bipush (v := (12 : Int32)) dX12_sumOfSector_19 rfl ?_
    refine aw_iload_n dX12_sumOfSector_21 rfl ?_
    refine aw_imul dX12_sumOfSector_22 ?_
    refine aw_iload_n dX12_sumOfSector_23 rfl ?_
    refine aw_iadd dX12_sumOfSector_24 ?_
    refine aw_ia (j := tn (((12 : Int32) * x1) + x2)) (y := μ1 52 0 (tn (((12 : Int32) * x1) + x2))) dX12_sumOfSector_25 rfl (fun _ => rfl) h.1 rfl (rfl) ?_
    replace h := h.2
    refine aw_is (j := tn x2) dX12_sumOfSector_26 rfl (fun _ => rfl) h.1 rfl ?_
    replace h := h.2
    refine aw_iinc (v := x2 + (1 : Int32)) (ls' := [aR 12 0, aI x1, aI (x2 + (1 : Int32))]) dX12_sumOfSector_27 rfl rfl (by decide) rfl rfl ?_
    refine aw_goto (tgt := 2) dX12_sumOfSector_30 (by decide) ?_
    exact h
theorem u_X12_told {Γ : cx_T} {μ : mH} {x1 : Int32} {Q : Int32 → mH → Prop} (h : cwi Γ M_X12_many [aR 12 0] μ (fun r2 μ1 => vp_in ((((12 : Int32) * x1) + r2) - (2 : Int32)) 96 ∧ (cwi Γ M_X12_many [aR 12 0] μ1 (fun r4 μ3 => vp_in ((((12 : Int32) * x1) + r4) - (1 : Int32)) 96 ∧ (Q (((256 : Int32) * (μ1 52 0 (tn ((((12 : Int32) * x1) + r2) - (2 : Int32))))) + (μ3 52 0 (tn ((((12 : Int32) * x1) + r4) - (1 : Int32))))) μ3))))) : cwi Γ M_X12_told [aR 12 0, aI x1] μ Q := by
  refine cw_ofU (ls := [aR 12 0, aI x1]) (Or.inl (by decide)) rfl (Nat.le_of_ble_eq_true rfl) rfl ?_
  refine aw_sipush (v := (256 : Int32)) dX12_told_0 rfl ?_
  refine aw_aload_n dX12_told_3 rfl ?_
  refine aw_get dX12_told_4 rfl fk_RX12_48 (look_R rfl rfl : look _ 12 0 23 = aR 52 0) ?_
  refine aw_bipush (v := (12 : Int32)) dX12_told_7 rfl ?_
  refine aw_iload_n dX12_told_9 rfl ?_
  refine aw_imul dX12_told_10 ?_
  refine aw_aload_n dX12_told_11 rfl ?_
  refine aw_callV (M' := M_X12_many) (K := 12) (i := 0) (vs := []) (st := [aI ((12 : Int32) * x1), aR 52 0, aI (256 : Int32)]) dX12_told_12 mk_X12_many mi_X12_many ml_RX12_204 mp_X12_many rc_12 rm_X12_told__X12_many (Nat.le_of_ble_eq_true rfl) rfl (cw_mono h ?_)
  clear h
  rintro _ μ1 ⟨r2, rfl, h⟩
  show aw Γ M_X12_told 15 [aR 12 0, aI x1] [aI r2, aI ((12 : Int32) * x1), aR 52 0, aI (256 : Int32)] μ1 (rI Q)
  refine aw_iadd dX12_told_15 ?_
  refine aw_iconst (v := (2 : Int32)) dX12_told_16 rfl ?_
  refine aw_isub dX12_told_17 ?_
  refine aw_ia (j := tn ((((12 : Int32) * x1) + r2) - (2 : Int32))) (y := μ1 52 0 (tn ((((12 : Int32) * x1) + r2) - (2 : Int32)))) dX12_told_18 rfl (fun _ => rfl) h.1 rfl (rfl) ?_
  replace h := h.2
  refine aw_imul dX12_told_19 ?_
  refine aw_aload_n dX12_told_20 rfl ?_
  refine aw_get dX12_told_21 rfl fk_RX12_48 (look_R rfl rfl : look _ 12 0 23 = aR 52 0) ?_
  refine aw_bipush (v := (12 : Int32)) dX12_told_24 rfl ?_
  refine aw_iload_n dX12_told_26 rfl ?_
  refine aw_imul dX12_told_27 ?_
  refine aw_aload_n dX12_told_28 rfl ?_
  refine aw_callV (M' := M_X12_many) (K := 12) (i := 0) (vs := []) (st := [aI ((12 : Int32) * x1), aR 52 0, aI ((256 : Int32) * (μ1 52 0 (tn ((((12 : Int32) * x1) + r2) - (2 : Int32)))))]) dX12_told_29 mk_X12_many mi_X12_many ml_RX12_204 mp_X12_many rc_12 rm_X12_told__X12_many (Nat.le_of_ble_eq_true rfl) rfl (cw_mono h ?_)
  clear h
  rintro _ μ3 ⟨r4, rfl, h⟩
  show aw Γ M_X12_told 32 [aR 12 0, aI x1] [aI r4, aI ((12 : Int32) * x1), aR 52 0, aI ((256 : Int32) * (μ1 52 0 (tn ((((12 : Int32) * x1) + r2) - (2 : Int32)))))] μ3 (rI Q)
  refine aw_iadd dX12_told_32 ?_
  refine aw_iconst (v := (1 : Int32)) dX12_told_33 rfl ?_
  refine aw_isub dX12_told_34 ?_
  refine aw_ia (j := tn ((((12 : Int32) * x1) + r4) - (1 : Int32))) (y := μ3 52 0 (tn ((((12 : Int32) * x1) + r4) - (1 : Int32)))) dX12_told_35 rfl (fun _ => rfl) h.1 rfl (rfl) ?_
  replace h := h.2
  refine aw_iadd dX12_told_36 ?_
  exact aw_iret dX12_told_37 rfl rfl ⟨_, rfl, h⟩
theorem u_X12_isRight {Γ : cx_T} {μ : mH} {x1 : Int32} {Q : Int32 → mH → Prop} (h : cwi Γ M_X12_sumOfSector [aR 12 0, aI x1] μ (fun r2 μ1 => cwi Γ M_X12_told [aR 12 0, aI x1] μ1 (fun r4 μ3 => (¬ r2 = r4 → (Q (0 : Int32) μ3)) ∧ (r2 = r4 → (Q (1 : Int32) μ3))))) : cwi Γ M_X12_isRight [aR 12 0, aI x1] μ Q := by
  refine cw_ofU (ls := [aR 12 0, aI x1]) (Or.inl (by decide)) rfl (Nat.le_of_ble_eq_true rfl) rfl ?_
  refine aw_aload_n dX12_isRight_0 rfl ?_
  refine aw_iload_n dX12_isRight_1 rfl ?_
  refine aw_callV (M' := M_X12_sumOfSector) (K := 12) (i := 0) (vs := [aI x1]) (st := []) dX12_isRight_2 mk_X12_sumOfSector mi_X12_sumOfSector ml_RX12_217 mp_X12_sumOfSector rc_12 rm_X12_isRight__X12_sumOfSector (Nat.le_of_ble_eq_true rfl) rfl (cw_mono h ?_)
  clear h
  rintro _ μ1 ⟨r2, rfl, h⟩
  show aw Γ M_X12_isRight 5 [aR 12 0, aI x1] [aI r2] μ1 (rI Q)
  refine aw_aload_n dX12_isRight_5 rfl ?_
  refine aw_iload_n dX12_isRight_6 rfl ?_
  refine aw_callV (M' := M_X12_told) (K := 12) (i := 0) (vs := [aI x1]) (st := [aI r2]) dX12_isRight_7 mk_X12_told mi_X12_told ml_RX12_221 mp_X12_told rc_12 rm_X12_isRight__X12_told (Nat.le_of_ble_eq_true rfl) rfl (cw_mono h ?_)
  clear h
  rintro _ μ3 ⟨r4, rfl, h⟩
  show aw Γ M_X12_isRight 10 [aR 12 0, aI x1] [aI r4, aI r2] μ3 (rI Q)
  refine aw_icmp_ne (tgt := 17) dX12_isRight_10 (by decide) (fun c0 => ?_) (fun c0 => ?_)
  · replace h := h.1 c0
    refine aw_iconst (v := (0 : Int32)) dX12_isRight_17 rfl ?_
    exact aw_iret (ty := .boolean) dX12_isRight_18 rfl (by decide) ⟨_, rfl, h⟩
  · replace h := h.2 c0
    refine aw_iconst (v := (1 : Int32)) dX12_isRight_13 rfl ?_
    refine aw_goto (tgt := 18) dX12_isRight_14 (by decide) ?_
    exact aw_iret (ty := .boolean) dX12_isRight_18 rfl (by decide) ⟨_, rfl, h⟩
theorem u_X12_trackOf {Γ : cx_T} {μ : mH} {x1 : Int32} {Q : Int32 → mH → Prop} (h : vp_in (((12 : Int32) * x1) + (μ 42 0 8)) 96 ∧ (Q (μ 52 0 (tn (((12 : Int32) * x1) + (μ 42 0 8)))) μ)) : cwi Γ M_X12_trackOf [aR 12 0, aI x1] μ Q := by
  refine cw_ofU (ls := [aR 12 0, aI x1]) (Or.inl (by decide)) rfl (Nat.le_of_ble_eq_true rfl) rfl ?_
  refine aw_aload_n dX12_trackOf_0 rfl ?_
  refine aw_get dX12_trackOf_1 rfl fk_RX12_48 (look_R rfl rfl : look _ 12 0 23 = aR 52 0) ?_
  refine aw_bipush (v := (12 : Int32)) dX12_trackOf_4 rfl ?_
  refine aw_iload_n dX12_trackOf_6 rfl ?_
  refine aw_imul dX12_trackOf_7 ?_
  refine aw_aload_n dX12_trackOf_8 rfl ?_
  refine aw_get dX12_trackOf_9 rfl fk_RX12_17 (look_R rfl rfl : look _ 12 0 7 = aR 42 0) ?_
  refine aw_bipush (v := (8 : Int32)) dX12_trackOf_12 rfl ?_
  refine aw_ia (j := 8) (y := μ 42 0 8) dX12_trackOf_14 rfl (fun _ => rfl) (by unfold vp_in; decide) (by decide) (rfl) ?_
  refine aw_iadd dX12_trackOf_15 ?_
  refine aw_ia (j := tn (((12 : Int32) * x1) + (μ 42 0 8))) (y := μ 52 0 (tn (((12 : Int32) * x1) + (μ 42 0 8)))) dX12_trackOf_16 rfl (fun _ => rfl) h.1 rfl (rfl) ?_
  replace h := h.2
  exact aw_iret dX12_trackOf_17 rfl rfl ⟨_, rfl, h⟩
theorem u_X12_numberOf {Γ : cx_T} {μ : mH} {x1 : Int32} {Q : Int32 → mH → Prop} (h : vp_in ((((12 : Int32) * x1) + (1 : Int32)) - (μ 42 0 8)) 96 ∧ (Q (μ 52 0 (tn ((((12 : Int32) * x1) + (1 : Int32)) - (μ 42 0 8)))) μ)) : cwi Γ M_X12_numberOf [aR 12 0, aI x1] μ Q := by
  refine cw_ofU (ls := [aR 12 0, aI x1]) (Or.inl (by decide)) rfl (Nat.le_of_ble_eq_true rfl) rfl ?_
  refine aw_aload_n dX12_numberOf_0 rfl ?_
  refine aw_get dX12_numberOf_1 rfl fk_RX12_48 (look_R rfl rfl : look _ 12 0 23 = aR 52 0) ?_
  refine aw_bipush (v := (12 : Int32)) dX12_numberOf_4 rfl ?_
  refine aw_iload_n dX12_numberOf_6 rfl ?_
  refine aw_imul dX12_numberOf_7 ?_
  refine aw_iconst (v := (1 : Int32)) dX12_numberOf_8 rfl ?_
  refine aw_iadd dX12_numberOf_9 ?_
  refine aw_aload_n dX12_numberOf_10 rfl ?_
  refine aw_get dX12_numberOf_11 rfl fk_RX12_17 (look_R rfl rfl : look _ 12 0 7 = aR 42 0) ?_
  refine aw_bipush (v := (8 : Int32)) dX12_numberOf_14 rfl ?_
  refine aw_ia (j := 8) (y := μ 42 0 8) dX12_numberOf_16 rfl (fun _ => rfl) (by unfold vp_in; decide) (by decide) (rfl) ?_
  refine aw_isub dX12_numberOf_17 ?_
  refine aw_ia (j := tn ((((12 : Int32) * x1) + (1 : Int32)) - (μ 42 0 8))) (y := μ 52 0 (tn ((((12 : Int32) * x1) + (1 : Int32)) - (μ 42 0 8)))) dX12_numberOf_18 rfl (fun _ => rfl) h.1 rfl (rfl) ?_
  replace h := h.2
  exact aw_iret dX12_numberOf_19 rfl rfl ⟨_, rfl, h⟩
theorem u_X12_found {Γ : cx_T} {μ : mH} {x1 : Int32} {x2 : Int32} {x3 : Int32} {Q : Int32 → mH → Prop} (h : cwi Γ M_X12_in [aI x1, aI (0 : Int32), aI ((μ 12 0 11) - (1 : Int32))] μ (fun r2 μ1 => (¬ r2 = 0 → (cwv Γ M_X12_finds [aR 12 0, aI x1, aI (μ1 42 0 0), aI (μ1 42 0 1)] μ1 (fun μ3 => (¬ x2 = (-1 : Int32) → (cwi Γ M_X12_in [aI x2, aI (0 : Int32), aI ((μ3 12 0 21) - (1 : Int32))] μ3 (fun r5 μ4 => (¬ r5 = 0 → ((x3 = (0 : Int32) → (vp_in x2 8 ∧ (Q (μ4 51 0 (tn x2)) μ4))) ∧ (x3 = (1 : Int32) → (cwi Γ M_X12_trackOf [aR 12 0, aI x2] μ4 (fun r9 μ8 => Q r9 μ8))) ∧ (x3 = (2 : Int32) → (cwi Γ M_X12_numberOf [aR 12 0, aI x2] μ4 (fun r11 μ10 => Q r11 μ10))) ∧ (x3 = (3 : Int32) → (cwi Γ M_X12_told [aR 12 0, aI x2] μ4 (fun r13 μ12 => Q r13 μ12))) ∧ (x3 = (4 : Int32) → (cwi Γ M_X12_sumOfSector [aR 12 0, aI x2] μ4 (fun r15 μ14 => Q r15 μ14))) ∧ (x3 = (5 : Int32) → (vp_in x2 8 ∧ (Q (μ4 53 0 (tn x2)) μ4))) ∧ (¬ x3 = (0 : Int32) → ¬ x3 = (1 : Int32) → ¬ x3 = (2 : Int32) → ¬ x3 = (3 : Int32) → ¬ x3 = (4 : Int32) → ¬ x3 = (5 : Int32) → (cwi Γ M_X12_in [aI x3, aI (10 : Int32), aI ((9 : Int32) + (μ4 42 0 4))] μ4 (fun r7 μ6 => (r7 = 0 → (Q (-1 : Int32) μ6)) ∧ (¬ r7 = 0 → (vp_in (((((12 : Int32) * x2) + (2 : Int32)) + x3) - (10 : Int32)) 96 ∧ (Q (μ6 52 0 (tn (((((12 : Int32) * x2) + (2 : Int32)) + x3) - (10 : Int32)))) μ6)))))))) ∧ (r5 = 0 → (Q (-1 : Int32) μ4))))) ∧ (x2 = (-1 : Int32) → (Q (μ3 12 0 21) μ3))))) ∧ (r2 = 0 → (Q (-1 : Int32) μ1)))) : cwi Γ M_X12_found [aR 12 0, aI x1, aI x2, aI x3] μ Q := by
  refine cw_ofU (ls := [aR 12 0, aI x1, aI x2, aI x3]) (Or.inl (by decide)) rfl (Nat.le_of_ble_eq_true rfl) rfl ?_
  refine aw_iload_n dX12_found_0 rfl ?_
  refine aw_iconst (v := (0 : Int32)) dX12_found_1 rfl ?_
  refine aw_aload_n dX12_found_2 rfl ?_
  refine aw_get dX12_found_3 rfl fk_RX12_175 (look_I rfl : look μ 12 0 11 = aI (μ 12 0 11)) ?_
  refine aw_iconst (v := (1 : Int32)) dX12_found_6 rfl ?_
  refine aw_isub dX12_found_7 ?_
  refine aw_callS (M' := M_X12_in) (vs := [aI x1, aI (0 : Int32), aI ((μ 12 0 11) - (1 : Int32))]) (st := []) dX12_found_8 mk_X12_in ms_X12_in ml_RX12_85 mp_X12_in rm_X12_found__X12_in (Nat.le_of_ble_eq_true rfl) rfl (cw_mono h ?_)
  clear h
  rintro _ μ1 ⟨r2, rfl, h⟩
  show aw Γ M_X12_found 11 [aR 12 0, aI x1, aI x2, aI x3] [aI r2] μ1 (rI Q)
  refine aw_if_ne (tgt := 16) dX12_found_11 (by decide) (fun c0 => ?_) (fun c0 => ?_)
  · replace h := h.1 c0
    refine aw_aload_n dX12_found_16 rfl ?_
    refine aw_iload_n dX12_found_17 rfl ?_
    refine aw_aload_n dX12_found_18 rfl ?_
    refine aw_get dX12_found_19 rfl fk_RX12_17 (look_R rfl rfl : look _ 12 0 7 = aR 42 0) ?_
    refine aw_iconst (v := (0 : Int32)) dX12_found_22 rfl ?_
    refine aw_ia (j := 0) (y := μ1 42 0 0) dX12_found_23 rfl (fun _ => rfl) (by unfold vp_in; decide) (by decide) (rfl) ?_
    refine aw_aload_n dX12_found_24 rfl ?_
    refine aw_get dX12_found_25 rfl fk_RX12_17 (look_R rfl rfl : look _ 12 0 7 = aR 42 0) ?_
    refine aw_iconst (v := (1 : Int32)) dX12_found_28 rfl ?_
    refine aw_ia (j := 1) (y := μ1 42 0 1) dX12_found_29 rfl (fun _ => rfl) (by unfold vp_in; decide) (by decide) (rfl) ?_
    refine aw_callV (M' := M_X12_finds) (K := 12) (i := 0) (vs := [aI x1, aI (μ1 42 0 0), aI (μ1 42 0 1)]) (st := []) dX12_found_30 mk_X12_finds mi_X12_finds ml_RX12_224 mp_X12_finds rc_12 rm_X12_found__X12_finds (Nat.le_of_ble_eq_true rfl) rfl (cw_mono h ?_)
    clear h
    intro _ μ3 h
    show aw Γ M_X12_found 33 [aR 12 0, aI x1, aI x2, aI x3] [] μ3 (rI Q)
    refine aw_iload_n dX12_found_33 rfl ?_
    refine aw_iconst (v := (-1 : Int32)) dX12_found_34 rfl ?_
    refine aw_icmp_ne (tgt := 43) dX12_found_35 (by decide) (fun c0 => ?_) (fun c0 => ?_)
    · replace h := h.1 c0
      refine aw_iload_n dX12_found_43 rfl ?_
      refine aw_iconst (v := (0 : Int32)) dX12_found_44 rfl ?_
      refine aw_aload_n dX12_found_45 rfl ?_
      refine aw_get dX12_found_46 rfl fk_RX12_201 (look_I rfl : look μ3 12 0 21 = aI (μ3 12 0 21)) ?_
      refine aw_iconst (v := (1 : Int32)) dX12_found_49 rfl ?_
      refine aw_isub dX12_found_50 ?_
      refine aw_callS (M' := M_X12_in) (vs := [aI x2, aI (0 : Int32), aI ((μ3 12 0 21) - (1 : Int32))]) (st := []) dX12_found_51 mk_X12_in ms_X12_in ml_RX12_85 mp_X12_in rm_X12_found__X12_in (Nat.le_of_ble_eq_true rfl) rfl (cw_mono h ?_)
      clear h
      rintro _ μ4 ⟨r5, rfl, h⟩
      show aw Γ M_X12_found 54 [aR 12 0, aI x1, aI x2, aI x3] [aI r5] μ4 (rI Q)
      refine aw_if_ne (tgt := 59) dX12_found_54 (by decide) (fun c0 => ?_) (fun c0 => ?_)
      · replace h := h.1 c0
        refine aw_iload_n dX12_found_59 rfl ?_
        by_cases c0 : x3 = (0 : Int32)
        · replace h := h.1 c0
          refine aw_tableIn (off := 40) (tgt := 100) dX12_found_60 (by rw [c0]; decide) (by rw [c0]; decide) (by rw [c0]; decide) (by decide) ?_
          refine aw_aload_n dX12_found_100 rfl ?_
          refine aw_get dX12_found_101 rfl fk_RX12_45 (look_R rfl rfl : look _ 12 0 22 = aR 51 0) ?_
          refine aw_iload_n dX12_found_104 rfl ?_
          refine aw_ia (j := tn x2) (y := μ4 51 0 (tn x2)) dX12_found_105 rfl (fun _ => rfl) h.1 rfl (rfl) ?_
          replace h := h.2
          exact aw_iret dX12_found_106 rfl rfl ⟨_, rfl, h⟩
        by_cases c1 : x3 = (1 : Int32)
        · replace h := h.2.1 c1
          refine aw_tableIn (off := 47) (tgt := 107) dX12_found_60 (by rw [c1]; decide) (by rw [c1]; decide) (by rw [c1]; decide) (by decide) ?_
          refine aw_aload_n dX12_found_107 rfl ?_
          refine aw_iload_n dX12_found_108 rfl ?_
          refine aw_callV (M' := M_X12_trackOf) (K := 12) (i := 0) (vs := [aI x2]) (st := []) dX12_found_109 mk_X12_trackOf mi_X12_trackOf ml_RX12_227 mp_X12_trackOf rc_12 rm_X12_found__X12_trackOf (Nat.le_of_ble_eq_true rfl) rfl (cw_mono h ?_)
          clear h
          rintro _ μ16 ⟨r17, rfl, h⟩
          show aw Γ M_X12_found 112 [aR 12 0, aI x1, aI x2, aI x3] [aI r17] μ16 (rI Q)
          exact aw_iret dX12_found_112 rfl rfl ⟨_, rfl, h⟩
        by_cases c2 : x3 = (2 : Int32)
        · replace h := h.2.2.1 c2
          refine aw_tableIn (off := 53) (tgt := 113) dX12_found_60 (by rw [c2]; decide) (by rw [c2]; decide) (by rw [c2]; decide) (by decide) ?_
          refine aw_aload_n dX12_found_113 rfl ?_
          refine aw_iload_n dX12_found_114 rfl ?_
          refine aw_callV (M' := M_X12_numberOf) (K := 12) (i := 0) (vs := [aI x2]) (st := []) dX12_found_115 mk_X12_numberOf mi_X12_numberOf ml_RX12_230 mp_X12_numberOf rc_12 rm_X12_found__X12_numberOf (Nat.le_of_ble_eq_true rfl) rfl (cw_mono h ?_)
          clear h
          rintro _ μ18 ⟨r19, rfl, h⟩
          show aw Γ M_X12_found 118 [aR 12 0, aI x1, aI x2, aI x3] [aI r19] μ18 (rI Q)
          exact aw_iret dX12_found_118 rfl rfl ⟨_, rfl, h⟩
        by_cases c3 : x3 = (3 : Int32)
        · replace h := h.2.2.2.1 c3
          refine aw_tableIn (off := 59) (tgt := 119) dX12_found_60 (by rw [c3]; decide) (by rw [c3]; decide) (by rw [c3]; decide) (by decide) ?_
          refine aw_aload_n dX12_found_119 rfl ?_
          refine aw_iload_n dX12_found_120 rfl ?_
          refine aw_callV (M' := M_X12_told) (K := 12) (i := 0) (vs := [aI x2]) (st := []) dX12_found_121 mk_X12_told mi_X12_told ml_RX12_221 mp_X12_told rc_12 rm_X12_found__X12_told (Nat.le_of_ble_eq_true rfl) rfl (cw_mono h ?_)
          clear h
          rintro _ μ20 ⟨r21, rfl, h⟩
          show aw Γ M_X12_found 124 [aR 12 0, aI x1, aI x2, aI x3] [aI r21] μ20 (rI Q)
          exact aw_iret dX12_found_124 rfl rfl ⟨_, rfl, h⟩
        by_cases c4 : x3 = (4 : Int32)
        · replace h := h.2.2.2.2.1 c4
          refine aw_tableIn (off := 65) (tgt := 125) dX12_found_60 (by rw [c4]; decide) (by rw [c4]; decide) (by rw [c4]; decide) (by decide) ?_
          refine aw_aload_n dX12_found_125 rfl ?_
          refine aw_iload_n dX12_found_126 rfl ?_
          refine aw_callV (M' := M_X12_sumOfSector) (K := 12) (i := 0) (vs := [aI x2]) (st := []) dX12_found_127 mk_X12_sumOfSector mi_X12_sumOfSector ml_RX12_217 mp_X12_sumOfSector rc_12 rm_X12_found__X12_sumOfSector (Nat.le_of_ble_eq_true rfl) rfl (cw_mono h ?_)
          clear h
          rintro _ μ22 ⟨r23, rfl, h⟩
          show aw Γ M_X12_found 130 [aR 12 0, aI x1, aI x2, aI x3] [aI r23] μ22 (rI Q)
          exact aw_iret dX12_found_130 rfl rfl ⟨_, rfl, h⟩
        by_cases c5 : x3 = (5 : Int32)
        · replace h := h.2.2.2.2.2.1 c5
          refine aw_tableIn (off := 71) (tgt := 131) dX12_found_60 (by rw [c5]; decide) (by rw [c5]; decide) (by rw [c5]; decide) (by decide) ?_
          refine aw_aload_n dX12_found_131 rfl ?_
          refine aw_get dX12_found_132 rfl fk_RX12_51 (look_R rfl rfl : look _ 12 0 24 = aR 53 0) ?_
          refine aw_iload_n dX12_found_135 rfl ?_
          refine aw_ia (j := tn x2) (y := μ4 53 0 (tn x2)) dX12_found_136 rfl (fun _ => rfl) h.1 rfl (rfl) ?_
          replace h := h.2
          exact aw_iret dX12_found_137 rfl rfl ⟨_, rfl, h⟩
        replace h := h.2.2.2.2.2.2 c0 c1 c2 c3 c4 c5
        refine aw_tableOut (tgt := 138) dX12_found_60 (by have e0 := lv_neT c0 (show (0 : Int32).toInt = (0 : Int) by decide); have e1 := lv_neT c1 (show (1 : Int32).toInt = (1 : Int) by decide); have e2 := lv_neT c2 (show (2 : Int32).toInt = (2 : Int) by decide); have e3 := lv_neT c3 (show (3 : Int32).toInt = (3 : Int) by decide); have e4 := lv_neT c4 (show (4 : Int32).toInt = (4 : Int) by decide); have e5 := lv_neT c5 (show (5 : Int32).toInt = (5 : Int) by decide); omega) (by decide) ?_
        refine aw_iload_n dX12_found_138 rfl ?_
        refine aw_bipush (v := (10 : Int32)) dX12_found_139 rfl ?_
        refine aw_bipush (v := (9 : Int32)) dX12_found_141 rfl ?_
        refine aw_aload_n dX12_found_143 rfl ?_
        refine aw_get dX12_found_144 rfl fk_RX12_17 (look_R rfl rfl : look _ 12 0 7 = aR 42 0) ?_
        refine aw_iconst (v := (4 : Int32)) dX12_found_147 rfl ?_
        refine aw_ia (j := 4) (y := μ4 42 0 4) dX12_found_148 rfl (fun _ => rfl) (by unfold vp_in; decide) (by decide) (rfl) ?_
        refine aw_iadd dX12_found_149 ?_
        refine aw_callS (M' := M_X12_in) (vs := [aI x3, aI (10 : Int32), aI ((9 : Int32) + (μ4 42 0 4))]) (st := []) dX12_found_150 mk_X12_in ms_X12_in ml_RX12_85 mp_X12_in rm_X12_found__X12_in (Nat.le_of_ble_eq_true rfl) rfl (cw_mono h ?_)
        clear h
        rintro _ μ6 ⟨r7, rfl, h⟩
        show aw Γ M_X12_found 153 [aR 12 0, aI x1, aI x2, aI x3] [aI r7] μ6 (rI Q)
        refine aw_if_eq (tgt := 175) dX12_found_153 (by decide) (fun c0 => ?_) (fun c0 => ?_)
        · replace h := h.1 c0
          refine aw_iconst (v := (-1 : Int32)) dX12_found_175 rfl ?_
          exact aw_iret dX12_found_176 rfl rfl ⟨_, rfl, h⟩
        · replace h := h.2 c0
          refine aw_aload_n dX12_found_156 rfl ?_
          refine aw_get dX12_found_157 rfl fk_RX12_48 (look_R rfl rfl : look _ 12 0 23 = aR 52 0) ?_
          refine aw_bipush (v := (12 : Int32)) dX12_found_160 rfl ?_
          refine aw_iload_n dX12_found_162 rfl ?_
          refine aw_imul dX12_found_163 ?_
          refine aw_iconst (v := (2 : Int32)) dX12_found_164 rfl ?_
          refine aw_iadd dX12_found_165 ?_
          refine aw_iload_n dX12_found_166 rfl ?_
          refine aw_iadd dX12_found_167 ?_
          refine aw_bipush (v := (10 : Int32)) dX12_found_168 rfl ?_
          refine aw_isub dX12_found_170 ?_
          refine aw_ia (j := tn (((((12 : Int32) * x2) + (2 : Int32)) + x3) - (10 : Int32))) (y := μ6 52 0 (tn (((((12 : Int32) * x2) + (2 : Int32)) + x3) - (10 : Int32)))) dX12_found_171 rfl (fun _ => rfl) h.1 rfl (rfl) ?_
          replace h := h.2
          refine aw_goto (tgt := 176) dX12_found_172 (by decide) ?_
          exact aw_iret dX12_found_176 rfl rfl ⟨_, rfl, h⟩
      · replace h := h.2 c0
        refine aw_iconst (v := (-1 : Int32)) dX12_found_57 rfl ?_
        exact aw_iret dX12_found_58 rfl rfl ⟨_, rfl, h⟩
    · replace h := h.2 c0
      refine aw_aload_n dX12_found_38 rfl ?_
      refine aw_get dX12_found_39 rfl fk_RX12_201 (look_I rfl : look μ3 12 0 21 = aI (μ3 12 0 21)) ?_
      exact aw_iret dX12_found_42 rfl rfl ⟨_, rfl, h⟩
  · replace h := h.2 c0
    refine aw_iconst (v := (-1 : Int32)) dX12_found_14 rfl ?_
    exact aw_iret dX12_found_15 rfl rfl ⟨_, rfl, h⟩
theorem u_X12_tuned {Γ : cx_T} {μ : mH} {x1 : Int32} {x2 : Int32} {Q : Int32 → mH → Prop} (h : cwi Γ M_X12_in [aI x1, aI (0 : Int32), aI ((μ 12 0 11) - (1 : Int32))] μ (fun r2 μ1 => (r2 = 0 → (Q (-1 : Int32) μ1)) ∧ (¬ r2 = 0 → (cwi Γ M_X12_in [aI x2, aI (0 : Int32), aI (3 : Int32)] μ1 (fun r4 μ3 => (¬ r4 = 0 → (cwi Γ M_J9_max_7cf53 [aI (8 : Int32), aI ((μ3 42 0 0) - (6 : Int32))] μ3 (fun r6 μ5 => aw Γ M_X12_tuned 52 [aR 12 0, aI x1, aI x2, aI (-1 : Int32), aI (0 : Int32), aI (0 : Int32), aI (0 : Int32), aI r6, aX, aX, aX, aX] [] μ5 (rI Q)))) ∧ (r4 = 0 → (Q (-1 : Int32) μ3))))))) : cwi Γ M_X12_tuned [aR 12 0, aI x1, aI x2] μ Q := by
  refine cw_ofU (ls := [aR 12 0, aI x1, aI x2, aX, aX, aX, aX, aX, aX, aX, aX, aX]) (Or.inl (by decide)) rfl (Nat.le_of_ble_eq_true rfl) rfl ?_
  refine aw_iload_n dX12_tuned_0 rfl ?_
  refine aw_iconst (v := (0 : Int32)) dX12_tuned_1 rfl ?_
  refine aw_aload_n dX12_tuned_2 rfl ?_
  refine aw_get dX12_tuned_3 rfl fk_RX12_175 (look_I rfl : look μ 12 0 11 = aI (μ 12 0 11)) ?_
  refine aw_iconst (v := (1 : Int32)) dX12_tuned_6 rfl ?_
  refine aw_isub dX12_tuned_7 ?_
  refine aw_callS (M' := M_X12_in) (vs := [aI x1, aI (0 : Int32), aI ((μ 12 0 11) - (1 : Int32))]) (st := []) dX12_tuned_8 mk_X12_in ms_X12_in ml_RX12_85 mp_X12_in rm_X12_tuned__X12_in (Nat.le_of_ble_eq_true rfl) rfl (cw_mono h ?_)
  clear h
  rintro _ μ1 ⟨r2, rfl, h⟩
  show aw Γ M_X12_tuned 11 [aR 12 0, aI x1, aI x2, aX, aX, aX, aX, aX, aX, aX, aX, aX] [aI r2] μ1 (rI Q)
  refine aw_if_eq (tgt := 23) dX12_tuned_11 (by decide) (fun c0 => ?_) (fun c0 => ?_)
  · replace h := h.1 c0
    refine aw_iconst (v := (-1 : Int32)) dX12_tuned_23 rfl ?_
    exact aw_iret dX12_tuned_24 rfl rfl ⟨_, rfl, h⟩
  · replace h := h.2 c0
    refine aw_iload_n dX12_tuned_14 rfl ?_
    refine aw_iconst (v := (0 : Int32)) dX12_tuned_15 rfl ?_
    refine aw_iconst (v := (3 : Int32)) dX12_tuned_16 rfl ?_
    refine aw_callS (M' := M_X12_in) (vs := [aI x2, aI (0 : Int32), aI (3 : Int32)]) (st := []) dX12_tuned_17 mk_X12_in ms_X12_in ml_RX12_85 mp_X12_in rm_X12_tuned__X12_in (Nat.le_of_ble_eq_true rfl) rfl (cw_mono h ?_)
    clear h
    rintro _ μ3 ⟨r4, rfl, h⟩
    show aw Γ M_X12_tuned 20 [aR 12 0, aI x1, aI x2, aX, aX, aX, aX, aX, aX, aX, aX, aX] [aI r4] μ3 (rI Q)
    refine aw_if_ne (tgt := 25) dX12_tuned_20 (by decide) (fun c0 => ?_) (fun c0 => ?_)
    · replace h := h.1 c0
      refine aw_iconst (v := (-1 : Int32)) dX12_tuned_25 rfl ?_
      refine aw_istore_n (ls' := [aR 12 0, aI x1, aI x2, aI (-1 : Int32), aX, aX, aX, aX, aX, aX, aX, aX]) dX12_tuned_26 (by decide) rfl rfl ?_
      refine aw_iconst (v := (0 : Int32)) dX12_tuned_27 rfl ?_
      refine aw_istore (ls' := [aR 12 0, aI x1, aI x2, aI (-1 : Int32), aI (0 : Int32), aX, aX, aX, aX, aX, aX, aX]) dX12_tuned_28 (by decide) rfl rfl ?_
      refine aw_iconst (v := (0 : Int32)) dX12_tuned_30 rfl ?_
      refine aw_istore (ls' := [aR 12 0, aI x1, aI x2, aI (-1 : Int32), aI (0 : Int32), aI (0 : Int32), aX, aX, aX, aX, aX, aX]) dX12_tuned_31 (by decide) rfl rfl ?_
      refine aw_iconst (v := (0 : Int32)) dX12_tuned_33 rfl ?_
      refine aw_istore (ls' := [aR 12 0, aI x1, aI x2, aI (-1 : Int32), aI (0 : Int32), aI (0 : Int32), aI (0 : Int32), aX, aX, aX, aX, aX]) dX12_tuned_34 (by decide) rfl rfl ?_
      refine aw_bipush (v := (8 : Int32)) dX12_tuned_36 rfl ?_
      refine aw_aload_n dX12_tuned_38 rfl ?_
      refine aw_get dX12_tuned_39 rfl fk_RX12_17 (look_R rfl rfl : look _ 12 0 7 = aR 42 0) ?_
      refine aw_iconst (v := (0 : Int32)) dX12_tuned_42 rfl ?_
      refine aw_ia (j := 0) (y := μ3 42 0 0) dX12_tuned_43 rfl (fun _ => rfl) (by unfold vp_in; decide) (by decide) (rfl) ?_
      refine aw_bipush (v := (6 : Int32)) dX12_tuned_44 rfl ?_
      refine aw_isub dX12_tuned_46 ?_
      refine aw_callS (M' := M_J9_max_7cf53) (vs := [aI (8 : Int32), aI ((μ3 42 0 0) - (6 : Int32))]) (st := []) dX12_tuned_47 mk_J9_max_7cf53 ms_J9_max_7cf53 ml_RX12_233 mp_J9_max_7cf53 rm_X12_tuned__J9_max_7cf53 (Nat.le_of_ble_eq_true rfl) rfl (cw_mono h ?_)
      clear h
      rintro _ μ5 ⟨r6, rfl, h⟩
      show aw Γ M_X12_tuned 50 [aR 12 0, aI x1, aI x2, aI (-1 : Int32), aI (0 : Int32), aI (0 : Int32), aI (0 : Int32), aX, aX, aX, aX, aX] [aI r6] μ5 (rI Q)
      refine aw_istore (ls' := [aR 12 0, aI x1, aI x2, aI (-1 : Int32), aI (0 : Int32), aI (0 : Int32), aI (0 : Int32), aI r6, aX, aX, aX, aX]) dX12_tuned_50 (by decide) rfl rfl ?_
      exact h
    · replace h := h.2 c0
      refine aw_iconst (v := (-1 : Int32)) dX12_tuned_23 rfl ?_
      exact aw_iret dX12_tuned_24 rfl rfl ⟨_, rfl, h⟩
theorem u_X12_tuned_52 {Γ : cx_T} {μ : mH} {x1 : Int32} {x2 : Int32} {x3 : Int32} {x4 : Int32} {x5 : Int32} {x6 : Int32} {x7 : Int32} {Q : Int32 → mH → Prop} (h : cwi Γ M_J9_min_7cf53 [aI (60 : Int32), aI ((μ 42 0 0) + (6 : Int32))] μ (fun r2 μ1 => (r2 < x7 → ((¬ x2 = 0 → ((¬ x2 = (1 : Int32) → ((¬ x2 = (2 : Int32) → (Q x6 μ1)) ∧ (x2 = (2 : Int32) → (Q x5 μ1)))) ∧ (x2 = (1 : Int32) → (Q x4 μ1)))) ∧ (x2 = 0 → (Q x3 μ1)))) ∧ (¬ r2 < x7 → (aw Γ M_X12_tuned 74 [aR 12 0, aI x1, aI x2, aI x3, aI x4, aI x5, aI x6, aI x7, aI (0 : Int32), aX, aX, aX] [] μ1 (rI Q))))) : aw Γ M_X12_tuned 52 [aR 12 0, aI x1, aI x2, aI x3, aI x4, aI x5, aI x6, aI x7, aX, aX, aX, aX] [] μ (rI Q) := by
  refine aw_iload dX12_tuned_52 rfl ?_
  refine aw_bipush (v := (60 : Int32)) dX12_tuned_54 rfl ?_
  refine aw_aload_n dX12_tuned_56 rfl ?_
  refine aw_get dX12_tuned_57 rfl fk_RX12_17 (look_R rfl rfl : look _ 12 0 7 = aR 42 0) ?_
  refine aw_iconst (v := (0 : Int32)) dX12_tuned_60 rfl ?_
  refine aw_ia (j := 0) (y := μ 42 0 0) dX12_tuned_61 rfl (fun _ => rfl) (by unfold vp_in; decide) (by decide) (rfl) ?_
  refine aw_bipush (v := (6 : Int32)) dX12_tuned_62 rfl ?_
  refine aw_iadd dX12_tuned_64 ?_
  refine aw_callS (M' := M_J9_min_7cf53) (vs := [aI (60 : Int32), aI ((μ 42 0 0) + (6 : Int32))]) (st := [aI x7]) dX12_tuned_65 mk_J9_min_7cf53 ms_J9_min_7cf53 ml_RX12_236 mp_J9_min_7cf53 rm_X12_tuned__J9_min_7cf53 (Nat.le_of_ble_eq_true rfl) rfl (cw_mono h ?_)
  clear h
  rintro _ μ1 ⟨r2, rfl, h⟩
  show aw Γ M_X12_tuned 68 [aR 12 0, aI x1, aI x2, aI x3, aI x4, aI x5, aI x6, aI x7, aX, aX, aX, aX] [aI r2, aI x7] μ1 (rI Q)
  refine aw_icmp_gt (tgt := 197) dX12_tuned_68 (by decide) (fun c0 => ?_) (fun c0 => ?_)
  · replace h := h.1 c0
    refine aw_iload_n dX12_tuned_197 rfl ?_
    refine aw_if_ne (tgt := 205) dX12_tuned_198 (by decide) (fun c0 => ?_) (fun c0 => ?_)
    · replace h := h.1 c0
      refine aw_iload_n dX12_tuned_205 rfl ?_
      refine aw_iconst (v := (1 : Int32)) dX12_tuned_206 rfl ?_
      refine aw_icmp_ne (tgt := 215) dX12_tuned_207 (by decide) (fun c0 => ?_) (fun c0 => ?_)
      · replace h := h.1 c0
        refine aw_iload_n dX12_tuned_215 rfl ?_
        refine aw_iconst (v := (2 : Int32)) dX12_tuned_216 rfl ?_
        refine aw_icmp_ne (tgt := 225) dX12_tuned_217 (by decide) (fun c0 => ?_) (fun c0 => ?_)
        · replace h := h.1 c0
          refine aw_iload dX12_tuned_225 rfl ?_
          exact aw_iret dX12_tuned_227 rfl rfl ⟨_, rfl, h⟩
        · replace h := h.2 c0
          refine aw_iload dX12_tuned_220 rfl ?_
          refine aw_goto (tgt := 227) dX12_tuned_222 (by decide) ?_
          exact aw_iret dX12_tuned_227 rfl rfl ⟨_, rfl, h⟩
      · replace h := h.2 c0
        refine aw_iload dX12_tuned_210 rfl ?_
        refine aw_goto (tgt := 227) dX12_tuned_212 (by decide) ?_
        exact aw_iret dX12_tuned_227 rfl rfl ⟨_, rfl, h⟩
    · replace h := h.2 c0
      refine aw_iload_n dX12_tuned_201 rfl ?_
      refine aw_goto (tgt := 227) dX12_tuned_202 (by decide) ?_
      exact aw_iret dX12_tuned_227 rfl rfl ⟨_, rfl, h⟩
  · replace h := h.2 c0
    refine aw_iconst (v := (0 : Int32)) dX12_tuned_71 rfl ?_
    refine aw_istore (ls' := [aR 12 0, aI x1, aI x2, aI x3, aI x4, aI x5, aI x6, aI x7, aI (0 : Int32), aX, aX, aX]) dX12_tuned_72 (by decide) rfl rfl ?_
    exact h
theorem u_X12_tuned_74 {Γ : cx_T} {μ : mH} {x1 : Int32} {x2 : Int32} {x3 : Int32} {x4 : Int32} {x5 : Int32} {x6 : Int32} {x7 : Int32} {x8 : Int32} {Q : Int32 → mH → Prop} (h : ((8 : Int32) < x8 → (aw Γ M_X12_tuned 52 [aR 12 0, aI x1, aI x2, aI x3, aI x4, aI x5, aI x6, aI (x7 + (1 : Int32)), aX, aX, aX, aX] [] μ (rI Q))) ∧ (¬ (8 : Int32) < x8 → (cwv Γ M_X12_finds [aR 12 0, aI x1, aI x7, aI x8] μ (fun μ1 => aw Γ M_X12_tuned 99 [aR 12 0, aI x1, aI x2, aI x3, aI x4, aI x5, aI x6, aI x7, aI x8, aI (0 : Int32), aI (0 : Int32), aI (0 : Int32)] [] μ1 (rI Q))))) : aw Γ M_X12_tuned 74 [aR 12 0, aI x1, aI x2, aI x3, aI x4, aI x5, aI x6, aI x7, aI x8, aX, aX, aX] [] μ (rI Q) := by
  refine aw_iload dX12_tuned_74 rfl ?_
  refine aw_bipush (v := (8 : Int32)) dX12_tuned_76 rfl ?_
  refine aw_icmp_gt (tgt := 191) dX12_tuned_78 (by decide) (fun c0 => ?_) (fun c0 => ?_)
  · replace h := h.1 c0
    refine aw_iinc (v := x7 + (1 : Int32)) (ls' := [aR 12 0, aI x1, aI x2, aI x3, aI x4, aI x5, aI x6, aI (x7 + (1 : Int32)), aI x8, aX, aX, aX]) dX12_tuned_191 rfl rfl (by decide) rfl rfl ?_
    refine aw_goto (tgt := 52) dX12_tuned_194 (by decide) ?_
    exact aw_wkk h (wk_e (wk_e (wk_e (wk_e (wk_e (wk_e (wk_e (wk_e (wk_x (wk_e (wk_e (wk_e wk_n))))))))))))
  · replace h := h.2 c0
    refine aw_aload_n dX12_tuned_81 rfl ?_
    refine aw_iload_n dX12_tuned_82 rfl ?_
    refine aw_iload dX12_tuned_83 rfl ?_
    refine aw_iload dX12_tuned_85 rfl ?_
    refine aw_callV (M' := M_X12_finds) (K := 12) (i := 0) (vs := [aI x1, aI x7, aI x8]) (st := []) dX12_tuned_87 mk_X12_finds mi_X12_finds ml_RX12_224 mp_X12_finds rc_12 rm_X12_tuned__X12_finds (Nat.le_of_ble_eq_true rfl) rfl (cw_mono h ?_)
    clear h
    intro _ μ1 h
    show aw Γ M_X12_tuned 90 [aR 12 0, aI x1, aI x2, aI x3, aI x4, aI x5, aI x6, aI x7, aI x8, aX, aX, aX] [] μ1 (rI Q)
    refine aw_iconst (v := (0 : Int32)) dX12_tuned_90 rfl ?_
    refine aw_istore (ls' := [aR 12 0, aI x1, aI x2, aI x3, aI x4, aI x5, aI x6, aI x7, aI x8, aI (0 : Int32), aX, aX]) dX12_tuned_91 (by decide) rfl rfl ?_
    refine aw_iconst (v := (0 : Int32)) dX12_tuned_93 rfl ?_
    refine aw_istore (ls' := [aR 12 0, aI x1, aI x2, aI x3, aI x4, aI x5, aI x6, aI x7, aI x8, aI (0 : Int32), aI (0 : Int32), aX]) dX12_tuned_94 (by decide) rfl rfl ?_
    refine aw_iconst (v := (0 : Int32)) dX12_tuned_96 rfl ?_
    refine aw_istore (ls' := [aR 12 0, aI x1, aI x2, aI x3, aI x4, aI x5, aI x6, aI x7, aI x8, aI (0 : Int32), aI (0 : Int32), aI (0 : Int32)]) dX12_tuned_97 (by decide) rfl rfl ?_
    exact h
theorem u_X12_tuned_99 {Γ : cx_T} {μ : mH} {x1 : Int32} {x2 : Int32} {x3 : Int32} {x4 : Int32} {x5 : Int32} {x6 : Int32} {x7 : Int32} {x8 : Int32} {x9 : Int32} {x10 : Int32} {x11 : Int32} {Q : Int32 → mH → Prop} (h : ((μ 12 0 21) ≤ x11 → ((x3 = (-1 : Int32) → (aw Γ M_X12_tuned 74 [aR 12 0, aI x1, aI x2, aI x7, aI x8, aI x9, aI x10, aI x7, aI (x8 + (1 : Int32)), aX, aX, aX] [] μ (rI Q))) ∧ (¬ x3 = (-1 : Int32) → ((x9 < x5 → (aw Γ M_X12_tuned 74 [aR 12 0, aI x1, aI x2, aI x3, aI x4, aI x5, aI x6, aI x7, aI (x8 + (1 : Int32)), aX, aX, aX] [] μ (rI Q))) ∧ (¬ x9 < x5 → ((¬ x9 = x5 → (aw Γ M_X12_tuned 74 [aR 12 0, aI x1, aI x2, aI x7, aI x8, aI x9, aI x10, aI x7, aI (x8 + (1 : Int32)), aX, aX, aX] [] μ (rI Q))) ∧ (x9 = x5 → ((x10 < x6 → (aw Γ M_X12_tuned 74 [aR 12 0, aI x1, aI x2, aI x7, aI x8, aI x9, aI x10, aI x7, aI (x8 + (1 : Int32)), aX, aX, aX] [] μ (rI Q))) ∧ (¬ x10 < x6 → (aw Γ M_X12_tuned 74 [aR 12 0, aI x1, aI x2, aI x3, aI x4, aI x5, aI x6, aI x7, aI (x8 + (1 : Int32)), aX, aX, aX] [] μ (rI Q))))))))))) ∧ (¬ (μ 12 0 21) ≤ x11 → (cwi Γ M_X12_isRight [aR 12 0, aI x11] μ (fun r2 μ1 => (¬ r2 = 0 → (vp_in x11 8 ∧ (aw Γ M_X12_tuned 99 [aR 12 0, aI x1, aI x2, aI x3, aI x4, aI x5, aI x6, aI x7, aI x8, aI (x9 + (1 : Int32)), aI (x10 + (μ1 53 0 (tn x11))), aI (x11 + (1 : Int32))] [] μ1 (rI Q)))) ∧ (r2 = 0 → (aw Γ M_X12_tuned 99 [aR 12 0, aI x1, aI x2, aI x3, aI x4, aI x5, aI x6, aI x7, aI x8, aI x9, aI x10, aI (x11 + (1 : Int32))] [] μ1 (rI Q))))))) : aw Γ M_X12_tuned 99 [aR 12 0, aI x1, aI x2, aI x3, aI x4, aI x5, aI x6, aI x7, aI x8, aI x9, aI x10, aI x11] [] μ (rI Q) := by
  refine aw_iload dX12_tuned_99 rfl ?_
  refine aw_aload_n dX12_tuned_101 rfl ?_
  refine aw_get dX12_tuned_102 rfl fk_RX12_201 (look_I rfl : look μ 12 0 21 = aI (μ 12 0 21)) ?_
  refine aw_icmp_ge (tgt := 141) dX12_tuned_105 (by decide) (fun c0 => ?_) (fun c0 => ?_)
  · replace h := h.1 c0
    refine aw_iload_n dX12_tuned_141 rfl ?_
    refine aw_iconst (v := (-1 : Int32)) dX12_tuned_142 rfl ?_
    refine aw_icmp_eq (tgt := 170) dX12_tuned_143 (by decide) (fun c0 => ?_) (fun c0 => ?_)
    · replace h := h.1 c0
      refine aw_iload dX12_tuned_170 rfl ?_
      refine aw_istore_n (ls' := [aR 12 0, aI x1, aI x2, aI x7, aI x4, aI x5, aI x6, aI x7, aI x8, aI x9, aI x10, aI x11]) dX12_tuned_172 (by decide) rfl rfl ?_
      refine aw_iload dX12_tuned_173 rfl ?_
      refine aw_istore (ls' := [aR 12 0, aI x1, aI x2, aI x7, aI x8, aI x5, aI x6, aI x7, aI x8, aI x9, aI x10, aI x11]) dX12_tuned_175 (by decide) rfl rfl ?_
      refine aw_iload dX12_tuned_177 rfl ?_
      refine aw_istore (ls' := [aR 12 0, aI x1, aI x2, aI x7, aI x8, aI x9, aI x6, aI x7, aI x8, aI x9, aI x10, aI x11]) dX12_tuned_179 (by decide) rfl rfl ?_
      refine aw_iload dX12_tuned_181 rfl ?_
      refine aw_istore (ls' := [aR 12 0, aI x1, aI x2, aI x7, aI x8, aI x9, aI x10, aI x7, aI x8, aI x9, aI x10, aI x11]) dX12_tuned_183 (by decide) rfl rfl ?_
      refine aw_iinc (v := x8 + (1 : Int32)) (ls' := [aR 12 0, aI x1, aI x2, aI x7, aI x8, aI x9, aI x10, aI x7, aI (x8 + (1 : Int32)), aI x9, aI x10, aI x11]) dX12_tuned_185 rfl rfl (by decide) rfl rfl ?_
      refine aw_goto (tgt := 74) dX12_tuned_188 (by decide) ?_
      exact aw_wkk h (wk_e (wk_e (wk_e (wk_e (wk_e (wk_e (wk_e (wk_e (wk_e (wk_x (wk_x (wk_x wk_n))))))))))))
    · replace h := h.2 c0
      refine aw_iload dX12_tuned_146 rfl ?_
      refine aw_iload dX12_tuned_148 rfl ?_
      refine aw_icmp_lt (tgt := 185) dX12_tuned_150 (by decide) (fun c0 => ?_) (fun c0 => ?_)
      · replace h := h.1 c0
        refine aw_iinc (v := x8 + (1 : Int32)) (ls' := [aR 12 0, aI x1, aI x2, aI x3, aI x4, aI x5, aI x6, aI x7, aI (x8 + (1 : Int32)), aI x9, aI x10, aI x11]) dX12_tuned_185 rfl rfl (by decide) rfl rfl ?_
        refine aw_goto (tgt := 74) dX12_tuned_188 (by decide) ?_
        exact aw_wkk h (wk_e (wk_e (wk_e (wk_e (wk_e (wk_e (wk_e (wk_e (wk_e (wk_x (wk_x (wk_x wk_n))))))))))))
      · replace h := h.2 c0
        refine aw_iload dX12_tuned_153 rfl ?_
        refine aw_iload dX12_tuned_155 rfl ?_
        refine aw_icmp_ne (tgt := 170) dX12_tuned_157 (by decide) (fun c0 => ?_) (fun c0 => ?_)
        · replace h := h.1 c0
          refine aw_iload dX12_tuned_170 rfl ?_
          refine aw_istore_n (ls' := [aR 12 0, aI x1, aI x2, aI x7, aI x4, aI x5, aI x6, aI x7, aI x8, aI x9, aI x10, aI x11]) dX12_tuned_172 (by decide) rfl rfl ?_
          refine aw_iload dX12_tuned_173 rfl ?_
          refine aw_istore (ls' := [aR 12 0, aI x1, aI x2, aI x7, aI x8, aI x5, aI x6, aI x7, aI x8, aI x9, aI x10, aI x11]) dX12_tuned_175 (by decide) rfl rfl ?_
          refine aw_iload dX12_tuned_177 rfl ?_
          refine aw_istore (ls' := [aR 12 0, aI x1, aI x2, aI x7, aI x8, aI x9, aI x6, aI x7, aI x8, aI x9, aI x10, aI x11]) dX12_tuned_179 (by decide) rfl rfl ?_
          refine aw_iload dX12_tuned_181 rfl ?_
          refine aw_istore (ls' := [aR 12 0, aI x1, aI x2, aI x7, aI x8, aI x9, aI x10, aI x7, aI x8, aI x9, aI x10, aI x11]) dX12_tuned_183 (by decide) rfl rfl ?_
          refine aw_iinc (v := x8 + (1 : Int32)) (ls' := [aR 12 0, aI x1, aI x2, aI x7, aI x8, aI x9, aI x10, aI x7, aI (x8 + (1 : Int32)), aI x9, aI x10, aI x11]) dX12_tuned_185 rfl rfl (by decide) rfl rfl ?_
          refine aw_goto (tgt := 74) dX12_tuned_188 (by decide) ?_
          exact aw_wkk h (wk_e (wk_e (wk_e (wk_e (wk_e (wk_e (wk_e (wk_e (wk_e (wk_x (wk_x (wk_x wk_n))))))))))))
        · replace h := h.2 c0
          refine aw_iload dX12_tuned_160 rfl ?_
          refine aw_iload dX12_tuned_162 rfl ?_
          refine aw_icmp_lt (tgt := 170) dX12_tuned_164 (by decide) (fun c0 => ?_) (fun c0 => ?_)
          · replace h := h.1 c0
            refine aw_iload dX12_tuned_170 rfl ?_
            refine aw_istore_n (ls' := [aR 12 0, aI x1, aI x2, aI x7, aI x4, aI x5, aI x6, aI x7, aI x8, aI x9, aI x10, aI x11]) dX12_tuned_172 (by decide) rfl rfl ?_
            refine aw_iload dX12_tuned_173 rfl ?_
            refine aw_istore (ls' := [aR 12 0, aI x1, aI x2, aI x7, aI x8, aI x5, aI x6, aI x7, aI x8, aI x9, aI x10, aI x11]) dX12_tuned_175 (by decide) rfl rfl ?_
            refine aw_iload dX12_tuned_177 rfl ?_
            refine aw_istore (ls' := [aR 12 0, aI x1, aI x2, aI x7, aI x8, aI x9, aI x6, aI x7, aI x8, aI x9, aI x10, aI x11]) dX12_tuned_179 (by decide) rfl rfl ?_
            refine aw_iload dX12_tuned_181 rfl ?_
            refine aw_istore (ls' := [aR 12 0, aI x1, aI x2, aI x7, aI x8, aI x9, aI x10, aI x7, aI x8, aI x9, aI x10, aI x11]) dX12_tuned_183 (by decide) rfl rfl ?_
            refine aw_iinc (v := x8 + (1 : Int32)) (ls' := [aR 12 0, aI x1, aI x2, aI x7, aI x8, aI x9, aI x10, aI x7, aI (x8 + (1 : Int32)), aI x9, aI x10, aI x11]) dX12_tuned_185 rfl rfl (by decide) rfl rfl ?_
            refine aw_goto (tgt := 74) dX12_tuned_188 (by decide) ?_
            exact aw_wkk h (wk_e (wk_e (wk_e (wk_e (wk_e (wk_e (wk_e (wk_e (wk_e (wk_x (wk_x (wk_x wk_n))))))))))))
          · replace h := h.2 c0
            refine aw_goto (tgt := 185) dX12_tuned_167 (by decide) ?_
            refine aw_iinc (v := x8 + (1 : Int32)) (ls' := [aR 12 0, aI x1, aI x2, aI x3, aI x4, aI x5, aI x6, aI x7, aI (x8 + (1 : Int32)), aI x9, aI x10, aI x11]) dX12_tuned_185 rfl rfl (by decide) rfl rfl ?_
            refine aw_goto (tgt := 74) dX12_tuned_188 (by decide) ?_
            exact aw_wkk h (wk_e (wk_e (wk_e (wk_e (wk_e (wk_e (wk_e (wk_e (wk_e (wk_x (wk_x (wk_x wk_n))))))))))))
  · replace h := h.2 c0
    refine aw_aload_n dX12_tuned_108 rfl ?_
    refine aw_iload dX12_tuned_109 rfl ?_
    refine aw_callV (M' := M_X12_isRight) (K := 12) (i := 0) (vs := [aI x11]) (st := []) dX12_tuned_111 mk_X12_isRight mi_X12_isRight ml_RX12_239 mp_X12_isRight rc_12 rm_X12_tuned__X12_isRight (Nat.le_of_ble_eq_true rfl) rfl (cw_mono h ?_)
    clear h
    rintro _ μ1 ⟨r2, rfl, h⟩
    show aw Γ M_X12_tuned 114 [aR 12 0, aI x1, aI x2, aI x3, aI x4, aI x5, aI x6, aI x7, aI x8, aI x9, aI x10, aI x11] [aI r2] μ1 (rI Q)
    refine aw_if_ne (tgt := 120) dX12_tuned_114 (by decide) (fun c0 => ?_) (fun c0 => ?_)
    · replace h := h.1 c0
      refine aw_iinc (v := x9 + (1 : Int32)) (ls' := [aR 12 0, aI x1, aI x2, aI x3, aI x4, aI x5, aI x6, aI x7, aI x8, aI (x9 + (1 : Int32)), aI x10, aI x11]) dX12_tuned_120 rfl rfl (by decide) rfl rfl ?_
      refine aw_iload dX12_tuned_123 rfl ?_
      refine aw_aload_n dX12_tuned_125 rfl ?_
      refine aw_get dX12_tuned_126 rfl fk_RX12_51 (look_R rfl rfl : look _ 12 0 24 = aR 53 0) ?_
      refine aw_iload dX12_tuned_129 rfl ?_
      refine aw_ia (j := tn x11) (y := μ1 53 0 (tn x11)) dX12_tuned_131 rfl (fun _ => rfl) h.1 rfl (rfl) ?_
      replace h := h.2
      refine aw_iadd dX12_tuned_132 ?_
      refine aw_istore (ls' := [aR 12 0, aI x1, aI x2, aI x3, aI x4, aI x5, aI x6, aI x7, aI x8, aI (x9 + (1 : Int32)), aI (x10 + (μ1 53 0 (tn x11))), aI x11]) dX12_tuned_133 (by decide) rfl rfl ?_
      refine aw_iinc (v := x11 + (1 : Int32)) (ls' := [aR 12 0, aI x1, aI x2, aI x3, aI x4, aI x5, aI x6, aI x7, aI x8, aI (x9 + (1 : Int32)), aI (x10 + (μ1 53 0 (tn x11))), aI (x11 + (1 : Int32))]) dX12_tuned_135 rfl rfl (by decide) rfl rfl ?_
      refine aw_goto (tgt := 99) dX12_tuned_138 (by decide) ?_
      exact h
    · replace h := h.2 c0
      refine aw_goto (tgt := 135) dX12_tuned_117 (by decide) ?_
      refine aw_iinc (v := x11 + (1 : Int32)) (ls' := [aR 12 0, aI x1, aI x2, aI x3, aI x4, aI x5, aI x6, aI x7, aI x8, aI x9, aI x10, aI (x11 + (1 : Int32))]) dX12_tuned_135 rfl rfl (by decide) rfl rfl ?_
      refine aw_goto (tgt := 99) dX12_tuned_138 (by decide) ?_
      exact h
theorem u_X12_gathers {Γ : cx_T} {μ : mH} {x1 : Int32} {x2 : Int32} {Q : mH → Prop} (h : aw Γ M_X12_gathers 7 [aR 12 0, aI x1, aI x2, aI (0 : Int32), aX, aX] [] (sto μ 12 0 26 (0 : Int32)) (rV Q)) : cwv Γ M_X12_gathers [aR 12 0, aI x1, aI x2] μ Q := by
  refine cw_ofU (ls := [aR 12 0, aI x1, aI x2, aX, aX, aX]) (Or.inl (by decide)) rfl (Nat.le_of_ble_eq_true rfl) rfl ?_
  refine aw_aload_n dX12_gathers_0 rfl ?_
  refine aw_iconst (v := (0 : Int32)) dX12_gathers_1 rfl ?_
  refine aw_putI dX12_gathers_2 rfl fk_RX12_242 (fun r h => by cases h; rfl) rfl rfl ?_
  refine aw_iconst (v := (0 : Int32)) dX12_gathers_5 rfl ?_
  refine aw_istore_n (ls' := [aR 12 0, aI x1, aI x2, aI (0 : Int32), aX, aX]) dX12_gathers_6 (by decide) rfl rfl ?_
  exact h
theorem u_X12_gathers_7 {Γ : cx_T} {μ : mH} {x1 : Int32} {x2 : Int32} {x3 : Int32} {Q : mH → Prop} (h : ((μ 12 0 11) ≤ x3 → (Q μ)) ∧ (¬ (μ 12 0 11) ≤ x3 → (cwv Γ M_X12_finds [aR 12 0, aI x3, aI (μ 42 0 0), aI (μ 42 0 1)] μ (fun μ1 => aw Γ M_X12_gathers 35 [aR 12 0, aI x1, aI x2, aI x3, aI (0 : Int32), aX] [] μ1 (rV Q))))) : aw Γ M_X12_gathers 7 [aR 12 0, aI x1, aI x2, aI x3, aX, aX] [] μ (rV Q) := by
  refine aw_iload_n dX12_gathers_7 rfl ?_
  refine aw_aload_n dX12_gathers_8 rfl ?_
  refine aw_get dX12_gathers_9 rfl fk_RX12_175 (look_I rfl : look μ 12 0 11 = aI (μ 12 0 11)) ?_
  refine aw_icmp_ge (tgt := 150) dX12_gathers_12 (by decide) (fun c0 => ?_) (fun c0 => ?_)
  · replace h := h.1 c0
    exact aw_vret dX12_gathers_150 rfl h
  · replace h := h.2 c0
    refine aw_aload_n dX12_gathers_15 rfl ?_
    refine aw_iload_n dX12_gathers_16 rfl ?_
    refine aw_aload_n dX12_gathers_17 rfl ?_
    refine aw_get dX12_gathers_18 rfl fk_RX12_17 (look_R rfl rfl : look _ 12 0 7 = aR 42 0) ?_
    refine aw_iconst (v := (0 : Int32)) dX12_gathers_21 rfl ?_
    refine aw_ia (j := 0) (y := μ 42 0 0) dX12_gathers_22 rfl (fun _ => rfl) (by unfold vp_in; decide) (by decide) (rfl) ?_
    refine aw_aload_n dX12_gathers_23 rfl ?_
    refine aw_get dX12_gathers_24 rfl fk_RX12_17 (look_R rfl rfl : look _ 12 0 7 = aR 42 0) ?_
    refine aw_iconst (v := (1 : Int32)) dX12_gathers_27 rfl ?_
    refine aw_ia (j := 1) (y := μ 42 0 1) dX12_gathers_28 rfl (fun _ => rfl) (by unfold vp_in; decide) (by decide) (rfl) ?_
    refine aw_callV (M' := M_X12_finds) (K := 12) (i := 0) (vs := [aI x3, aI (μ 42 0 0), aI (μ 42 0 1)]) (st := []) dX12_gathers_29 mk_X12_finds mi_X12_finds ml_RX12_224 mp_X12_finds rc_12 rm_X12_gathers__X12_finds (Nat.le_of_ble_eq_true rfl) rfl (cw_mono h ?_)
    clear h
    intro _ μ1 h
    show aw Γ M_X12_gathers 32 [aR 12 0, aI x1, aI x2, aI x3, aX, aX] [] μ1 (rV Q)
    refine aw_iconst (v := (0 : Int32)) dX12_gathers_32 rfl ?_
    refine aw_istore (ls' := [aR 12 0, aI x1, aI x2, aI x3, aI (0 : Int32), aX]) dX12_gathers_33 (by decide) rfl rfl ?_
    exact h
theorem u_X12_gathers_35 {Γ : cx_T} {μ : mH} {x1 : Int32} {x2 : Int32} {x3 : Int32} {x4 : Int32} {Q : mH → Prop} (h : ((μ 12 0 21) ≤ x4 → (aw Γ M_X12_gathers 7 [aR 12 0, aI x1, aI x2, aI (x3 + (1 : Int32)), aX, aX] [] μ (rV Q))) ∧ (¬ (μ 12 0 21) ≤ x4 → (cwi Γ M_X12_trackOf [aR 12 0, aI x4] μ (fun r2 μ1 => (¬ r2 = x1 → (aw Γ M_X12_gathers 35 [aR 12 0, aI x1, aI x2, aI x3, aI (x4 + (1 : Int32)), aX] [] μ1 (rV Q))) ∧ (r2 = x1 → (cwi Γ M_X12_numberOf [aR 12 0, aI x4] μ1 (fun r4 μ3 => (r4 = x2 → (aw Γ M_X12_gathers 70 [aR 12 0, aI x1, aI x2, aI x3, aI x4, aI (0 : Int32)] [] μ3 (rV Q))) ∧ (¬ r4 = x2 → (aw Γ M_X12_gathers 35 [aR 12 0, aI x1, aI x2, aI x3, aI (x4 + (1 : Int32)), aX] [] μ3 (rV Q)))))))))) : aw Γ M_X12_gathers 35 [aR 12 0, aI x1, aI x2, aI x3, aI x4, aX] [] μ (rV Q) := by
  refine aw_iload dX12_gathers_35 rfl ?_
  refine aw_aload_n dX12_gathers_37 rfl ?_
  refine aw_get dX12_gathers_38 rfl fk_RX12_201 (look_I rfl : look μ 12 0 21 = aI (μ 12 0 21)) ?_
  refine aw_icmp_ge (tgt := 144) dX12_gathers_41 (by decide) (fun c0 => ?_) (fun c0 => ?_)
  · replace h := h.1 c0
    refine aw_iinc (v := x3 + (1 : Int32)) (ls' := [aR 12 0, aI x1, aI x2, aI (x3 + (1 : Int32)), aI x4, aX]) dX12_gathers_144 rfl rfl (by decide) rfl rfl ?_
    refine aw_goto (tgt := 7) dX12_gathers_147 (by decide) ?_
    exact aw_wkk h (wk_e (wk_e (wk_e (wk_e (wk_x (wk_e wk_n))))))
  · replace h := h.2 c0
    refine aw_aload_n dX12_gathers_44 rfl ?_
    refine aw_iload dX12_gathers_45 rfl ?_
    refine aw_callV (M' := M_X12_trackOf) (K := 12) (i := 0) (vs := [aI x4]) (st := []) dX12_gathers_47 mk_X12_trackOf mi_X12_trackOf ml_RX12_227 mp_X12_trackOf rc_12 rm_X12_gathers__X12_trackOf (Nat.le_of_ble_eq_true rfl) rfl (cw_mono h ?_)
    clear h
    rintro _ μ1 ⟨r2, rfl, h⟩
    show aw Γ M_X12_gathers 50 [aR 12 0, aI x1, aI x2, aI x3, aI x4, aX] [aI r2] μ1 (rV Q)
    refine aw_iload_n dX12_gathers_50 rfl ?_
    refine aw_icmp_ne (tgt := 138) dX12_gathers_51 (by decide) (fun c0 => ?_) (fun c0 => ?_)
    · replace h := h.1 c0
      refine aw_iinc (v := x4 + (1 : Int32)) (ls' := [aR 12 0, aI x1, aI x2, aI x3, aI (x4 + (1 : Int32)), aX]) dX12_gathers_138 rfl rfl (by decide) rfl rfl ?_
      refine aw_goto (tgt := 35) dX12_gathers_141 (by decide) ?_
      exact h
    · replace h := h.2 c0
      refine aw_aload_n dX12_gathers_54 rfl ?_
      refine aw_iload dX12_gathers_55 rfl ?_
      refine aw_callV (M' := M_X12_numberOf) (K := 12) (i := 0) (vs := [aI x4]) (st := []) dX12_gathers_57 mk_X12_numberOf mi_X12_numberOf ml_RX12_230 mp_X12_numberOf rc_12 rm_X12_gathers__X12_numberOf (Nat.le_of_ble_eq_true rfl) rfl (cw_mono h ?_)
      clear h
      rintro _ μ3 ⟨r4, rfl, h⟩
      show aw Γ M_X12_gathers 60 [aR 12 0, aI x1, aI x2, aI x3, aI x4, aX] [aI r4] μ3 (rV Q)
      refine aw_iload_n dX12_gathers_60 rfl ?_
      refine aw_icmp_eq (tgt := 67) dX12_gathers_61 (by decide) (fun c0 => ?_) (fun c0 => ?_)
      · replace h := h.1 c0
        refine aw_iconst (v := (0 : Int32)) dX12_gathers_67 rfl ?_
        refine aw_istore (ls' := [aR 12 0, aI x1, aI x2, aI x3, aI x4, aI (0 : Int32)]) dX12_gathers_68 (by decide) rfl rfl ?_
        exact h
      · replace h := h.2 c0
        refine aw_goto (tgt := 138) dX12_gathers_64 (by decide) ?_
        refine aw_iinc (v := x4 + (1 : Int32)) (ls' := [aR 12 0, aI x1, aI x2, aI x3, aI (x4 + (1 : Int32)), aX]) dX12_gathers_138 rfl rfl (by decide) rfl rfl ?_
        refine aw_goto (tgt := 35) dX12_gathers_141 (by decide) ?_
        exact h
theorem u_X12_gathers_70 {Γ : cx_T} {μ : mH} {x1 : Int32} {x2 : Int32} {x3 : Int32} {x4 : Int32} {x5 : Int32} {Q : mH → Prop} (h : cwi Γ M_X12_many [aR 12 0] μ (fun r2 μ1 => (r2 ≤ x5 → (cwi Γ M_X12_isRight [aR 12 0, aI x4] μ1 (fun r4 μ3 => vp_in (μ1 12 0 26) 80 ∧ (aw Γ M_X12_gathers 35 [aR 12 0, aI x1, aI x2, aI x3, aI (x4 + (1 : Int32)), aX] [] (sto (sto μ3 56 0 (tn (μ1 12 0 26)) (r4 &&& 1)) 12 0 26 ((μ3 12 0 26) + (1 : Int32))) (rV Q))))) ∧ (¬ r2 ≤ x5 → (vp_in (((12 : Int32) * x4) + x5) 96 ∧ (vp_in (((12 : Int32) * (μ1 12 0 26)) + x5) 960 ∧ (aw Γ M_X12_gathers 70 [aR 12 0, aI x1, aI x2, aI x3, aI x4, aI (x5 + (1 : Int32))] [] (sto μ1 55 0 (tn (((12 : Int32) * (μ1 12 0 26)) + x5)) (μ1 52 0 (tn (((12 : Int32) * x4) + x5)))) (rV Q))))))) : aw Γ M_X12_gathers 70 [aR 12 0, aI x1, aI x2, aI x3, aI x4, aI x5] [] μ (rV Q) := by
  refine aw_iload dX12_gathers_70 rfl ?_
  refine aw_aload_n dX12_gathers_72 rfl ?_
  refine aw_callV (M' := M_X12_many) (K := 12) (i := 0) (vs := []) (st := [aI x5]) dX12_gathers_73 mk_X12_many mi_X12_many ml_RX12_204 mp_X12_many rc_12 rm_X12_gathers__X12_many (Nat.le_of_ble_eq_true rfl) rfl (cw_mono h ?_)
  clear h
  rintro _ μ1 ⟨r2, rfl, h⟩
  show aw Γ M_X12_gathers 76 [aR 12 0, aI x1, aI x2, aI x3, aI x4, aI x5] [aI r2, aI x5] μ1 (rV Q)
  refine aw_icmp_ge (tgt := 113) dX12_gathers_76 (by decide) (fun c0 => ?_) (fun c0 => ?_)
  · replace h := h.1 c0
    refine aw_aload_n dX12_gathers_113 rfl ?_
    refine aw_get dX12_gathers_114 rfl fk_RX12_60 (look_R rfl rfl : look _ 12 0 28 = aR 56 0) ?_
    refine aw_aload_n dX12_gathers_117 rfl ?_
    refine aw_get dX12_gathers_118 rfl fk_RX12_242 (look_I rfl : look μ1 12 0 26 = aI (μ1 12 0 26)) ?_
    refine aw_aload_n dX12_gathers_121 rfl ?_
    refine aw_iload dX12_gathers_122 rfl ?_
    refine aw_callV (M' := M_X12_isRight) (K := 12) (i := 0) (vs := [aI x4]) (st := [aI (μ1 12 0 26), aR 56 0]) dX12_gathers_124 mk_X12_isRight mi_X12_isRight ml_RX12_239 mp_X12_isRight rc_12 rm_X12_gathers__X12_isRight (Nat.le_of_ble_eq_true rfl) rfl (cw_mono h ?_)
    clear h
    rintro _ μ3 ⟨r4, rfl, h⟩
    show aw Γ M_X12_gathers 127 [aR 12 0, aI x1, aI x2, aI x3, aI x4, aI x5] [aI r4, aI (μ1 12 0 26), aR 56 0] μ3 (rV Q)
    refine aw_zs (j := tn (μ1 12 0 26)) dX12_gathers_127 rfl (fun _ => rfl) h.1 rfl ?_
    replace h := h.2
    refine aw_aload_n dX12_gathers_128 rfl ?_
    refine aw_dup dX12_gathers_129 (fun _ => rfl) ?_
    refine aw_get dX12_gathers_130 rfl fk_RX12_242 ((look_I rfl).trans (congrArg aI ((sto_K (by decide)).trans (rfl))) : look (sto μ3 56 0 (tn (μ1 12 0 26)) (r4 &&& 1)) 12 0 26 = aI (μ3 12 0 26)) ?_
    refine aw_iconst (v := (1 : Int32)) dX12_gathers_133 rfl ?_
    refine aw_iadd dX12_gathers_134 ?_
    refine aw_putI dX12_gathers_135 rfl fk_RX12_242 (fun r h => by cases h; rfl) rfl rfl ?_
    refine aw_iinc (v := x4 + (1 : Int32)) (ls' := [aR 12 0, aI x1, aI x2, aI x3, aI (x4 + (1 : Int32)), aI x5]) dX12_gathers_138 rfl rfl (by decide) rfl rfl ?_
    refine aw_goto (tgt := 35) dX12_gathers_141 (by decide) ?_
    exact aw_wkk h (wk_e (wk_e (wk_e (wk_e (wk_e (wk_x wk_n))))))
  · replace h := h.2 c0
    refine aw_aload_n dX12_gathers_79 rfl ?_
    refine aw_get dX12_gathers_80 rfl fk_RX12_57 (look_R rfl rfl : look _ 12 0 27 = aR 55 0) ?_
    refine aw_bipush (v := (12 : Int32)) dX12_gathers_83 rfl ?_
    refine aw_aload_n dX12_gathers_85 rfl ?_
    refine aw_get dX12_gathers_86 rfl fk_RX12_242 (look_I rfl : look μ1 12 0 26 = aI (μ1 12 0 26)) ?_
    refine aw_imul dX12_gathers_89 ?_
    refine aw_iload dX12_gathers_90 rfl ?_
    refine aw_iadd dX12_gathers_92 ?_
    refine aw_aload_n dX12_gathers_93 rfl ?_
    refine aw_get dX12_gathers_94 rfl fk_RX12_48 (look_R rfl rfl : look _ 12 0 23 = aR 52 0) ?_
    refine aw_bipush (v := (12 : Int32)) dX12_gathers_97 rfl ?_
    refine aw_iload dX12_gathers_99 rfl ?_
    refine aw_imul dX12_gathers_101 ?_
    refine aw_iload dX12_gathers_102 rfl ?_
    refine aw_iadd dX12_gathers_104 ?_
    refine aw_ia (j := tn (((12 : Int32) * x4) + x5)) (y := μ1 52 0 (tn (((12 : Int32) * x4) + x5))) dX12_gathers_105 rfl (fun _ => rfl) h.1 rfl (rfl) ?_
    replace h := h.2
    refine aw_is (j := tn (((12 : Int32) * (μ1 12 0 26)) + x5)) dX12_gathers_106 rfl (fun _ => rfl) h.1 rfl ?_
    replace h := h.2
    refine aw_iinc (v := x5 + (1 : Int32)) (ls' := [aR 12 0, aI x1, aI x2, aI x3, aI x4, aI (x5 + (1 : Int32))]) dX12_gathers_107 rfl rfl (by decide) rfl rfl ?_
    refine aw_goto (tgt := 70) dX12_gathers_110 (by decide) ?_
    exact h
theorem u_X12_isAhead {Γ : cx_T} {μ : mH} {x1 : Int32} {x2 : Int32} {Q : Int32 → mH → Prop} (h : aw Γ M_X12_isAhead 2 [aR 12 0, aI x1, aI x2, aI (0 : Int32)] [] μ (rI Q)) : cwi Γ M_X12_isAhead [aR 12 0, aI x1, aI x2] μ Q := by
  refine cw_ofU (ls := [aR 12 0, aI x1, aI x2, aX]) (Or.inl (by decide)) rfl (Nat.le_of_ble_eq_true rfl) rfl ?_
  refine aw_iconst (v := (0 : Int32)) dX12_isAhead_0 rfl ?_
  refine aw_istore_n (ls' := [aR 12 0, aI x1, aI x2, aI (0 : Int32)]) dX12_isAhead_1 (by decide) rfl rfl ?_
  exact h
theorem u_X12_isAhead_2 {Γ : cx_T} {μ : mH} {x1 : Int32} {x2 : Int32} {x3 : Int32} {Q : Int32 → mH → Prop} (h : (x2 ≤ x3 → (Q (0 : Int32) μ)) ∧ (¬ x2 ≤ x3 → (vp_in (((12 : Int32) * x3) + x1) 960 ∧ (vp_in (((12 : Int32) * x2) + x1) 960 ∧ ((¬ (μ 55 0 (tn (((12 : Int32) * x3) + x1))) = (μ 55 0 (tn (((12 : Int32) * x2) + x1))) → (aw Γ M_X12_isAhead 2 [aR 12 0, aI x1, aI x2, aI (x3 + (1 : Int32))] [] μ (rI Q))) ∧ ((μ 55 0 (tn (((12 : Int32) * x3) + x1))) = (μ 55 0 (tn (((12 : Int32) * x2) + x1))) → (Q (1 : Int32) μ))))))) : aw Γ M_X12_isAhead 2 [aR 12 0, aI x1, aI x2, aI x3] [] μ (rI Q) := by
  refine aw_iload_n dX12_isAhead_2 rfl ?_
  refine aw_iload_n dX12_isAhead_3 rfl ?_
  refine aw_icmp_ge (tgt := 40) dX12_isAhead_4 (by decide) (fun c0 => ?_) (fun c0 => ?_)
  · replace h := h.1 c0
    refine aw_iconst (v := (0 : Int32)) dX12_isAhead_40 rfl ?_
    exact aw_iret (ty := .boolean) dX12_isAhead_41 rfl (by decide) ⟨_, rfl, h⟩
  · replace h := h.2 c0
    refine aw_aload_n dX12_isAhead_7 rfl ?_
    refine aw_get dX12_isAhead_8 rfl fk_RX12_57 (look_R rfl rfl : look _ 12 0 27 = aR 55 0) ?_
    refine aw_bipush (v := (12 : Int32)) dX12_isAhead_11 rfl ?_
    refine aw_iload_n dX12_isAhead_13 rfl ?_
    refine aw_imul dX12_isAhead_14 ?_
    refine aw_iload_n dX12_isAhead_15 rfl ?_
    refine aw_iadd dX12_isAhead_16 ?_
    refine aw_ia (j := tn (((12 : Int32) * x3) + x1)) (y := μ 55 0 (tn (((12 : Int32) * x3) + x1))) dX12_isAhead_17 rfl (fun _ => rfl) h.1 rfl (rfl) ?_
    replace h := h.2
    refine aw_aload_n dX12_isAhead_18 rfl ?_
    refine aw_get dX12_isAhead_19 rfl fk_RX12_57 (look_R rfl rfl : look _ 12 0 27 = aR 55 0) ?_
    refine aw_bipush (v := (12 : Int32)) dX12_isAhead_22 rfl ?_
    refine aw_iload_n dX12_isAhead_24 rfl ?_
    refine aw_imul dX12_isAhead_25 ?_
    refine aw_iload_n dX12_isAhead_26 rfl ?_
    refine aw_iadd dX12_isAhead_27 ?_
    refine aw_ia (j := tn (((12 : Int32) * x2) + x1)) (y := μ 55 0 (tn (((12 : Int32) * x2) + x1))) dX12_isAhead_28 rfl (fun _ => rfl) h.1 rfl (rfl) ?_
    replace h := h.2
    refine aw_icmp_ne (tgt := 34) dX12_isAhead_29 (by decide) (fun c0 => ?_) (fun c0 => ?_)
    · replace h := h.1 c0
      refine aw_iinc (v := x3 + (1 : Int32)) (ls' := [aR 12 0, aI x1, aI x2, aI (x3 + (1 : Int32))]) dX12_isAhead_34 rfl rfl (by decide) rfl rfl ?_
      refine aw_goto (tgt := 2) dX12_isAhead_37 (by decide) ?_
      exact h
    · replace h := h.2 c0
      refine aw_iconst (v := (1 : Int32)) dX12_isAhead_32 rfl ?_
      exact aw_iret (ty := .boolean) dX12_isAhead_33 rfl (by decide) ⟨_, rfl, h⟩
theorem u_X12_mends {Γ : cx_T} {μ : mH}  {Q : Int32 → mH → Prop} (h : aw Γ M_X12_mends 4 [aR 12 0, aI (1 : Int32), aI (0 : Int32), aX, aX, aX] [] μ (rI Q)) : cwi Γ M_X12_mends [aR 12 0] μ Q := by
  refine cw_ofU (ls := [aR 12 0, aX, aX, aX, aX, aX]) (Or.inl (by decide)) rfl (Nat.le_of_ble_eq_true rfl) rfl ?_
  refine aw_iconst (v := (1 : Int32)) dX12_mends_0 rfl ?_
  refine aw_istore_n (ls' := [aR 12 0, aI (1 : Int32), aX, aX, aX, aX]) dX12_mends_1 (by decide) rfl rfl ?_
  refine aw_iconst (v := (0 : Int32)) dX12_mends_2 rfl ?_
  refine aw_istore_n (ls' := [aR 12 0, aI (1 : Int32), aI (0 : Int32), aX, aX, aX]) dX12_mends_3 (by decide) rfl rfl ?_
  exact h
theorem u_X12_mends_4 {Γ : cx_T} {μ : mH} {x1 : Int32} {x2 : Int32} {Q : Int32 → mH → Prop} (h : cwi Γ M_X12_many [aR 12 0] μ (fun r2 μ1 => (r2 ≤ x2 → (aw Γ M_X12_mends 114 [aR 12 0, aI x1, aI (0 : Int32), aI (0 : Int32), aX, aX] [] μ1 (rI Q))) ∧ (¬ r2 ≤ x2 → (vp_in x2 12 ∧ (aw Γ M_X12_mends 21 [aR 12 0, aI x1, aI x2, aI (0 : Int32), aX, aX] [] (sto μ1 59 0 (tn x2) (0 : Int32)) (rI Q)))))) : aw Γ M_X12_mends 4 [aR 12 0, aI x1, aI x2, aX, aX, aX] [] μ (rI Q) := by
  refine aw_iload_n dX12_mends_4 rfl ?_
  refine aw_aload_n dX12_mends_5 rfl ?_
  refine aw_callV (M' := M_X12_many) (K := 12) (i := 0) (vs := []) (st := [aI x2]) dX12_mends_6 mk_X12_many mi_X12_many ml_RX12_204 mp_X12_many rc_12 rm_X12_mends__X12_many (Nat.le_of_ble_eq_true rfl) rfl (cw_mono h ?_)
  clear h
  rintro _ μ1 ⟨r2, rfl, h⟩
  show aw Γ M_X12_mends 9 [aR 12 0, aI x1, aI x2, aX, aX, aX] [aI r2, aI x2] μ1 (rI Q)
  refine aw_icmp_ge (tgt := 110) dX12_mends_9 (by decide) (fun c0 => ?_) (fun c0 => ?_)
  · replace h := h.1 c0
    refine aw_iconst (v := (0 : Int32)) dX12_mends_110 rfl ?_
    refine aw_istore_n (ls' := [aR 12 0, aI x1, aI (0 : Int32), aX, aX, aX]) dX12_mends_111 (by decide) rfl rfl ?_
    refine aw_iconst (v := (0 : Int32)) dX12_mends_112 rfl ?_
    refine aw_istore_n (ls' := [aR 12 0, aI x1, aI (0 : Int32), aI (0 : Int32), aX, aX]) dX12_mends_113 (by decide) rfl rfl ?_
    exact h
  · replace h := h.2 c0
    refine aw_aload_n dX12_mends_12 rfl ?_
    refine aw_get dX12_mends_13 rfl fk_RX12_69 (look_R rfl rfl : look _ 12 0 31 = aR 59 0) ?_
    refine aw_iload_n dX12_mends_16 rfl ?_
    refine aw_iconst (v := (0 : Int32)) dX12_mends_17 rfl ?_
    refine aw_is (j := tn x2) dX12_mends_18 rfl (fun _ => rfl) h.1 rfl ?_
    replace h := h.2
    refine aw_iconst (v := (0 : Int32)) dX12_mends_19 rfl ?_
    refine aw_istore_n (ls' := [aR 12 0, aI x1, aI x2, aI (0 : Int32), aX, aX]) dX12_mends_20 (by decide) rfl rfl ?_
    exact h
theorem u_X12_mends_114 {Γ : cx_T} {μ : mH} {x1 : Int32} {x2 : Int32} {x3 : Int32} {Q : Int32 → mH → Prop} (h : (x1 ≤ x3 → (Q x2 μ)) ∧ (¬ x1 ≤ x3 → (((4096 : Int32) < x1 → (Q x2 μ)) ∧ (¬ (4096 : Int32) < x1 → (((2 : Int32) ≤ x2 → (Q x2 μ)) ∧ (¬ (2 : Int32) ≤ x2 → (aw Γ M_X12_mends 137 [aR 12 0, aI x1, aI x2, aI x3, aI x3, aI (0 : Int32)] [] μ (rI Q)))))))) : aw Γ M_X12_mends 114 [aR 12 0, aI x1, aI x2, aI x3, aX, aX] [] μ (rI Q) := by
  refine aw_iload_n dX12_mends_114 rfl ?_
  refine aw_iload_n dX12_mends_115 rfl ?_
  refine aw_icmp_ge (tgt := 270) dX12_mends_116 (by decide) (fun c0 => ?_) (fun c0 => ?_)
  · replace h := h.1 c0
    refine aw_iload_n dX12_mends_270 rfl ?_
    exact aw_iret dX12_mends_271 rfl rfl ⟨_, rfl, h⟩
  · replace h := h.2 c0
    refine aw_iload_n dX12_mends_119 rfl ?_
    refine aw_sipush (v := (4096 : Int32)) dX12_mends_120 rfl ?_
    refine aw_icmp_gt (tgt := 270) dX12_mends_123 (by decide) (fun c0 => ?_) (fun c0 => ?_)
    · replace h := h.1 c0
      refine aw_iload_n dX12_mends_270 rfl ?_
      exact aw_iret dX12_mends_271 rfl rfl ⟨_, rfl, h⟩
    · replace h := h.2 c0
      refine aw_iload_n dX12_mends_126 rfl ?_
      refine aw_iconst (v := (2 : Int32)) dX12_mends_127 rfl ?_
      refine aw_icmp_ge (tgt := 270) dX12_mends_128 (by decide) (fun c0 => ?_) (fun c0 => ?_)
      · replace h := h.1 c0
        refine aw_iload_n dX12_mends_270 rfl ?_
        exact aw_iret dX12_mends_271 rfl rfl ⟨_, rfl, h⟩
      · replace h := h.2 c0
        refine aw_iload_n dX12_mends_131 rfl ?_
        refine aw_istore (ls' := [aR 12 0, aI x1, aI x2, aI x3, aI x3, aX]) dX12_mends_132 (by decide) rfl rfl ?_
        refine aw_iconst (v := (0 : Int32)) dX12_mends_134 rfl ?_
        refine aw_istore (ls' := [aR 12 0, aI x1, aI x2, aI x3, aI x3, aI (0 : Int32)]) dX12_mends_135 (by decide) rfl rfl ?_
        exact h
theorem u_X12_mends_21 {Γ : cx_T} {μ : mH} {x1 : Int32} {x2 : Int32} {x3 : Int32} {Q : Int32 → mH → Prop} (h : ((μ 12 0 26) ≤ x3 → ((x1 ≤ (4096 : Int32) → (vp_in x2 12 ∧ (aw Γ M_X12_mends 4 [aR 12 0, aI (x1 * (μ 59 0 (tn x2))), aI (x2 + (1 : Int32)), aX, aX, aX] [] μ (rI Q)))) ∧ (¬ x1 ≤ (4096 : Int32) → (aw Γ M_X12_mends 4 [aR 12 0, aI x1, aI (x2 + (1 : Int32)), aX, aX, aX] [] μ (rI Q))))) ∧ (¬ (μ 12 0 26) ≤ x3 → (cwi Γ M_X12_isAhead [aR 12 0, aI x2, aI x3] μ (fun r2 μ1 => (r2 = 0 → (vp_in x2 12 ∧ (vp_in (((12 : Int32) * x3) + x2) 960 ∧ (vp_in (((80 : Int32) * x2) + (μ1 59 0 (tn x2))) 960 ∧ (vp_in x2 12 ∧ (vp_in x2 12 ∧ (aw Γ M_X12_mends 21 [aR 12 0, aI x1, aI x2, aI (x3 + (1 : Int32)), aX, aX] [] (sto (sto μ1 58 0 (tn (((80 : Int32) * x2) + (μ1 59 0 (tn x2)))) (μ1 55 0 (tn (((12 : Int32) * x3) + x2)))) 59 0 (tn x2) ((μ1 59 0 (tn x2)) + (1 : Int32))) (rI Q)))))))) ∧ (¬ r2 = 0 → (aw Γ M_X12_mends 21 [aR 12 0, aI x1, aI x2, aI (x3 + (1 : Int32)), aX, aX] [] μ1 (rI Q))))))) : aw Γ M_X12_mends 21 [aR 12 0, aI x1, aI x2, aI x3, aX, aX] [] μ (rI Q) := by
  refine aw_iload_n dX12_mends_21 rfl ?_
  refine aw_aload_n dX12_mends_22 rfl ?_
  refine aw_get dX12_mends_23 rfl fk_RX12_242 (look_I rfl : look μ 12 0 26 = aI (μ 12 0 26)) ?_
  refine aw_icmp_ge (tgt := 84) dX12_mends_26 (by decide) (fun c0 => ?_) (fun c0 => ?_)
  · replace h := h.1 c0
    refine aw_iload_n dX12_mends_84 rfl ?_
    refine aw_sipush (v := (4096 : Int32)) dX12_mends_85 rfl ?_
    refine aw_icmp_le (tgt := 95) dX12_mends_88 (by decide) (fun c0 => ?_) (fun c0 => ?_)
    · replace h := h.1 c0
      refine aw_iload_n dX12_mends_95 rfl ?_
      refine aw_aload_n dX12_mends_96 rfl ?_
      refine aw_get dX12_mends_97 rfl fk_RX12_69 (look_R rfl rfl : look _ 12 0 31 = aR 59 0) ?_
      refine aw_iload_n dX12_mends_100 rfl ?_
      refine aw_ia (j := tn x2) (y := μ 59 0 (tn x2)) dX12_mends_101 rfl (fun _ => rfl) h.1 rfl (rfl) ?_
      replace h := h.2
      refine aw_imul dX12_mends_102 ?_
      refine aw_istore_n (ls' := [aR 12 0, aI (x1 * (μ 59 0 (tn x2))), aI x2, aI x3, aX, aX]) dX12_mends_103 (by decide) rfl rfl ?_
      refine aw_iinc (v := x2 + (1 : Int32)) (ls' := [aR 12 0, aI (x1 * (μ 59 0 (tn x2))), aI (x2 + (1 : Int32)), aI x3, aX, aX]) dX12_mends_104 rfl rfl (by decide) rfl rfl ?_
      refine aw_goto (tgt := 4) dX12_mends_107 (by decide) ?_
      exact aw_wkk h (wk_e (wk_e (wk_e (wk_x (wk_e (wk_e wk_n))))))
    · replace h := h.2 c0
      refine aw_iload_n dX12_mends_91 rfl ?_
      refine aw_goto (tgt := 103) dX12_mends_92 (by decide) ?_
      refine aw_istore_n (ls' := [aR 12 0, aI x1, aI x2, aI x3, aX, aX]) dX12_mends_103 (by decide) rfl rfl ?_
      refine aw_iinc (v := x2 + (1 : Int32)) (ls' := [aR 12 0, aI x1, aI (x2 + (1 : Int32)), aI x3, aX, aX]) dX12_mends_104 rfl rfl (by decide) rfl rfl ?_
      refine aw_goto (tgt := 4) dX12_mends_107 (by decide) ?_
      exact aw_wkk h (wk_e (wk_e (wk_e (wk_x (wk_e (wk_e wk_n))))))
  · replace h := h.2 c0
    refine aw_aload_n dX12_mends_29 rfl ?_
    refine aw_iload_n dX12_mends_30 rfl ?_
    refine aw_iload_n dX12_mends_31 rfl ?_
    refine aw_callV (M' := M_X12_isAhead) (K := 12) (i := 0) (vs := [aI x2, aI x3]) (st := []) dX12_mends_32 mk_X12_isAhead mi_X12_isAhead ml_RX12_245 mp_X12_isAhead rc_12 rm_X12_mends__X12_isAhead (Nat.le_of_ble_eq_true rfl) rfl (cw_mono h ?_)
    clear h
    rintro _ μ1 ⟨r2, rfl, h⟩
    show aw Γ M_X12_mends 35 [aR 12 0, aI x1, aI x2, aI x3, aX, aX] [aI r2] μ1 (rI Q)
    refine aw_if_eq (tgt := 41) dX12_mends_35 (by decide) (fun c0 => ?_) (fun c0 => ?_)
    · replace h := h.1 c0
      refine aw_aload_n dX12_mends_41 rfl ?_
      refine aw_get dX12_mends_42 rfl fk_RX12_66 (look_R rfl rfl : look _ 12 0 30 = aR 58 0) ?_
      refine aw_bipush (v := (80 : Int32)) dX12_mends_45 rfl ?_
      refine aw_iload_n dX12_mends_47 rfl ?_
      refine aw_imul dX12_mends_48 ?_
      refine aw_aload_n dX12_mends_49 rfl ?_
      refine aw_get dX12_mends_50 rfl fk_RX12_69 (look_R rfl rfl : look _ 12 0 31 = aR 59 0) ?_
      refine aw_iload_n dX12_mends_53 rfl ?_
      refine aw_ia (j := tn x2) (y := μ1 59 0 (tn x2)) dX12_mends_54 rfl (fun _ => rfl) h.1 rfl (rfl) ?_
      replace h := h.2
      refine aw_iadd dX12_mends_55 ?_
      refine aw_aload_n dX12_mends_56 rfl ?_
      refine aw_get dX12_mends_57 rfl fk_RX12_57 (look_R rfl rfl : look _ 12 0 27 = aR 55 0) ?_
      refine aw_bipush (v := (12 : Int32)) dX12_mends_60 rfl ?_
      refine aw_iload_n dX12_mends_62 rfl ?_
      refine aw_imul dX12_mends_63 ?_
      refine aw_iload_n dX12_mends_64 rfl ?_
      refine aw_iadd dX12_mends_65 ?_
      refine aw_ia (j := tn (((12 : Int32) * x3) + x2)) (y := μ1 55 0 (tn (((12 : Int32) * x3) + x2))) dX12_mends_66 rfl (fun _ => rfl) h.1 rfl (rfl) ?_
      replace h := h.2
      refine aw_is (j := tn (((80 : Int32) * x2) + (μ1 59 0 (tn x2)))) dX12_mends_67 rfl (fun _ => rfl) h.1 rfl ?_
      replace h := h.2
      refine aw_aload_n dX12_mends_68 rfl ?_
      refine aw_get dX12_mends_69 rfl fk_RX12_69 (look_R rfl rfl : look _ 12 0 31 = aR 59 0) ?_
      refine aw_iload_n dX12_mends_72 rfl ?_
      refine aw_dup2 dX12_mends_73 (fun _ => rfl) (fun _ => rfl) ?_
      refine aw_ia (j := tn x2) (y := μ1 59 0 (tn x2)) dX12_mends_74 rfl (fun _ => rfl) h.1 rfl ((sto_K (by decide)).trans (rfl)) ?_
      replace h := h.2
      refine aw_iconst (v := (1 : Int32)) dX12_mends_75 rfl ?_
      refine aw_iadd dX12_mends_76 ?_
      refine aw_is (j := tn x2) dX12_mends_77 rfl (fun _ => rfl) h.1 rfl ?_
      replace h := h.2
      refine aw_iinc (v := x3 + (1 : Int32)) (ls' := [aR 12 0, aI x1, aI x2, aI (x3 + (1 : Int32)), aX, aX]) dX12_mends_78 rfl rfl (by decide) rfl rfl ?_
      refine aw_goto (tgt := 21) dX12_mends_81 (by decide) ?_
      exact h
    · replace h := h.2 c0
      refine aw_goto (tgt := 78) dX12_mends_38 (by decide) ?_
      refine aw_iinc (v := x3 + (1 : Int32)) (ls' := [aR 12 0, aI x1, aI x2, aI (x3 + (1 : Int32)), aX, aX]) dX12_mends_78 rfl rfl (by decide) rfl rfl ?_
      refine aw_goto (tgt := 21) dX12_mends_81 (by decide) ?_
      exact h
theorem u_X12_mends_137 {Γ : cx_T} {μ : mH} {x1 : Int32} {x2 : Int32} {x3 : Int32} {x4 : Int32} {x5 : Int32} {Q : Int32 → mH → Prop} (h : cwi Γ M_X12_many [aR 12 0] μ (fun r2 μ1 => (r2 ≤ x5 → (cwi Γ M_X12_sumOf [aR 12 0] μ1 (fun r4 μ3 => cwi Γ M_X12_many [aR 12 0] μ3 (fun r6 μ5 => vp_in (r6 - (2 : Int32)) 12 ∧ (cwi Γ M_X12_many [aR 12 0] μ5 (fun r8 μ7 => vp_in (r8 - (1 : Int32)) 12 ∧ ((r4 = (((256 : Int32) * (μ5 54 0 (tn (r6 - (2 : Int32))))) + (μ7 54 0 (tn (r8 - (1 : Int32))))) → (aw Γ M_X12_mends 235 [aR 12 0, aI x1, aI (x2 + (1 : Int32)), aI x3, aX, aI (0 : Int32)] [] μ7 (rI Q))) ∧ (¬ r4 = (((256 : Int32) * (μ5 54 0 (tn (r6 - (2 : Int32))))) + (μ7 54 0 (tn (r8 - (1 : Int32))))) → (aw Γ M_X12_mends 114 [aR 12 0, aI x1, aI x2, aI (x3 + (1 : Int32)), aX, aX] [] μ7 (rI Q)))))))))) ∧ (¬ r2 ≤ x5 → (vp_in x5 12 ∧ (¬ (μ1 59 0 (tn x5)) = 0 ∧ (vp_in (((80 : Int32) * x5) + (x4 - x4 / (μ1 59 0 (tn x5)) * (μ1 59 0 (tn x5)))) 960 ∧ (vp_in x5 12 ∧ (vp_in x5 12 ∧ (¬ (μ1 59 0 (tn x5)) = 0 ∧ (aw Γ M_X12_mends 137 [aR 12 0, aI x1, aI x2, aI x3, aI (x4 / (μ1 59 0 (tn x5))), aI (x5 + (1 : Int32))] [] (sto μ1 54 0 (tn x5) (μ1 58 0 (tn (((80 : Int32) * x5) + (x4 - x4 / (μ1 59 0 (tn x5)) * (μ1 59 0 (tn x5))))))) (rI Q))))))))))) : aw Γ M_X12_mends 137 [aR 12 0, aI x1, aI x2, aI x3, aI x4, aI x5] [] μ (rI Q) := by
  refine aw_iload dX12_mends_137 rfl ?_
  refine aw_aload_n dX12_mends_139 rfl ?_
  refine aw_callV (M' := M_X12_many) (K := 12) (i := 0) (vs := []) (st := [aI x5]) dX12_mends_140 mk_X12_many mi_X12_many ml_RX12_204 mp_X12_many rc_12 rm_X12_mends__X12_many (Nat.le_of_ble_eq_true rfl) rfl (cw_mono h ?_)
  clear h
  rintro _ μ1 ⟨r2, rfl, h⟩
  show aw Γ M_X12_mends 143 [aR 12 0, aI x1, aI x2, aI x3, aI x4, aI x5] [aI r2, aI x5] μ1 (rI Q)
  refine aw_icmp_ge (tgt := 192) dX12_mends_143 (by decide) (fun c0 => ?_) (fun c0 => ?_)
  · replace h := h.1 c0
    refine aw_aload_n dX12_mends_192 rfl ?_
    refine aw_callV (M' := M_X12_sumOf) (K := 12) (i := 0) (vs := []) (st := []) dX12_mends_193 mk_X12_sumOf mi_X12_sumOf ml_RX12_214 mp_X12_sumOf rc_12 rm_X12_mends__X12_sumOf (Nat.le_of_ble_eq_true rfl) rfl (cw_mono h ?_)
    clear h
    rintro _ μ3 ⟨r4, rfl, h⟩
    show aw Γ M_X12_mends 196 [aR 12 0, aI x1, aI x2, aI x3, aI x4, aI x5] [aI r4] μ3 (rI Q)
    refine aw_sipush (v := (256 : Int32)) dX12_mends_196 rfl ?_
    refine aw_aload_n dX12_mends_199 rfl ?_
    refine aw_get dX12_mends_200 rfl fk_RX12_54 (look_R rfl rfl : look _ 12 0 25 = aR 54 0) ?_
    refine aw_aload_n dX12_mends_203 rfl ?_
    refine aw_callV (M' := M_X12_many) (K := 12) (i := 0) (vs := []) (st := [aR 54 0, aI (256 : Int32), aI r4]) dX12_mends_204 mk_X12_many mi_X12_many ml_RX12_204 mp_X12_many rc_12 rm_X12_mends__X12_many (Nat.le_of_ble_eq_true rfl) rfl (cw_mono h ?_)
    clear h
    rintro _ μ5 ⟨r6, rfl, h⟩
    show aw Γ M_X12_mends 207 [aR 12 0, aI x1, aI x2, aI x3, aI x4, aI x5] [aI r6, aR 54 0, aI (256 : Int32), aI r4] μ5 (rI Q)
    refine aw_iconst (v := (2 : Int32)) dX12_mends_207 rfl ?_
    refine aw_isub dX12_mends_208 ?_
    refine aw_ia (j := tn (r6 - (2 : Int32))) (y := μ5 54 0 (tn (r6 - (2 : Int32)))) dX12_mends_209 rfl (fun _ => rfl) h.1 rfl (rfl) ?_
    replace h := h.2
    refine aw_imul dX12_mends_210 ?_
    refine aw_aload_n dX12_mends_211 rfl ?_
    refine aw_get dX12_mends_212 rfl fk_RX12_54 (look_R rfl rfl : look _ 12 0 25 = aR 54 0) ?_
    refine aw_aload_n dX12_mends_215 rfl ?_
    refine aw_callV (M' := M_X12_many) (K := 12) (i := 0) (vs := []) (st := [aR 54 0, aI ((256 : Int32) * (μ5 54 0 (tn (r6 - (2 : Int32))))), aI r4]) dX12_mends_216 mk_X12_many mi_X12_many ml_RX12_204 mp_X12_many rc_12 rm_X12_mends__X12_many (Nat.le_of_ble_eq_true rfl) rfl (cw_mono h ?_)
    clear h
    rintro _ μ7 ⟨r8, rfl, h⟩
    show aw Γ M_X12_mends 219 [aR 12 0, aI x1, aI x2, aI x3, aI x4, aI x5] [aI r8, aR 54 0, aI ((256 : Int32) * (μ5 54 0 (tn (r6 - (2 : Int32))))), aI r4] μ7 (rI Q)
    refine aw_iconst (v := (1 : Int32)) dX12_mends_219 rfl ?_
    refine aw_isub dX12_mends_220 ?_
    refine aw_ia (j := tn (r8 - (1 : Int32))) (y := μ7 54 0 (tn (r8 - (1 : Int32)))) dX12_mends_221 rfl (fun _ => rfl) h.1 rfl (rfl) ?_
    replace h := h.2
    refine aw_iadd dX12_mends_222 ?_
    refine aw_icmp_eq (tgt := 229) dX12_mends_223 (by decide) (fun c0 => ?_) (fun c0 => ?_)
    · replace h := h.1 c0
      refine aw_iinc (v := x2 + (1 : Int32)) (ls' := [aR 12 0, aI x1, aI (x2 + (1 : Int32)), aI x3, aI x4, aI x5]) dX12_mends_229 rfl rfl (by decide) rfl rfl ?_
      refine aw_iconst (v := (0 : Int32)) dX12_mends_232 rfl ?_
      refine aw_istore (ls' := [aR 12 0, aI x1, aI (x2 + (1 : Int32)), aI x3, aI x4, aI (0 : Int32)]) dX12_mends_233 (by decide) rfl rfl ?_
      exact aw_wkk h (wk_e (wk_e (wk_e (wk_e (wk_x (wk_e wk_n))))))
    · replace h := h.2 c0
      refine aw_goto (tgt := 264) dX12_mends_226 (by decide) ?_
      refine aw_iinc (v := x3 + (1 : Int32)) (ls' := [aR 12 0, aI x1, aI x2, aI (x3 + (1 : Int32)), aI x4, aI x5]) dX12_mends_264 rfl rfl (by decide) rfl rfl ?_
      refine aw_goto (tgt := 114) dX12_mends_267 (by decide) ?_
      exact aw_wkk h (wk_e (wk_e (wk_e (wk_e (wk_x (wk_x wk_n))))))
  · replace h := h.2 c0
    refine aw_aload_n dX12_mends_146 rfl ?_
    refine aw_get dX12_mends_147 rfl fk_RX12_54 (look_R rfl rfl : look _ 12 0 25 = aR 54 0) ?_
    refine aw_iload dX12_mends_150 rfl ?_
    refine aw_aload_n dX12_mends_152 rfl ?_
    refine aw_get dX12_mends_153 rfl fk_RX12_66 (look_R rfl rfl : look _ 12 0 30 = aR 58 0) ?_
    refine aw_bipush (v := (80 : Int32)) dX12_mends_156 rfl ?_
    refine aw_iload dX12_mends_158 rfl ?_
    refine aw_imul dX12_mends_160 ?_
    refine aw_iload dX12_mends_161 rfl ?_
    refine aw_aload_n dX12_mends_163 rfl ?_
    refine aw_get dX12_mends_164 rfl fk_RX12_69 (look_R rfl rfl : look _ 12 0 31 = aR 59 0) ?_
    refine aw_iload dX12_mends_167 rfl ?_
    refine aw_ia (j := tn x5) (y := μ1 59 0 (tn x5)) dX12_mends_169 rfl (fun _ => rfl) h.1 rfl (rfl) ?_
    replace h := h.2
    refine aw_irem dX12_mends_170 h.1 ?_
    replace h := h.2
    refine aw_iadd dX12_mends_171 ?_
    refine aw_ia (j := tn (((80 : Int32) * x5) + (x4 - x4 / (μ1 59 0 (tn x5)) * (μ1 59 0 (tn x5))))) (y := μ1 58 0 (tn (((80 : Int32) * x5) + (x4 - x4 / (μ1 59 0 (tn x5)) * (μ1 59 0 (tn x5)))))) dX12_mends_172 rfl (fun _ => rfl) h.1 rfl (rfl) ?_
    replace h := h.2
    refine aw_is (j := tn x5) dX12_mends_173 rfl (fun _ => rfl) h.1 rfl ?_
    replace h := h.2
    refine aw_iload dX12_mends_174 rfl ?_
    refine aw_aload_n dX12_mends_176 rfl ?_
    refine aw_get dX12_mends_177 rfl fk_RX12_69 (look_R rfl rfl : look _ 12 0 31 = aR 59 0) ?_
    refine aw_iload dX12_mends_180 rfl ?_
    refine aw_ia (j := tn x5) (y := μ1 59 0 (tn x5)) dX12_mends_182 rfl (fun _ => rfl) h.1 rfl ((sto_K (by decide)).trans (rfl)) ?_
    replace h := h.2
    refine aw_idiv dX12_mends_183 h.1 ?_
    replace h := h.2
    refine aw_istore (ls' := [aR 12 0, aI x1, aI x2, aI x3, aI (x4 / (μ1 59 0 (tn x5))), aI x5]) dX12_mends_184 (by decide) rfl rfl ?_
    refine aw_iinc (v := x5 + (1 : Int32)) (ls' := [aR 12 0, aI x1, aI x2, aI x3, aI (x4 / (μ1 59 0 (tn x5))), aI (x5 + (1 : Int32))]) dX12_mends_186 rfl rfl (by decide) rfl rfl ?_
    refine aw_goto (tgt := 137) dX12_mends_189 (by decide) ?_
    exact h
theorem u_X12_mends_235 {Γ : cx_T} {μ : mH} {x1 : Int32} {x2 : Int32} {x3 : Int32} {x5 : Int32} {Q : Int32 → mH → Prop} (h : cwi Γ M_X12_many [aR 12 0] μ (fun r2 μ1 => (r2 ≤ x5 → (aw Γ M_X12_mends 114 [aR 12 0, aI x1, aI x2, aI (x3 + (1 : Int32)), aX, aX] [] μ1 (rI Q))) ∧ (¬ r2 ≤ x5 → (vp_in x5 12 ∧ (vp_in x5 12 ∧ (aw Γ M_X12_mends 235 [aR 12 0, aI x1, aI x2, aI x3, aX, aI (x5 + (1 : Int32))] [] (sto μ1 57 0 (tn x5) (μ1 54 0 (tn x5))) (rI Q))))))) : aw Γ M_X12_mends 235 [aR 12 0, aI x1, aI x2, aI x3, aX, aI x5] [] μ (rI Q) := by
  refine aw_iload dX12_mends_235 rfl ?_
  refine aw_aload_n dX12_mends_237 rfl ?_
  refine aw_callV (M' := M_X12_many) (K := 12) (i := 0) (vs := []) (st := [aI x5]) dX12_mends_238 mk_X12_many mi_X12_many ml_RX12_204 mp_X12_many rc_12 rm_X12_mends__X12_many (Nat.le_of_ble_eq_true rfl) rfl (cw_mono h ?_)
  clear h
  rintro _ μ1 ⟨r2, rfl, h⟩
  show aw Γ M_X12_mends 241 [aR 12 0, aI x1, aI x2, aI x3, aX, aI x5] [aI r2, aI x5] μ1 (rI Q)
  refine aw_icmp_ge (tgt := 264) dX12_mends_241 (by decide) (fun c0 => ?_) (fun c0 => ?_)
  · replace h := h.1 c0
    refine aw_iinc (v := x3 + (1 : Int32)) (ls' := [aR 12 0, aI x1, aI x2, aI (x3 + (1 : Int32)), aX, aI x5]) dX12_mends_264 rfl rfl (by decide) rfl rfl ?_
    refine aw_goto (tgt := 114) dX12_mends_267 (by decide) ?_
    exact aw_wkk h (wk_e (wk_e (wk_e (wk_e (wk_e (wk_x wk_n))))))
  · replace h := h.2 c0
    refine aw_aload_n dX12_mends_244 rfl ?_
    refine aw_get dX12_mends_245 rfl fk_RX12_63 (look_R rfl rfl : look _ 12 0 29 = aR 57 0) ?_
    refine aw_iload dX12_mends_248 rfl ?_
    refine aw_aload_n dX12_mends_250 rfl ?_
    refine aw_get dX12_mends_251 rfl fk_RX12_54 (look_R rfl rfl : look _ 12 0 25 = aR 54 0) ?_
    refine aw_iload dX12_mends_254 rfl ?_
    refine aw_ia (j := tn x5) (y := μ1 54 0 (tn x5)) dX12_mends_256 rfl (fun _ => rfl) h.1 rfl (rfl) ?_
    replace h := h.2
    refine aw_is (j := tn x5) dX12_mends_257 rfl (fun _ => rfl) h.1 rfl ?_
    replace h := h.2
    refine aw_iinc (v := x5 + (1 : Int32)) (ls' := [aR 12 0, aI x1, aI x2, aI x3, aX, aI (x5 + (1 : Int32))]) dX12_mends_258 rfl rfl (by decide) rfl rfl ?_
    refine aw_goto (tgt := 235) dX12_mends_261 (by decide) ?_
    exact h
theorem u_X12_statusOf {Γ : cx_T} {μ : mH} {x1 : Int32} {x2 : Int32} {Q : Int32 → mH → Prop} (h : cwv Γ M_X12_gathers [aR 12 0, aI x1, aI x2] μ (fun μ1 => (¬ (μ1 12 0 26) = 0 → (aw Γ M_X12_statusOf 23 [aR 12 0, aX, aX, aI (-1 : Int32), aI (0 : Int32), aI (0 : Int32), aX] [] μ1 (rI Q))) ∧ ((μ1 12 0 26) = 0 → (Q (0 : Int32) μ1)))) : cwi Γ M_X12_statusOf [aR 12 0, aI x1, aI x2] μ Q := by
  refine cw_ofU (ls := [aR 12 0, aI x1, aI x2, aX, aX, aX, aX]) (Or.inl (by decide)) rfl (Nat.le_of_ble_eq_true rfl) rfl ?_
  refine aw_aload_n dX12_statusOf_0 rfl ?_
  refine aw_iload_n dX12_statusOf_1 rfl ?_
  refine aw_iload_n dX12_statusOf_2 rfl ?_
  refine aw_callV (M' := M_X12_gathers) (K := 12) (i := 0) (vs := [aI x1, aI x2]) (st := []) dX12_statusOf_3 mk_X12_gathers mi_X12_gathers ml_RX12_249 mp_X12_gathers rc_12 rm_X12_statusOf__X12_gathers (Nat.le_of_ble_eq_true rfl) rfl (cw_mono h ?_)
  clear h
  intro _ μ1 h
  show aw Γ M_X12_statusOf 6 [aR 12 0, aI x1, aI x2, aX, aX, aX, aX] [] μ1 (rI Q)
  refine aw_aload_n dX12_statusOf_6 rfl ?_
  refine aw_get dX12_statusOf_7 rfl fk_RX12_242 (look_I rfl : look μ1 12 0 26 = aI (μ1 12 0 26)) ?_
  refine aw_if_ne (tgt := 15) dX12_statusOf_10 (by decide) (fun c0 => ?_) (fun c0 => ?_)
  · replace h := h.1 c0
    refine aw_iconst (v := (-1 : Int32)) dX12_statusOf_15 rfl ?_
    refine aw_istore_n (ls' := [aR 12 0, aI x1, aI x2, aI (-1 : Int32), aX, aX, aX]) dX12_statusOf_16 (by decide) rfl rfl ?_
    refine aw_iconst (v := (0 : Int32)) dX12_statusOf_17 rfl ?_
    refine aw_istore (ls' := [aR 12 0, aI x1, aI x2, aI (-1 : Int32), aI (0 : Int32), aX, aX]) dX12_statusOf_18 (by decide) rfl rfl ?_
    refine aw_iconst (v := (0 : Int32)) dX12_statusOf_20 rfl ?_
    refine aw_istore (ls' := [aR 12 0, aI x1, aI x2, aI (-1 : Int32), aI (0 : Int32), aI (0 : Int32), aX]) dX12_statusOf_21 (by decide) rfl rfl ?_
    exact aw_wkk h (wk_e (wk_x (wk_x (wk_e (wk_e (wk_e (wk_e wk_n)))))))
  · replace h := h.2 c0
    refine aw_iconst (v := (0 : Int32)) dX12_statusOf_13 rfl ?_
    exact aw_iret dX12_statusOf_14 rfl rfl ⟨_, rfl, h⟩
theorem u_X12_statusOf_23 {Γ : cx_T} {μ : mH} {x3 : Int32} {x4 : Int32} {x5 : Int32} {Q : Int32 → mH → Prop} (h : ((μ 12 0 26) ≤ x5 → ((¬ x3 = (-1 : Int32) → (aw Γ M_X12_statusOf 139 [aR 12 0, aX, aX, aI x3, aI x4, aI (0 : Int32), aX] [] μ (rI Q))) ∧ (x3 = (-1 : Int32) → (cwi Γ M_X12_mends [aR 12 0] μ (fun r2 μ1 => (¬ r2 = (1 : Int32) → (Q (4 : Int32) μ1)) ∧ (r2 = (1 : Int32) → (Q (3 : Int32) μ1))))))) ∧ (¬ (μ 12 0 26) ≤ x5 → (vp_in x5 80 ∧ ((¬ (μ 56 0 (tn x5)) = 0 → ((¬ x3 = (-1 : Int32) → (aw Γ M_X12_statusOf 56 [aR 12 0, aX, aX, aI x3, aI x4, aI x5, aI (2 : Int32)] [] μ (rI Q))) ∧ (x3 = (-1 : Int32) → (aw Γ M_X12_statusOf 56 [aR 12 0, aX, aX, aI x5, aI x4, aI x5, aI (2 : Int32)] [] μ (rI Q))))) ∧ ((μ 56 0 (tn x5)) = 0 → (aw Γ M_X12_statusOf 23 [aR 12 0, aX, aX, aI x3, aI x4, aI (x5 + (1 : Int32)), aX] [] μ (rI Q))))))) : aw Γ M_X12_statusOf 23 [aR 12 0, aX, aX, aI x3, aI x4, aI x5, aX] [] μ (rI Q) := by
  refine aw_iload dX12_statusOf_23 rfl ?_
  refine aw_aload_n dX12_statusOf_25 rfl ?_
  refine aw_get dX12_statusOf_26 rfl fk_RX12_242 (look_I rfl : look μ 12 0 26 = aI (μ 12 0 26)) ?_
  refine aw_icmp_ge (tgt := 117) dX12_statusOf_29 (by decide) (fun c0 => ?_) (fun c0 => ?_)
  · replace h := h.1 c0
    refine aw_iload_n dX12_statusOf_117 rfl ?_
    refine aw_iconst (v := (-1 : Int32)) dX12_statusOf_118 rfl ?_
    refine aw_icmp_ne (tgt := 136) dX12_statusOf_119 (by decide) (fun c0 => ?_) (fun c0 => ?_)
    · replace h := h.1 c0
      refine aw_iconst (v := (0 : Int32)) dX12_statusOf_136 rfl ?_
      refine aw_istore (ls' := [aR 12 0, aX, aX, aI x3, aI x4, aI (0 : Int32), aX]) dX12_statusOf_137 (by decide) rfl rfl ?_
      exact h
    · replace h := h.2 c0
      refine aw_aload_n dX12_statusOf_122 rfl ?_
      refine aw_callV (M' := M_X12_mends) (K := 12) (i := 0) (vs := []) (st := []) dX12_statusOf_123 mk_X12_mends mi_X12_mends ml_RX12_253 mp_X12_mends rc_12 rm_X12_statusOf__X12_mends (Nat.le_of_ble_eq_true rfl) rfl (cw_mono h ?_)
      clear h
      rintro _ μ1 ⟨r2, rfl, h⟩
      show aw Γ M_X12_statusOf 126 [aR 12 0, aX, aX, aI x3, aI x4, aI x5, aX] [aI r2] μ1 (rI Q)
      refine aw_iconst (v := (1 : Int32)) dX12_statusOf_126 rfl ?_
      refine aw_icmp_ne (tgt := 134) dX12_statusOf_127 (by decide) (fun c0 => ?_) (fun c0 => ?_)
      · replace h := h.1 c0
        refine aw_iconst (v := (4 : Int32)) dX12_statusOf_134 rfl ?_
        exact aw_iret dX12_statusOf_135 rfl rfl ⟨_, rfl, h⟩
      · replace h := h.2 c0
        refine aw_iconst (v := (3 : Int32)) dX12_statusOf_130 rfl ?_
        refine aw_goto (tgt := 135) dX12_statusOf_131 (by decide) ?_
        exact aw_iret dX12_statusOf_135 rfl rfl ⟨_, rfl, h⟩
  · replace h := h.2 c0
    refine aw_aload_n dX12_statusOf_32 rfl ?_
    refine aw_get dX12_statusOf_33 rfl fk_RX12_60 (look_R rfl rfl : look _ 12 0 28 = aR 56 0) ?_
    refine aw_iload dX12_statusOf_36 rfl ?_
    refine aw_za (j := tn x5) (y := μ 56 0 (tn x5)) dX12_statusOf_38 rfl (fun _ => rfl) h.1 rfl (rfl) ?_
    replace h := h.2
    refine aw_if_ne (tgt := 45) dX12_statusOf_39 (by decide) (fun c0 => ?_) (fun c0 => ?_)
    · replace h := h.1 c0
      refine aw_iload_n dX12_statusOf_45 rfl ?_
      refine aw_iconst (v := (-1 : Int32)) dX12_statusOf_46 rfl ?_
      refine aw_icmp_ne (tgt := 53) dX12_statusOf_47 (by decide) (fun c0 => ?_) (fun c0 => ?_)
      · replace h := h.1 c0
        refine aw_iconst (v := (2 : Int32)) dX12_statusOf_53 rfl ?_
        refine aw_istore (ls' := [aR 12 0, aX, aX, aI x3, aI x4, aI x5, aI (2 : Int32)]) dX12_statusOf_54 (by decide) rfl rfl ?_
        exact h
      · replace h := h.2 c0
        refine aw_iload dX12_statusOf_50 rfl ?_
        refine aw_istore_n (ls' := [aR 12 0, aX, aX, aI x5, aI x4, aI x5, aX]) dX12_statusOf_52 (by decide) rfl rfl ?_
        refine aw_iconst (v := (2 : Int32)) dX12_statusOf_53 rfl ?_
        refine aw_istore (ls' := [aR 12 0, aX, aX, aI x5, aI x4, aI x5, aI (2 : Int32)]) dX12_statusOf_54 (by decide) rfl rfl ?_
        exact h
    · replace h := h.2 c0
      refine aw_goto (tgt := 111) dX12_statusOf_42 (by decide) ?_
      refine aw_iinc (v := x5 + (1 : Int32)) (ls' := [aR 12 0, aX, aX, aI x3, aI x4, aI (x5 + (1 : Int32)), aX]) dX12_statusOf_111 rfl rfl (by decide) rfl rfl ?_
      refine aw_goto (tgt := 23) dX12_statusOf_114 (by decide) ?_
      exact h
theorem u_X12_statusOf_139 {Γ : cx_T} {μ : mH} {x3 : Int32} {x4 : Int32} {x5 : Int32} {Q : Int32 → mH → Prop} (h : cwi Γ M_X12_many [aR 12 0] μ (fun r2 μ1 => (r2 ≤ x5 → ((x4 = 0 → (Q (1 : Int32) μ1)) ∧ (¬ x4 = 0 → (Q (2 : Int32) μ1)))) ∧ (¬ r2 ≤ x5 → (vp_in (((12 : Int32) * x3) + x5) 960 ∧ (vp_in x5 12 ∧ (aw Γ M_X12_statusOf 139 [aR 12 0, aX, aX, aI x3, aI x4, aI (x5 + (1 : Int32)), aX] [] (sto μ1 57 0 (tn x5) (μ1 55 0 (tn (((12 : Int32) * x3) + x5)))) (rI Q))))))) : aw Γ M_X12_statusOf 139 [aR 12 0, aX, aX, aI x3, aI x4, aI x5, aX] [] μ (rI Q) := by
  refine aw_iload dX12_statusOf_139 rfl ?_
  refine aw_aload_n dX12_statusOf_141 rfl ?_
  refine aw_callV (M' := M_X12_many) (K := 12) (i := 0) (vs := []) (st := [aI x5]) dX12_statusOf_142 mk_X12_many mi_X12_many ml_RX12_204 mp_X12_many rc_12 rm_X12_statusOf__X12_many (Nat.le_of_ble_eq_true rfl) rfl (cw_mono h ?_)
  clear h
  rintro _ μ1 ⟨r2, rfl, h⟩
  show aw Γ M_X12_statusOf 145 [aR 12 0, aX, aX, aI x3, aI x4, aI x5, aX] [aI r2, aI x5] μ1 (rI Q)
  refine aw_icmp_ge (tgt := 173) dX12_statusOf_145 (by decide) (fun c0 => ?_) (fun c0 => ?_)
  · replace h := h.1 c0
    refine aw_iload dX12_statusOf_173 rfl ?_
    refine aw_if_eq (tgt := 182) dX12_statusOf_175 (by decide) (fun c0 => ?_) (fun c0 => ?_)
    · replace h := h.1 c0
      refine aw_iconst (v := (1 : Int32)) dX12_statusOf_182 rfl ?_
      exact aw_iret dX12_statusOf_183 rfl rfl ⟨_, rfl, h⟩
    · replace h := h.2 c0
      refine aw_iconst (v := (2 : Int32)) dX12_statusOf_178 rfl ?_
      refine aw_goto (tgt := 183) dX12_statusOf_179 (by decide) ?_
      exact aw_iret dX12_statusOf_183 rfl rfl ⟨_, rfl, h⟩
  · replace h := h.2 c0
    refine aw_aload_n dX12_statusOf_148 rfl ?_
    refine aw_get dX12_statusOf_149 rfl fk_RX12_63 (look_R rfl rfl : look _ 12 0 29 = aR 57 0) ?_
    refine aw_iload dX12_statusOf_152 rfl ?_
    refine aw_aload_n dX12_statusOf_154 rfl ?_
    refine aw_get dX12_statusOf_155 rfl fk_RX12_57 (look_R rfl rfl : look _ 12 0 27 = aR 55 0) ?_
    refine aw_bipush (v := (12 : Int32)) dX12_statusOf_158 rfl ?_
    refine aw_iload_n dX12_statusOf_160 rfl ?_
    refine aw_imul dX12_statusOf_161 ?_
    refine aw_iload dX12_statusOf_162 rfl ?_
    refine aw_iadd dX12_statusOf_164 ?_
    refine aw_ia (j := tn (((12 : Int32) * x3) + x5)) (y := μ1 55 0 (tn (((12 : Int32) * x3) + x5))) dX12_statusOf_165 rfl (fun _ => rfl) h.1 rfl (rfl) ?_
    replace h := h.2
    refine aw_is (j := tn x5) dX12_statusOf_166 rfl (fun _ => rfl) h.1 rfl ?_
    replace h := h.2
    refine aw_iinc (v := x5 + (1 : Int32)) (ls' := [aR 12 0, aX, aX, aI x3, aI x4, aI (x5 + (1 : Int32)), aX]) dX12_statusOf_167 rfl rfl (by decide) rfl rfl ?_
    refine aw_goto (tgt := 139) dX12_statusOf_170 (by decide) ?_
    exact h
theorem u_X12_statusOf_56 {Γ : cx_T} {μ : mH} {x3 : Int32} {x4 : Int32} {x5 : Int32} {x6 : Int32} {Q : Int32 → mH → Prop} (h : cwi Γ M_X12_many [aR 12 0] μ (fun r2 μ1 => ((r2 - (2 : Int32)) ≤ x6 → (aw Γ M_X12_statusOf 23 [aR 12 0, aX, aX, aI x3, aI x4, aI (x5 + (1 : Int32)), aX] [] μ1 (rI Q))) ∧ (¬ (r2 - (2 : Int32)) ≤ x6 → (vp_in (((12 : Int32) * x5) + x6) 960 ∧ (vp_in (((12 : Int32) * x3) + x6) 960 ∧ (((μ1 55 0 (tn (((12 : Int32) * x5) + x6))) = (μ1 55 0 (tn (((12 : Int32) * x3) + x6))) → (aw Γ M_X12_statusOf 56 [aR 12 0, aX, aX, aI x3, aI (x4 ||| (0 : Int32)), aI x5, aI (x6 + (1 : Int32))] [] μ1 (rI Q))) ∧ (¬ (μ1 55 0 (tn (((12 : Int32) * x5) + x6))) = (μ1 55 0 (tn (((12 : Int32) * x3) + x6))) → (aw Γ M_X12_statusOf 56 [aR 12 0, aX, aX, aI x3, aI (x4 ||| (1 : Int32)), aI x5, aI (x6 + (1 : Int32))] [] μ1 (rI Q))))))))) : aw Γ M_X12_statusOf 56 [aR 12 0, aX, aX, aI x3, aI x4, aI x5, aI x6] [] μ (rI Q) := by
  refine aw_iload dX12_statusOf_56 rfl ?_
  refine aw_aload_n dX12_statusOf_58 rfl ?_
  refine aw_callV (M' := M_X12_many) (K := 12) (i := 0) (vs := []) (st := [aI x6]) dX12_statusOf_59 mk_X12_many mi_X12_many ml_RX12_204 mp_X12_many rc_12 rm_X12_statusOf__X12_many (Nat.le_of_ble_eq_true rfl) rfl (cw_mono h ?_)
  clear h
  rintro _ μ1 ⟨r2, rfl, h⟩
  show aw Γ M_X12_statusOf 62 [aR 12 0, aX, aX, aI x3, aI x4, aI x5, aI x6] [aI r2, aI x6] μ1 (rI Q)
  refine aw_iconst (v := (2 : Int32)) dX12_statusOf_62 rfl ?_
  refine aw_isub dX12_statusOf_63 ?_
  refine aw_icmp_ge (tgt := 111) dX12_statusOf_64 (by decide) (fun c0 => ?_) (fun c0 => ?_)
  · replace h := h.1 c0
    refine aw_iinc (v := x5 + (1 : Int32)) (ls' := [aR 12 0, aX, aX, aI x3, aI x4, aI (x5 + (1 : Int32)), aI x6]) dX12_statusOf_111 rfl rfl (by decide) rfl rfl ?_
    refine aw_goto (tgt := 23) dX12_statusOf_114 (by decide) ?_
    exact aw_wkk h (wk_e (wk_e (wk_e (wk_e (wk_e (wk_e (wk_x wk_n)))))))
  · replace h := h.2 c0
    refine aw_iload dX12_statusOf_67 rfl ?_
    refine aw_aload_n dX12_statusOf_69 rfl ?_
    refine aw_get dX12_statusOf_70 rfl fk_RX12_57 (look_R rfl rfl : look _ 12 0 27 = aR 55 0) ?_
    refine aw_bipush (v := (12 : Int32)) dX12_statusOf_73 rfl ?_
    refine aw_iload dX12_statusOf_75 rfl ?_
    refine aw_imul dX12_statusOf_77 ?_
    refine aw_iload dX12_statusOf_78 rfl ?_
    refine aw_iadd dX12_statusOf_80 ?_
    refine aw_ia (j := tn (((12 : Int32) * x5) + x6)) (y := μ1 55 0 (tn (((12 : Int32) * x5) + x6))) dX12_statusOf_81 rfl (fun _ => rfl) h.1 rfl (rfl) ?_
    replace h := h.2
    refine aw_aload_n dX12_statusOf_82 rfl ?_
    refine aw_get dX12_statusOf_83 rfl fk_RX12_57 (look_R rfl rfl : look _ 12 0 27 = aR 55 0) ?_
    refine aw_bipush (v := (12 : Int32)) dX12_statusOf_86 rfl ?_
    refine aw_iload_n dX12_statusOf_88 rfl ?_
    refine aw_imul dX12_statusOf_89 ?_
    refine aw_iload dX12_statusOf_90 rfl ?_
    refine aw_iadd dX12_statusOf_92 ?_
    refine aw_ia (j := tn (((12 : Int32) * x3) + x6)) (y := μ1 55 0 (tn (((12 : Int32) * x3) + x6))) dX12_statusOf_93 rfl (fun _ => rfl) h.1 rfl (rfl) ?_
    replace h := h.2
    refine aw_icmp_eq (tgt := 101) dX12_statusOf_94 (by decide) (fun c0 => ?_) (fun c0 => ?_)
    · replace h := h.1 c0
      refine aw_iconst (v := (0 : Int32)) dX12_statusOf_101 rfl ?_
      refine aw_ior dX12_statusOf_102 ?_
      refine aw_istore (ls' := [aR 12 0, aX, aX, aI x3, aI (x4 ||| (0 : Int32)), aI x5, aI x6]) dX12_statusOf_103 (by decide) rfl rfl ?_
      refine aw_iinc (v := x6 + (1 : Int32)) (ls' := [aR 12 0, aX, aX, aI x3, aI (x4 ||| (0 : Int32)), aI x5, aI (x6 + (1 : Int32))]) dX12_statusOf_105 rfl rfl (by decide) rfl rfl ?_
      refine aw_goto (tgt := 56) dX12_statusOf_108 (by decide) ?_
      exact h
    · replace h := h.2 c0
      refine aw_iconst (v := (1 : Int32)) dX12_statusOf_97 rfl ?_
      refine aw_goto (tgt := 102) dX12_statusOf_98 (by decide) ?_
      refine aw_ior dX12_statusOf_102 ?_
      refine aw_istore (ls' := [aR 12 0, aX, aX, aI x3, aI (x4 ||| (1 : Int32)), aI x5, aI x6]) dX12_statusOf_103 (by decide) rfl rfl ?_
      refine aw_iinc (v := x6 + (1 : Int32)) (ls' := [aR 12 0, aX, aX, aI x3, aI (x4 ||| (1 : Int32)), aI x5, aI (x6 + (1 : Int32))]) dX12_statusOf_105 rfl rfl (by decide) rfl rfl ?_
      refine aw_goto (tgt := 56) dX12_statusOf_108 (by decide) ?_
      exact h
theorem u_X12_isWhole {Γ : cx_T} {μ : mH} {x0 : Int32} {Q : Int32 → mH → Prop} (h : (x0 = (1 : Int32) → (Q (1 : Int32) μ)) ∧ (¬ x0 = (1 : Int32) → ((¬ x0 = (3 : Int32) → (Q (0 : Int32) μ)) ∧ (x0 = (3 : Int32) → (Q (1 : Int32) μ))))) : cwi Γ M_X12_isWhole [aI x0] μ Q := by
  refine cw_ofU (ls := [aI x0]) (Or.inl (by decide)) rfl (Nat.le_of_ble_eq_true rfl) rfl ?_
  refine aw_iload_n dX12_isWhole_0 rfl ?_
  refine aw_iconst (v := (1 : Int32)) dX12_isWhole_1 rfl ?_
  refine aw_icmp_eq (tgt := 10) dX12_isWhole_2 (by decide) (fun c0 => ?_) (fun c0 => ?_)
  · replace h := h.1 c0
    refine aw_iconst (v := (1 : Int32)) dX12_isWhole_10 rfl ?_
    refine aw_goto (tgt := 15) dX12_isWhole_11 (by decide) ?_
    exact aw_iret (ty := .boolean) dX12_isWhole_15 rfl (by decide) ⟨_, rfl, h⟩
  · replace h := h.2 c0
    refine aw_iload_n dX12_isWhole_5 rfl ?_
    refine aw_iconst (v := (3 : Int32)) dX12_isWhole_6 rfl ?_
    refine aw_icmp_ne (tgt := 14) dX12_isWhole_7 (by decide) (fun c0 => ?_) (fun c0 => ?_)
    · replace h := h.1 c0
      refine aw_iconst (v := (0 : Int32)) dX12_isWhole_14 rfl ?_
      exact aw_iret (ty := .boolean) dX12_isWhole_15 rfl (by decide) ⟨_, rfl, h⟩
    · replace h := h.2 c0
      refine aw_iconst (v := (1 : Int32)) dX12_isWhole_10 rfl ?_
      refine aw_goto (tgt := 15) dX12_isWhole_11 (by decide) ?_
      exact aw_iret (ty := .boolean) dX12_isWhole_15 rfl (by decide) ⟨_, rfl, h⟩
theorem u_X12_isSector {Γ : cx_T} {μ : mH} {x1 : Int32} {x2 : Int32} {Q : Int32 → mH → Prop} (h : ((μ 12 0 8) = 0 → (Q (0 : Int32) μ)) ∧ (¬ (μ 12 0 8) = 0 → (cwi Γ M_X12_in [aI x1, aI (0 : Int32), aI (255 : Int32)] μ (fun r2 μ1 => (r2 = 0 → (Q (0 : Int32) μ1)) ∧ (¬ r2 = 0 → (cwi Γ M_X12_in [aI x2, aI (0 : Int32), aI (255 : Int32)] μ1 (fun r4 μ3 => (r4 = 0 → (Q (0 : Int32) μ3)) ∧ (¬ r4 = 0 → (Q (1 : Int32) μ3))))))))) : cwi Γ M_X12_isSector [aR 12 0, aI x1, aI x2] μ Q := by
  refine cw_ofU (ls := [aR 12 0, aI x1, aI x2]) (Or.inl (by decide)) rfl (Nat.le_of_ble_eq_true rfl) rfl ?_
  refine aw_aload_n dX12_isSector_0 rfl ?_
  refine aw_get dX12_isSector_1 rfl fk_RX12_171 (look_I rfl : look μ 12 0 8 = aI (μ 12 0 8)) ?_
  refine aw_if_eq (tgt := 33) dX12_isSector_4 (by decide) (fun c0 => ?_) (fun c0 => ?_)
  · replace h := h.1 c0
    refine aw_iconst (v := (0 : Int32)) dX12_isSector_33 rfl ?_
    exact aw_iret (ty := .boolean) dX12_isSector_34 rfl (by decide) ⟨_, rfl, h⟩
  · replace h := h.2 c0
    refine aw_iload_n dX12_isSector_7 rfl ?_
    refine aw_iconst (v := (0 : Int32)) dX12_isSector_8 rfl ?_
    refine aw_sipush (v := (255 : Int32)) dX12_isSector_9 rfl ?_
    refine aw_callS (M' := M_X12_in) (vs := [aI x1, aI (0 : Int32), aI (255 : Int32)]) (st := []) dX12_isSector_12 mk_X12_in ms_X12_in ml_RX12_85 mp_X12_in rm_X12_isSector__X12_in (Nat.le_of_ble_eq_true rfl) rfl (cw_mono h ?_)
    clear h
    rintro _ μ1 ⟨r2, rfl, h⟩
    show aw Γ M_X12_isSector 15 [aR 12 0, aI x1, aI x2] [aI r2] μ1 (rI Q)
    refine aw_if_eq (tgt := 33) dX12_isSector_15 (by decide) (fun c0 => ?_) (fun c0 => ?_)
    · replace h := h.1 c0
      refine aw_iconst (v := (0 : Int32)) dX12_isSector_33 rfl ?_
      exact aw_iret (ty := .boolean) dX12_isSector_34 rfl (by decide) ⟨_, rfl, h⟩
    · replace h := h.2 c0
      refine aw_iload_n dX12_isSector_18 rfl ?_
      refine aw_iconst (v := (0 : Int32)) dX12_isSector_19 rfl ?_
      refine aw_sipush (v := (255 : Int32)) dX12_isSector_20 rfl ?_
      refine aw_callS (M' := M_X12_in) (vs := [aI x2, aI (0 : Int32), aI (255 : Int32)]) (st := []) dX12_isSector_23 mk_X12_in ms_X12_in ml_RX12_85 mp_X12_in rm_X12_isSector__X12_in (Nat.le_of_ble_eq_true rfl) rfl (cw_mono h ?_)
      clear h
      rintro _ μ3 ⟨r4, rfl, h⟩
      show aw Γ M_X12_isSector 26 [aR 12 0, aI x1, aI x2] [aI r4] μ3 (rI Q)
      refine aw_if_eq (tgt := 33) dX12_isSector_26 (by decide) (fun c0 => ?_) (fun c0 => ?_)
      · replace h := h.1 c0
        refine aw_iconst (v := (0 : Int32)) dX12_isSector_33 rfl ?_
        exact aw_iret (ty := .boolean) dX12_isSector_34 rfl (by decide) ⟨_, rfl, h⟩
      · replace h := h.2 c0
        refine aw_iconst (v := (1 : Int32)) dX12_isSector_29 rfl ?_
        refine aw_goto (tgt := 34) dX12_isSector_30 (by decide) ?_
        exact aw_iret (ty := .boolean) dX12_isSector_34 rfl (by decide) ⟨_, rfl, h⟩
theorem u_X12_status {Γ : cx_T} {μ : mH} {x1 : Int32} {x2 : Int32} {x3 : Int32} {Q : Int32 → mH → Prop} (h : cwi Γ M_X12_isSector [aR 12 0, aI x1, aI x2] μ (fun r2 μ1 => (r2 = 0 → (Q (-1 : Int32) μ1)) ∧ (¬ r2 = 0 → (cwi Γ M_X12_in [aI x3, aI (0 : Int32), aI (2 : Int32)] μ1 (fun r4 μ3 => (¬ r4 = 0 → (cwi Γ M_X12_statusOf [aR 12 0, aI x1, aI x2] μ3 (fun r6 μ5 => aw Γ M_X12_status 34 [aR 12 0, aX, aX, aI x3, aI r6, aI (0 : Int32), aI (0 : Int32)] [] μ5 (rI Q)))) ∧ (r4 = 0 → (Q (-1 : Int32) μ3))))))) : cwi Γ M_X12_status [aR 12 0, aI x1, aI x2, aI x3] μ Q := by
  refine cw_ofU (ls := [aR 12 0, aI x1, aI x2, aI x3, aX, aX, aX]) (Or.inl (by decide)) rfl (Nat.le_of_ble_eq_true rfl) rfl ?_
  refine aw_aload_n dX12_status_0 rfl ?_
  refine aw_iload_n dX12_status_1 rfl ?_
  refine aw_iload_n dX12_status_2 rfl ?_
  refine aw_callV (M' := M_X12_isSector) (K := 12) (i := 0) (vs := [aI x1, aI x2]) (st := []) dX12_status_3 mk_X12_isSector mi_X12_isSector ml_RX12_256 mp_X12_isSector rc_12 rm_X12_status__X12_isSector (Nat.le_of_ble_eq_true rfl) rfl (cw_mono h ?_)
  clear h
  rintro _ μ1 ⟨r2, rfl, h⟩
  show aw Γ M_X12_status 6 [aR 12 0, aI x1, aI x2, aI x3, aX, aX, aX] [aI r2] μ1 (rI Q)
  refine aw_if_eq (tgt := 18) dX12_status_6 (by decide) (fun c0 => ?_) (fun c0 => ?_)
  · replace h := h.1 c0
    refine aw_iconst (v := (-1 : Int32)) dX12_status_18 rfl ?_
    exact aw_iret dX12_status_19 rfl rfl ⟨_, rfl, h⟩
  · replace h := h.2 c0
    refine aw_iload_n dX12_status_9 rfl ?_
    refine aw_iconst (v := (0 : Int32)) dX12_status_10 rfl ?_
    refine aw_iconst (v := (2 : Int32)) dX12_status_11 rfl ?_
    refine aw_callS (M' := M_X12_in) (vs := [aI x3, aI (0 : Int32), aI (2 : Int32)]) (st := []) dX12_status_12 mk_X12_in ms_X12_in ml_RX12_85 mp_X12_in rm_X12_status__X12_in (Nat.le_of_ble_eq_true rfl) rfl (cw_mono h ?_)
    clear h
    rintro _ μ3 ⟨r4, rfl, h⟩
    show aw Γ M_X12_status 15 [aR 12 0, aI x1, aI x2, aI x3, aX, aX, aX] [aI r4] μ3 (rI Q)
    refine aw_if_ne (tgt := 20) dX12_status_15 (by decide) (fun c0 => ?_) (fun c0 => ?_)
    · replace h := h.1 c0
      refine aw_aload_n dX12_status_20 rfl ?_
      refine aw_iload_n dX12_status_21 rfl ?_
      refine aw_iload_n dX12_status_22 rfl ?_
      refine aw_callV (M' := M_X12_statusOf) (K := 12) (i := 0) (vs := [aI x1, aI x2]) (st := []) dX12_status_23 mk_X12_statusOf mi_X12_statusOf ml_RX12_259 mp_X12_statusOf rc_12 rm_X12_status__X12_statusOf (Nat.le_of_ble_eq_true rfl) rfl (cw_mono h ?_)
      clear h
      rintro _ μ5 ⟨r6, rfl, h⟩
      show aw Γ M_X12_status 26 [aR 12 0, aI x1, aI x2, aI x3, aX, aX, aX] [aI r6] μ5 (rI Q)
      refine aw_istore (ls' := [aR 12 0, aI x1, aI x2, aI x3, aI r6, aX, aX]) dX12_status_26 (by decide) rfl rfl ?_
      refine aw_iconst (v := (0 : Int32)) dX12_status_28 rfl ?_
      refine aw_istore (ls' := [aR 12 0, aI x1, aI x2, aI x3, aI r6, aI (0 : Int32), aX]) dX12_status_29 (by decide) rfl rfl ?_
      refine aw_iconst (v := (0 : Int32)) dX12_status_31 rfl ?_
      refine aw_istore (ls' := [aR 12 0, aI x1, aI x2, aI x3, aI r6, aI (0 : Int32), aI (0 : Int32)]) dX12_status_32 (by decide) rfl rfl ?_
      exact aw_wkk h (wk_e (wk_x (wk_x (wk_e (wk_e (wk_e (wk_e wk_n)))))))
    · replace h := h.2 c0
      refine aw_iconst (v := (-1 : Int32)) dX12_status_18 rfl ?_
      exact aw_iret dX12_status_19 rfl rfl ⟨_, rfl, h⟩
theorem u_X12_status_34 {Γ : cx_T} {μ : mH} {x3 : Int32} {x4 : Int32} {x5 : Int32} {x6 : Int32} {Q : Int32 → mH → Prop} (h : ((μ 12 0 26) ≤ x6 → ((¬ x3 = 0 → ((¬ x3 = (1 : Int32) → (Q x5 μ)) ∧ (x3 = (1 : Int32) → (Q (μ 12 0 26) μ)))) ∧ (x3 = 0 → (Q x4 μ)))) ∧ (¬ (μ 12 0 26) ≤ x6 → (vp_in x6 80 ∧ (((μ 56 0 (tn x6)) = 0 → (aw Γ M_X12_status 34 [aR 12 0, aX, aX, aI x3, aI x4, aI (x5 + (0 : Int32)), aI (x6 + (1 : Int32))] [] μ (rI Q))) ∧ (¬ (μ 56 0 (tn x6)) = 0 → (aw Γ M_X12_status 34 [aR 12 0, aX, aX, aI x3, aI x4, aI (x5 + (1 : Int32)), aI (x6 + (1 : Int32))] [] μ (rI Q))))))) : aw Γ M_X12_status 34 [aR 12 0, aX, aX, aI x3, aI x4, aI x5, aI x6] [] μ (rI Q) := by
  refine aw_iload dX12_status_34 rfl ?_
  refine aw_aload_n dX12_status_36 rfl ?_
  refine aw_get dX12_status_37 rfl fk_RX12_242 (look_I rfl : look μ 12 0 26 = aI (μ 12 0 26)) ?_
  refine aw_icmp_ge (tgt := 69) dX12_status_40 (by decide) (fun c0 => ?_) (fun c0 => ?_)
  · replace h := h.1 c0
    refine aw_iload_n dX12_status_69 rfl ?_
    refine aw_if_ne (tgt := 78) dX12_status_70 (by decide) (fun c0 => ?_) (fun c0 => ?_)
    · replace h := h.1 c0
      refine aw_iload_n dX12_status_78 rfl ?_
      refine aw_iconst (v := (1 : Int32)) dX12_status_79 rfl ?_
      refine aw_icmp_ne (tgt := 90) dX12_status_80 (by decide) (fun c0 => ?_) (fun c0 => ?_)
      · replace h := h.1 c0
        refine aw_iload dX12_status_90 rfl ?_
        exact aw_iret dX12_status_92 rfl rfl ⟨_, rfl, h⟩
      · replace h := h.2 c0
        refine aw_aload_n dX12_status_83 rfl ?_
        refine aw_get dX12_status_84 rfl fk_RX12_242 (look_I rfl : look μ 12 0 26 = aI (μ 12 0 26)) ?_
        refine aw_goto (tgt := 92) dX12_status_87 (by decide) ?_
        exact aw_iret dX12_status_92 rfl rfl ⟨_, rfl, h⟩
    · replace h := h.2 c0
      refine aw_iload dX12_status_73 rfl ?_
      refine aw_goto (tgt := 92) dX12_status_75 (by decide) ?_
      exact aw_iret dX12_status_92 rfl rfl ⟨_, rfl, h⟩
  · replace h := h.2 c0
    refine aw_iload dX12_status_43 rfl ?_
    refine aw_aload_n dX12_status_45 rfl ?_
    refine aw_get dX12_status_46 rfl fk_RX12_60 (look_R rfl rfl : look _ 12 0 28 = aR 56 0) ?_
    refine aw_iload dX12_status_49 rfl ?_
    refine aw_za (j := tn x6) (y := μ 56 0 (tn x6)) dX12_status_51 rfl (fun _ => rfl) h.1 rfl (rfl) ?_
    replace h := h.2
    refine aw_if_eq (tgt := 59) dX12_status_52 (by decide) (fun c0 => ?_) (fun c0 => ?_)
    · replace h := h.1 c0
      refine aw_iconst (v := (0 : Int32)) dX12_status_59 rfl ?_
      refine aw_iadd dX12_status_60 ?_
      refine aw_istore (ls' := [aR 12 0, aX, aX, aI x3, aI x4, aI (x5 + (0 : Int32)), aI x6]) dX12_status_61 (by decide) rfl rfl ?_
      refine aw_iinc (v := x6 + (1 : Int32)) (ls' := [aR 12 0, aX, aX, aI x3, aI x4, aI (x5 + (0 : Int32)), aI (x6 + (1 : Int32))]) dX12_status_63 rfl rfl (by decide) rfl rfl ?_
      refine aw_goto (tgt := 34) dX12_status_66 (by decide) ?_
      exact h
    · replace h := h.2 c0
      refine aw_iconst (v := (1 : Int32)) dX12_status_55 rfl ?_
      refine aw_goto (tgt := 60) dX12_status_56 (by decide) ?_
      refine aw_iadd dX12_status_60 ?_
      refine aw_istore (ls' := [aR 12 0, aX, aX, aI x3, aI x4, aI (x5 + (1 : Int32)), aI x6]) dX12_status_61 (by decide) rfl rfl ?_
      refine aw_iinc (v := x6 + (1 : Int32)) (ls' := [aR 12 0, aX, aX, aI x3, aI x4, aI (x5 + (1 : Int32)), aI (x6 + (1 : Int32))]) dX12_status_63 rfl rfl (by decide) rfl rfl ?_
      refine aw_goto (tgt := 34) dX12_status_66 (by decide) ?_
      exact h
theorem u_X12_value {Γ : cx_T} {μ : mH} {x1 : Int32} {x2 : Int32} {x3 : Int32} {Q : Int32 → mH → Prop} (h : cwi Γ M_X12_isSector [aR 12 0, aI x1, aI x2] μ (fun r2 μ1 => (r2 = 0 → (Q (-1 : Int32) μ1)) ∧ (¬ r2 = 0 → (cwi Γ M_X12_in [aI x3, aI (0 : Int32), aI ((μ1 42 0 4) - (1 : Int32))] μ1 (fun r4 μ3 => (¬ r4 = 0 → (cwi Γ M_X12_statusOf [aR 12 0, aI x1, aI x2] μ3 (fun r6 μ5 => (¬ (μ5 12 0 26) = 0 → (cwi Γ M_X12_isWhole [aI r6] μ5 (fun r8 μ7 => (r8 = 0 → (aw Γ M_X12_value 74 [aR 12 0, aX, aX, aI x3, aX, aI (0 : Int32), aI (0 : Int32), aI (0 : Int32), aX, aX] [] μ7 (rI Q))) ∧ (¬ r8 = 0 → (vp_in ((2 : Int32) + x3) 12 ∧ (Q ((256 : Int32) + (μ7 57 0 (tn ((2 : Int32) + x3)))) μ7)))))) ∧ ((μ5 12 0 26) = 0 → (Q (-1 : Int32) μ5))))) ∧ (r4 = 0 → (Q (-1 : Int32) μ3))))))) : cwi Γ M_X12_value [aR 12 0, aI x1, aI x2, aI x3] μ Q := by
  refine cw_ofU (ls := [aR 12 0, aI x1, aI x2, aI x3, aX, aX, aX, aX, aX, aX]) (Or.inl (by decide)) rfl (Nat.le_of_ble_eq_true rfl) rfl ?_
  refine aw_aload_n dX12_value_0 rfl ?_
  refine aw_iload_n dX12_value_1 rfl ?_
  refine aw_iload_n dX12_value_2 rfl ?_
  refine aw_callV (M' := M_X12_isSector) (K := 12) (i := 0) (vs := [aI x1, aI x2]) (st := []) dX12_value_3 mk_X12_isSector mi_X12_isSector ml_RX12_256 mp_X12_isSector rc_12 rm_X12_value__X12_isSector (Nat.le_of_ble_eq_true rfl) rfl (cw_mono h ?_)
  clear h
  rintro _ μ1 ⟨r2, rfl, h⟩
  show aw Γ M_X12_value 6 [aR 12 0, aI x1, aI x2, aI x3, aX, aX, aX, aX, aX, aX] [aI r2] μ1 (rI Q)
  refine aw_if_eq (tgt := 25) dX12_value_6 (by decide) (fun c0 => ?_) (fun c0 => ?_)
  · replace h := h.1 c0
    refine aw_iconst (v := (-1 : Int32)) dX12_value_25 rfl ?_
    exact aw_iret dX12_value_26 rfl rfl ⟨_, rfl, h⟩
  · replace h := h.2 c0
    refine aw_iload_n dX12_value_9 rfl ?_
    refine aw_iconst (v := (0 : Int32)) dX12_value_10 rfl ?_
    refine aw_aload_n dX12_value_11 rfl ?_
    refine aw_get dX12_value_12 rfl fk_RX12_17 (look_R rfl rfl : look _ 12 0 7 = aR 42 0) ?_
    refine aw_iconst (v := (4 : Int32)) dX12_value_15 rfl ?_
    refine aw_ia (j := 4) (y := μ1 42 0 4) dX12_value_16 rfl (fun _ => rfl) (by unfold vp_in; decide) (by decide) (rfl) ?_
    refine aw_iconst (v := (1 : Int32)) dX12_value_17 rfl ?_
    refine aw_isub dX12_value_18 ?_
    refine aw_callS (M' := M_X12_in) (vs := [aI x3, aI (0 : Int32), aI ((μ1 42 0 4) - (1 : Int32))]) (st := []) dX12_value_19 mk_X12_in ms_X12_in ml_RX12_85 mp_X12_in rm_X12_value__X12_in (Nat.le_of_ble_eq_true rfl) rfl (cw_mono h ?_)
    clear h
    rintro _ μ3 ⟨r4, rfl, h⟩
    show aw Γ M_X12_value 22 [aR 12 0, aI x1, aI x2, aI x3, aX, aX, aX, aX, aX, aX] [aI r4] μ3 (rI Q)
    refine aw_if_ne (tgt := 27) dX12_value_22 (by decide) (fun c0 => ?_) (fun c0 => ?_)
    · replace h := h.1 c0
      refine aw_aload_n dX12_value_27 rfl ?_
      refine aw_iload_n dX12_value_28 rfl ?_
      refine aw_iload_n dX12_value_29 rfl ?_
      refine aw_callV (M' := M_X12_statusOf) (K := 12) (i := 0) (vs := [aI x1, aI x2]) (st := []) dX12_value_30 mk_X12_statusOf mi_X12_statusOf ml_RX12_259 mp_X12_statusOf rc_12 rm_X12_value__X12_statusOf (Nat.le_of_ble_eq_true rfl) rfl (cw_mono h ?_)
      clear h
      rintro _ μ5 ⟨r6, rfl, h⟩
      show aw Γ M_X12_value 33 [aR 12 0, aI x1, aI x2, aI x3, aX, aX, aX, aX, aX, aX] [aI r6] μ5 (rI Q)
      refine aw_istore (ls' := [aR 12 0, aI x1, aI x2, aI x3, aI r6, aX, aX, aX, aX, aX]) dX12_value_33 (by decide) rfl rfl ?_
      refine aw_aload_n dX12_value_35 rfl ?_
      refine aw_get dX12_value_36 rfl fk_RX12_242 (look_I rfl : look μ5 12 0 26 = aI (μ5 12 0 26)) ?_
      refine aw_if_ne (tgt := 44) dX12_value_39 (by decide) (fun c0 => ?_) (fun c0 => ?_)
      · replace h := h.1 c0
        refine aw_iload dX12_value_44 rfl ?_
        refine aw_callS (M' := M_X12_isWhole) (vs := [aI r6]) (st := []) dX12_value_46 mk_X12_isWhole ms_X12_isWhole ml_RX12_262 mp_X12_isWhole rm_X12_value__X12_isWhole (Nat.le_of_ble_eq_true rfl) rfl (cw_mono h ?_)
        clear h
        rintro _ μ7 ⟨r8, rfl, h⟩
        show aw Γ M_X12_value 49 [aR 12 0, aI x1, aI x2, aI x3, aI r6, aX, aX, aX, aX, aX] [aI r8] μ7 (rI Q)
        refine aw_if_eq (tgt := 65) dX12_value_49 (by decide) (fun c0 => ?_) (fun c0 => ?_)
        · replace h := h.1 c0
          refine aw_iconst (v := (0 : Int32)) dX12_value_65 rfl ?_
          refine aw_istore (ls' := [aR 12 0, aI x1, aI x2, aI x3, aI r6, aI (0 : Int32), aX, aX, aX, aX]) dX12_value_66 (by decide) rfl rfl ?_
          refine aw_iconst (v := (0 : Int32)) dX12_value_68 rfl ?_
          refine aw_istore (ls' := [aR 12 0, aI x1, aI x2, aI x3, aI r6, aI (0 : Int32), aI (0 : Int32), aX, aX, aX]) dX12_value_69 (by decide) rfl rfl ?_
          refine aw_iconst (v := (0 : Int32)) dX12_value_71 rfl ?_
          refine aw_istore (ls' := [aR 12 0, aI x1, aI x2, aI x3, aI r6, aI (0 : Int32), aI (0 : Int32), aI (0 : Int32), aX, aX]) dX12_value_72 (by decide) rfl rfl ?_
          exact aw_wkk h (wk_e (wk_x (wk_x (wk_e (wk_x (wk_e (wk_e (wk_e (wk_e (wk_e wk_n))))))))))
        · replace h := h.2 c0
          refine aw_sipush (v := (256 : Int32)) dX12_value_52 rfl ?_
          refine aw_aload_n dX12_value_55 rfl ?_
          refine aw_get dX12_value_56 rfl fk_RX12_63 (look_R rfl rfl : look _ 12 0 29 = aR 57 0) ?_
          refine aw_iconst (v := (2 : Int32)) dX12_value_59 rfl ?_
          refine aw_iload_n dX12_value_60 rfl ?_
          refine aw_iadd dX12_value_61 ?_
          refine aw_ia (j := tn ((2 : Int32) + x3)) (y := μ7 57 0 (tn ((2 : Int32) + x3))) dX12_value_62 rfl (fun _ => rfl) h.1 rfl (rfl) ?_
          replace h := h.2
          refine aw_iadd dX12_value_63 ?_
          exact aw_iret dX12_value_64 rfl rfl ⟨_, rfl, h⟩
      · replace h := h.2 c0
        refine aw_iconst (v := (-1 : Int32)) dX12_value_42 rfl ?_
        exact aw_iret dX12_value_43 rfl rfl ⟨_, rfl, h⟩
    · replace h := h.2 c0
      refine aw_iconst (v := (-1 : Int32)) dX12_value_25 rfl ?_
      exact aw_iret dX12_value_26 rfl rfl ⟨_, rfl, h⟩
theorem u_X12_value_74 {Γ : cx_T} {μ : mH} {x3 : Int32} {x5 : Int32} {x6 : Int32} {x7 : Int32} {Q : Int32 → mH → Prop} (h : ((256 : Int32) ≤ x7 → ((((2 : Int32) * x6) ≤ (μ 12 0 26) → (Q x5 μ)) ∧ (¬ ((2 : Int32) * x6) ≤ (μ 12 0 26) → (Q ((256 : Int32) + x5) μ)))) ∧ (¬ (256 : Int32) ≤ x7 → (aw Γ M_X12_value 88 [aR 12 0, aX, aX, aI x3, aX, aI x5, aI x6, aI x7, aI (0 : Int32), aI (0 : Int32)] [] μ (rI Q)))) : aw Γ M_X12_value 74 [aR 12 0, aX, aX, aI x3, aX, aI x5, aI x6, aI x7, aX, aX] [] μ (rI Q) := by
  refine aw_iload dX12_value_74 rfl ?_
  refine aw_sipush (v := (256 : Int32)) dX12_value_76 rfl ?_
  refine aw_icmp_ge (tgt := 156) dX12_value_79 (by decide) (fun c0 => ?_) (fun c0 => ?_)
  · replace h := h.1 c0
    refine aw_iconst (v := (2 : Int32)) dX12_value_156 rfl ?_
    refine aw_iload dX12_value_157 rfl ?_
    refine aw_imul dX12_value_159 ?_
    refine aw_aload_n dX12_value_160 rfl ?_
    refine aw_get dX12_value_161 rfl fk_RX12_242 (look_I rfl : look μ 12 0 26 = aI (μ 12 0 26)) ?_
    refine aw_icmp_le (tgt := 176) dX12_value_164 (by decide) (fun c0 => ?_) (fun c0 => ?_)
    · replace h := h.1 c0
      refine aw_iload dX12_value_176 rfl ?_
      exact aw_iret dX12_value_178 rfl rfl ⟨_, rfl, h⟩
    · replace h := h.2 c0
      refine aw_sipush (v := (256 : Int32)) dX12_value_167 rfl ?_
      refine aw_iload dX12_value_170 rfl ?_
      refine aw_iadd dX12_value_172 ?_
      refine aw_goto (tgt := 178) dX12_value_173 (by decide) ?_
      exact aw_iret dX12_value_178 rfl rfl ⟨_, rfl, h⟩
  · replace h := h.2 c0
    refine aw_iconst (v := (0 : Int32)) dX12_value_82 rfl ?_
    refine aw_istore (ls' := [aR 12 0, aX, aX, aI x3, aX, aI x5, aI x6, aI x7, aI (0 : Int32), aX]) dX12_value_83 (by decide) rfl rfl ?_
    refine aw_iconst (v := (0 : Int32)) dX12_value_85 rfl ?_
    refine aw_istore (ls' := [aR 12 0, aX, aX, aI x3, aX, aI x5, aI x6, aI x7, aI (0 : Int32), aI (0 : Int32)]) dX12_value_86 (by decide) rfl rfl ?_
    exact h
theorem u_X12_value_88 {Γ : cx_T} {μ : mH} {x3 : Int32} {x5 : Int32} {x6 : Int32} {x7 : Int32} {x8 : Int32} {x9 : Int32} {Q : Int32 → mH → Prop} (h : ((μ 12 0 26) ≤ x9 → ((x6 < x8 → (aw Γ M_X12_value 74 [aR 12 0, aX, aX, aI x3, aX, aI x7, aI x8, aI (x7 + (1 : Int32)), aX, aX] [] μ (rI Q))) ∧ (¬ x6 < x8 → (aw Γ M_X12_value 74 [aR 12 0, aX, aX, aI x3, aX, aI x5, aI x6, aI (x7 + (1 : Int32)), aX, aX] [] μ (rI Q))))) ∧ (¬ (μ 12 0 26) ≤ x9 → (vp_in ((((12 : Int32) * x9) + (2 : Int32)) + x3) 960 ∧ ((¬ (μ 55 0 (tn ((((12 : Int32) * x9) + (2 : Int32)) + x3))) = x7 → (aw Γ M_X12_value 88 [aR 12 0, aX, aX, aI x3, aX, aI x5, aI x6, aI x7, aI (x8 + (0 : Int32)), aI (x9 + (1 : Int32))] [] μ (rI Q))) ∧ ((μ 55 0 (tn ((((12 : Int32) * x9) + (2 : Int32)) + x3))) = x7 → (aw Γ M_X12_value 88 [aR 12 0, aX, aX, aI x3, aX, aI x5, aI x6, aI x7, aI (x8 + (1 : Int32)), aI (x9 + (1 : Int32))] [] μ (rI Q))))))) : aw Γ M_X12_value 88 [aR 12 0, aX, aX, aI x3, aX, aI x5, aI x6, aI x7, aI x8, aI x9] [] μ (rI Q) := by
  refine aw_iload dX12_value_88 rfl ?_
  refine aw_aload_n dX12_value_90 rfl ?_
  refine aw_get dX12_value_91 rfl fk_RX12_242 (look_I rfl : look μ 12 0 26 = aI (μ 12 0 26)) ?_
  refine aw_icmp_ge (tgt := 132) dX12_value_94 (by decide) (fun c0 => ?_) (fun c0 => ?_)
  · replace h := h.1 c0
    refine aw_iload dX12_value_132 rfl ?_
    refine aw_iload dX12_value_134 rfl ?_
    refine aw_icmp_gt (tgt := 142) dX12_value_136 (by decide) (fun c0 => ?_) (fun c0 => ?_)
    · replace h := h.1 c0
      refine aw_iload dX12_value_142 rfl ?_
      refine aw_istore (ls' := [aR 12 0, aX, aX, aI x3, aX, aI x5, aI x8, aI x7, aI x8, aI x9]) dX12_value_144 (by decide) rfl rfl ?_
      refine aw_iload dX12_value_146 rfl ?_
      refine aw_istore (ls' := [aR 12 0, aX, aX, aI x3, aX, aI x7, aI x8, aI x7, aI x8, aI x9]) dX12_value_148 (by decide) rfl rfl ?_
      refine aw_iinc (v := x7 + (1 : Int32)) (ls' := [aR 12 0, aX, aX, aI x3, aX, aI x7, aI x8, aI (x7 + (1 : Int32)), aI x8, aI x9]) dX12_value_150 rfl rfl (by decide) rfl rfl ?_
      refine aw_goto (tgt := 74) dX12_value_153 (by decide) ?_
      exact aw_wkk h (wk_e (wk_e (wk_e (wk_e (wk_e (wk_e (wk_e (wk_e (wk_x (wk_x wk_n))))))))))
    · replace h := h.2 c0
      refine aw_goto (tgt := 150) dX12_value_139 (by decide) ?_
      refine aw_iinc (v := x7 + (1 : Int32)) (ls' := [aR 12 0, aX, aX, aI x3, aX, aI x5, aI x6, aI (x7 + (1 : Int32)), aI x8, aI x9]) dX12_value_150 rfl rfl (by decide) rfl rfl ?_
      refine aw_goto (tgt := 74) dX12_value_153 (by decide) ?_
      exact aw_wkk h (wk_e (wk_e (wk_e (wk_e (wk_e (wk_e (wk_e (wk_e (wk_x (wk_x wk_n))))))))))
  · replace h := h.2 c0
    refine aw_iload dX12_value_97 rfl ?_
    refine aw_aload_n dX12_value_99 rfl ?_
    refine aw_get dX12_value_100 rfl fk_RX12_57 (look_R rfl rfl : look _ 12 0 27 = aR 55 0) ?_
    refine aw_bipush (v := (12 : Int32)) dX12_value_103 rfl ?_
    refine aw_iload dX12_value_105 rfl ?_
    refine aw_imul dX12_value_107 ?_
    refine aw_iconst (v := (2 : Int32)) dX12_value_108 rfl ?_
    refine aw_iadd dX12_value_109 ?_
    refine aw_iload_n dX12_value_110 rfl ?_
    refine aw_iadd dX12_value_111 ?_
    refine aw_ia (j := tn ((((12 : Int32) * x9) + (2 : Int32)) + x3)) (y := μ 55 0 (tn ((((12 : Int32) * x9) + (2 : Int32)) + x3))) dX12_value_112 rfl (fun _ => rfl) h.1 rfl (rfl) ?_
    replace h := h.2
    refine aw_iload dX12_value_113 rfl ?_
    refine aw_icmp_ne (tgt := 122) dX12_value_115 (by decide) (fun c0 => ?_) (fun c0 => ?_)
    · replace h := h.1 c0
      refine aw_iconst (v := (0 : Int32)) dX12_value_122 rfl ?_
      refine aw_iadd dX12_value_123 ?_
      refine aw_istore (ls' := [aR 12 0, aX, aX, aI x3, aX, aI x5, aI x6, aI x7, aI (x8 + (0 : Int32)), aI x9]) dX12_value_124 (by decide) rfl rfl ?_
      refine aw_iinc (v := x9 + (1 : Int32)) (ls' := [aR 12 0, aX, aX, aI x3, aX, aI x5, aI x6, aI x7, aI (x8 + (0 : Int32)), aI (x9 + (1 : Int32))]) dX12_value_126 rfl rfl (by decide) rfl rfl ?_
      refine aw_goto (tgt := 88) dX12_value_129 (by decide) ?_
      exact h
    · replace h := h.2 c0
      refine aw_iconst (v := (1 : Int32)) dX12_value_118 rfl ?_
      refine aw_goto (tgt := 123) dX12_value_119 (by decide) ?_
      refine aw_iadd dX12_value_123 ?_
      refine aw_istore (ls' := [aR 12 0, aX, aX, aI x3, aX, aI x5, aI x6, aI x7, aI (x8 + (1 : Int32)), aI x9]) dX12_value_124 (by decide) rfl rfl ?_
      refine aw_iinc (v := x9 + (1 : Int32)) (ls' := [aR 12 0, aX, aX, aI x3, aX, aI x5, aI x6, aI x7, aI (x8 + (1 : Int32)), aI (x9 + (1 : Int32))]) dX12_value_126 rfl rfl (by decide) rfl rfl ?_
      refine aw_goto (tgt := 88) dX12_value_129 (by decide) ?_
      exact h
theorem u_X12_isCluster {Γ : cx_T} {μ : mH} {x0 : Int32} {Q : Int32 → mH → Prop} (h : cwi Γ M_X12_in [aI x0, aI (0 : Int32), aI (23 : Int32)] μ (fun r2 μ1 => (r2 = 0 ∨ r2 = 1) ∧ Q r2 μ1)) : cwi Γ M_X12_isCluster [aI x0] μ Q := by
  refine cw_ofU (ls := [aI x0]) (Or.inl (by decide)) rfl (Nat.le_of_ble_eq_true rfl) rfl ?_
  refine aw_iload_n dX12_isCluster_0 rfl ?_
  refine aw_iconst (v := (0 : Int32)) dX12_isCluster_1 rfl ?_
  refine aw_bipush (v := (23 : Int32)) dX12_isCluster_2 rfl ?_
  refine aw_callS (M' := M_X12_in) (vs := [aI x0, aI (0 : Int32), aI (23 : Int32)]) (st := []) dX12_isCluster_4 mk_X12_in ms_X12_in ml_RX12_85 mp_X12_in rm_X12_isCluster__X12_in (Nat.le_of_ble_eq_true rfl) rfl (cw_mono h ?_)
  clear h
  rintro _ μ1 ⟨r2, rfl, h⟩
  show aw Γ M_X12_isCluster 7 [aI x0] [aI r2] μ1 (rI Q)
  exact aw_iret (ty := .boolean) dX12_isCluster_7 rfl (nar_z h.1).1 ⟨_, rfl, h.2⟩
theorem u_X12_tell {Γ : cx_T} {μ : mH} {x1 : Int32} {x2 : Int32} {x3 : Int32} {Q : Int32 → mH → Prop} (h : cwi Γ M_X12_in [aI x1, aI (0 : Int32), aI (1 : Int32)] μ (fun r2 μ1 => (r2 = 0 → (Q (0 : Int32) μ1)) ∧ (¬ r2 = 0 → (cwi Γ M_X12_isCluster [aI x2] μ1 (fun r4 μ3 => (r4 = 0 → (Q (0 : Int32) μ3)) ∧ (¬ r4 = 0 → (cwi Γ M_X12_in [aI x3, aI (0 : Int32), aI (26 : Int32)] μ3 (fun r6 μ5 => (¬ r6 = 0 → (vp_in (((24 : Int32) * x1) + x2) 48 ∧ (Q (1 : Int32) (sto μ5 47 0 (tn (((24 : Int32) * x1) + x2)) x3)))) ∧ (r6 = 0 → (Q (0 : Int32) μ5)))))))))) : cwi Γ M_X12_tell [aR 12 0, aI x1, aI x2, aI x3] μ Q := by
  refine cw_ofU (ls := [aR 12 0, aI x1, aI x2, aI x3]) (Or.inl (by decide)) rfl (Nat.le_of_ble_eq_true rfl) rfl ?_
  refine aw_iload_n dX12_tell_0 rfl ?_
  refine aw_iconst (v := (0 : Int32)) dX12_tell_1 rfl ?_
  refine aw_iconst (v := (1 : Int32)) dX12_tell_2 rfl ?_
  refine aw_callS (M' := M_X12_in) (vs := [aI x1, aI (0 : Int32), aI (1 : Int32)]) (st := []) dX12_tell_3 mk_X12_in ms_X12_in ml_RX12_85 mp_X12_in rm_X12_tell__X12_in (Nat.le_of_ble_eq_true rfl) rfl (cw_mono h ?_)
  clear h
  rintro _ μ1 ⟨r2, rfl, h⟩
  show aw Γ M_X12_tell 6 [aR 12 0, aI x1, aI x2, aI x3] [aI r2] μ1 (rI Q)
  refine aw_if_eq (tgt := 26) dX12_tell_6 (by decide) (fun c0 => ?_) (fun c0 => ?_)
  · replace h := h.1 c0
    refine aw_iconst (v := (0 : Int32)) dX12_tell_26 rfl ?_
    exact aw_iret (ty := .boolean) dX12_tell_27 rfl (by decide) ⟨_, rfl, h⟩
  · replace h := h.2 c0
    refine aw_iload_n dX12_tell_9 rfl ?_
    refine aw_callS (M' := M_X12_isCluster) (vs := [aI x2]) (st := []) dX12_tell_10 mk_X12_isCluster ms_X12_isCluster ml_RX12_265 mp_X12_isCluster rm_X12_tell__X12_isCluster (Nat.le_of_ble_eq_true rfl) rfl (cw_mono h ?_)
    clear h
    rintro _ μ3 ⟨r4, rfl, h⟩
    show aw Γ M_X12_tell 13 [aR 12 0, aI x1, aI x2, aI x3] [aI r4] μ3 (rI Q)
    refine aw_if_eq (tgt := 26) dX12_tell_13 (by decide) (fun c0 => ?_) (fun c0 => ?_)
    · replace h := h.1 c0
      refine aw_iconst (v := (0 : Int32)) dX12_tell_26 rfl ?_
      exact aw_iret (ty := .boolean) dX12_tell_27 rfl (by decide) ⟨_, rfl, h⟩
    · replace h := h.2 c0
      refine aw_iload_n dX12_tell_16 rfl ?_
      refine aw_iconst (v := (0 : Int32)) dX12_tell_17 rfl ?_
      refine aw_bipush (v := (26 : Int32)) dX12_tell_18 rfl ?_
      refine aw_callS (M' := M_X12_in) (vs := [aI x3, aI (0 : Int32), aI (26 : Int32)]) (st := []) dX12_tell_20 mk_X12_in ms_X12_in ml_RX12_85 mp_X12_in rm_X12_tell__X12_in (Nat.le_of_ble_eq_true rfl) rfl (cw_mono h ?_)
      clear h
      rintro _ μ5 ⟨r6, rfl, h⟩
      show aw Γ M_X12_tell 23 [aR 12 0, aI x1, aI x2, aI x3] [aI r6] μ5 (rI Q)
      refine aw_if_ne (tgt := 28) dX12_tell_23 (by decide) (fun c0 => ?_) (fun c0 => ?_)
      · replace h := h.1 c0
        refine aw_aload_n dX12_tell_28 rfl ?_
        refine aw_get dX12_tell_29 rfl fk_RX12_32 (look_R rfl rfl : look _ 12 0 15 = aR 47 0) ?_
        refine aw_bipush (v := (24 : Int32)) dX12_tell_32 rfl ?_
        refine aw_iload_n dX12_tell_34 rfl ?_
        refine aw_imul dX12_tell_35 ?_
        refine aw_iload_n dX12_tell_36 rfl ?_
        refine aw_iadd dX12_tell_37 ?_
        refine aw_iload_n dX12_tell_38 rfl ?_
        refine aw_is (j := tn (((24 : Int32) * x1) + x2)) dX12_tell_39 rfl (fun _ => rfl) h.1 rfl ?_
        replace h := h.2
        refine aw_iconst (v := (1 : Int32)) dX12_tell_40 rfl ?_
        exact aw_iret (ty := .boolean) dX12_tell_41 rfl (by decide) ⟨_, rfl, h⟩
      · replace h := h.2 c0
        refine aw_iconst (v := (0 : Int32)) dX12_tell_26 rfl ?_
        exact aw_iret (ty := .boolean) dX12_tell_27 rfl (by decide) ⟨_, rfl, h⟩
theorem u_X12_file {Γ : cx_T} {μ : mH} {x1 : Int32} {x2 : Int32} {Q : Int32 → mH → Prop} (h : cwi Γ M_X12_isCluster [aI x1] μ (fun r2 μ1 => (r2 = 0 → (Q (-1 : Int32) μ1)) ∧ (¬ r2 = 0 → (cwi Γ M_X12_in [aI x2, aI (1 : Int32), aI (24 : Int32)] μ1 (fun r4 μ3 => (r4 = 0 → (Q (-1 : Int32) μ3)) ∧ (¬ r4 = 0 → ((¬ (μ3 12 0 16) = (6 : Int32) → (vp_in (μ3 12 0 16) 6 ∧ (vp_in (μ3 12 0 16) 6 ∧ (Q (((μ3 12 0 16) + (1 : Int32)) - (1 : Int32)) (sto (sto (sto μ3 48 0 (tn (μ3 12 0 16)) x1) 49 0 (tn (μ3 12 0 16)) x2) 12 0 16 ((μ3 12 0 16) + (1 : Int32))))))) ∧ ((μ3 12 0 16) = (6 : Int32) → (Q (-1 : Int32) μ3))))))))) : cwi Γ M_X12_file [aR 12 0, aI x1, aI x2] μ Q := by
  refine cw_ofU (ls := [aR 12 0, aI x1, aI x2]) (Or.inl (by decide)) rfl (Nat.le_of_ble_eq_true rfl) rfl ?_
  refine aw_iload_n dX12_file_0 rfl ?_
  refine aw_callS (M' := M_X12_isCluster) (vs := [aI x1]) (st := []) dX12_file_1 mk_X12_isCluster ms_X12_isCluster ml_RX12_265 mp_X12_isCluster rm_X12_file__X12_isCluster (Nat.le_of_ble_eq_true rfl) rfl (cw_mono h ?_)
  clear h
  rintro _ μ1 ⟨r2, rfl, h⟩
  show aw Γ M_X12_file 4 [aR 12 0, aI x1, aI x2] [aI r2] μ1 (rI Q)
  refine aw_if_eq (tgt := 26) dX12_file_4 (by decide) (fun c0 => ?_) (fun c0 => ?_)
  · replace h := h.1 c0
    refine aw_iconst (v := (-1 : Int32)) dX12_file_26 rfl ?_
    exact aw_iret dX12_file_27 rfl rfl ⟨_, rfl, h⟩
  · replace h := h.2 c0
    refine aw_iload_n dX12_file_7 rfl ?_
    refine aw_iconst (v := (1 : Int32)) dX12_file_8 rfl ?_
    refine aw_bipush (v := (24 : Int32)) dX12_file_9 rfl ?_
    refine aw_callS (M' := M_X12_in) (vs := [aI x2, aI (1 : Int32), aI (24 : Int32)]) (st := []) dX12_file_11 mk_X12_in ms_X12_in ml_RX12_85 mp_X12_in rm_X12_file__X12_in (Nat.le_of_ble_eq_true rfl) rfl (cw_mono h ?_)
    clear h
    rintro _ μ3 ⟨r4, rfl, h⟩
    show aw Γ M_X12_file 14 [aR 12 0, aI x1, aI x2] [aI r4] μ3 (rI Q)
    refine aw_if_eq (tgt := 26) dX12_file_14 (by decide) (fun c0 => ?_) (fun c0 => ?_)
    · replace h := h.1 c0
      refine aw_iconst (v := (-1 : Int32)) dX12_file_26 rfl ?_
      exact aw_iret dX12_file_27 rfl rfl ⟨_, rfl, h⟩
    · replace h := h.2 c0
      refine aw_aload_n dX12_file_17 rfl ?_
      refine aw_get dX12_file_18 rfl fk_RX12_268 (look_I rfl : look μ3 12 0 16 = aI (μ3 12 0 16)) ?_
      refine aw_bipush (v := (6 : Int32)) dX12_file_21 rfl ?_
      refine aw_icmp_ne (tgt := 28) dX12_file_23 (by decide) (fun c0 => ?_) (fun c0 => ?_)
      · replace h := h.1 c0
        refine aw_aload_n dX12_file_28 rfl ?_
        refine aw_get dX12_file_29 rfl fk_RX12_35 (look_R rfl rfl : look _ 12 0 17 = aR 48 0) ?_
        refine aw_aload_n dX12_file_32 rfl ?_
        refine aw_get dX12_file_33 rfl fk_RX12_268 (look_I rfl : look μ3 12 0 16 = aI (μ3 12 0 16)) ?_
        refine aw_iload_n dX12_file_36 rfl ?_
        refine aw_is (j := tn (μ3 12 0 16)) dX12_file_37 rfl (fun _ => rfl) h.1 rfl ?_
        replace h := h.2
        refine aw_aload_n dX12_file_38 rfl ?_
        refine aw_get dX12_file_39 rfl fk_RX12_38 (look_R rfl rfl : look _ 12 0 18 = aR 49 0) ?_
        refine aw_aload_n dX12_file_42 rfl ?_
        refine aw_get dX12_file_43 rfl fk_RX12_268 ((look_I rfl).trans (congrArg aI ((sto_K (by decide)).trans (rfl))) : look (sto μ3 48 0 (tn (μ3 12 0 16)) x1) 12 0 16 = aI (μ3 12 0 16)) ?_
        refine aw_iload_n dX12_file_46 rfl ?_
        refine aw_is (j := tn (μ3 12 0 16)) dX12_file_47 rfl (fun _ => rfl) h.1 rfl ?_
        replace h := h.2
        refine aw_aload_n dX12_file_48 rfl ?_
        refine aw_dup dX12_file_49 (fun _ => rfl) ?_
        refine aw_get dX12_file_50 rfl fk_RX12_268 ((look_I rfl).trans (congrArg aI ((sto_K (by decide)).trans ((sto_K (by decide)).trans (rfl)))) : look (sto (sto μ3 48 0 (tn (μ3 12 0 16)) x1) 49 0 (tn (μ3 12 0 16)) x2) 12 0 16 = aI (μ3 12 0 16)) ?_
        refine aw_iconst (v := (1 : Int32)) dX12_file_53 rfl ?_
        refine aw_iadd dX12_file_54 ?_
        refine aw_putI dX12_file_55 rfl fk_RX12_268 (fun r h => by cases h; rfl) rfl rfl ?_
        refine aw_aload_n dX12_file_58 rfl ?_
        refine aw_get dX12_file_59 rfl fk_RX12_268 ((look_I rfl).trans (congrArg aI (sto_eq)) : look (sto (sto (sto μ3 48 0 (tn (μ3 12 0 16)) x1) 49 0 (tn (μ3 12 0 16)) x2) 12 0 16 ((μ3 12 0 16) + (1 : Int32))) 12 0 16 = aI ((μ3 12 0 16) + (1 : Int32))) ?_
        refine aw_iconst (v := (1 : Int32)) dX12_file_62 rfl ?_
        refine aw_isub dX12_file_63 ?_
        exact aw_iret dX12_file_64 rfl rfl ⟨_, rfl, h⟩
      · replace h := h.2 c0
        refine aw_iconst (v := (-1 : Int32)) dX12_file_26 rfl ?_
        exact aw_iret dX12_file_27 rfl rfl ⟨_, rfl, h⟩
theorem u_X12_chains {Γ : cx_T} {μ : mH} {x1 : Int32} {Q : mH → Prop} (h : vp_in x1 6 ∧ (aw Γ M_X12_chains 14 [aR 12 0, aX, aI (μ 48 0 (tn x1)), aI (0 : Int32)] [] (sto μ 12 0 34 (0 : Int32)) (rV Q))) : cwv Γ M_X12_chains [aR 12 0, aI x1] μ Q := by
  refine cw_ofU (ls := [aR 12 0, aI x1, aX, aX]) (Or.inl (by decide)) rfl (Nat.le_of_ble_eq_true rfl) rfl ?_
  refine aw_aload_n dX12_chains_0 rfl ?_
  refine aw_iconst (v := (0 : Int32)) dX12_chains_1 rfl ?_
  refine aw_putI dX12_chains_2 rfl fk_RX12_271 (fun r h => by cases h; rfl) rfl rfl ?_
  refine aw_aload_n dX12_chains_5 rfl ?_
  refine aw_get dX12_chains_6 rfl fk_RX12_35 (look_R rfl rfl : look _ 12 0 17 = aR 48 0) ?_
  refine aw_iload_n dX12_chains_9 rfl ?_
  refine aw_ia (j := tn x1) (y := μ 48 0 (tn x1)) dX12_chains_10 rfl (fun _ => rfl) h.1 rfl ((sto_K (by decide)).trans (rfl)) ?_
  replace h := h.2
  refine aw_istore_n (ls' := [aR 12 0, aI x1, aI (μ 48 0 (tn x1)), aX]) dX12_chains_11 (by decide) rfl rfl ?_
  refine aw_iconst (v := (0 : Int32)) dX12_chains_12 rfl ?_
  refine aw_istore_n (ls' := [aR 12 0, aI x1, aI (μ 48 0 (tn x1)), aI (0 : Int32)]) dX12_chains_13 (by decide) rfl rfl ?_
  exact aw_wkk h (wk_e (wk_x (wk_e (wk_e wk_n))))
theorem u_X12_chains_14 {Γ : cx_T} {μ : mH} {x2 : Int32} {x3 : Int32} {Q : mH → Prop} (h : cwi Γ M_X12_isCluster [aI x2] μ (fun r2 μ1 => (r2 = 0 → (Q μ1)) ∧ (¬ r2 = 0 → ((¬ ((x3 >>> (x2 &&& 31)) &&& (1 : Int32)) = 0 → (Q μ1)) ∧ (((x3 >>> (x2 &&& 31)) &&& (1 : Int32)) = 0 → (vp_in (μ1 12 0 34) 24 ∧ (vp_in x2 24 ∧ (aw Γ M_X12_chains 14 [aR 12 0, aX, aI (μ1 60 0 (tn x2)), aI (x3 ||| ((1 : Int32) <<< (x2 &&& 31)))] [] (sto (sto μ1 61 0 (tn (μ1 12 0 34)) x2) 12 0 34 ((μ1 12 0 34) + (1 : Int32))) (rV Q))))))))) : aw Γ M_X12_chains 14 [aR 12 0, aX, aI x2, aI x3] [] μ (rV Q) := by
  refine aw_iload_n dX12_chains_14 rfl ?_
  refine aw_callS (M' := M_X12_isCluster) (vs := [aI x2]) (st := []) dX12_chains_15 mk_X12_isCluster ms_X12_isCluster ml_RX12_265 mp_X12_isCluster rm_X12_chains__X12_isCluster (Nat.le_of_ble_eq_true rfl) rfl (cw_mono h ?_)
  clear h
  rintro _ μ1 ⟨r2, rfl, h⟩
  show aw Γ M_X12_chains 18 [aR 12 0, aX, aI x2, aI x3] [aI r2] μ1 (rV Q)
  refine aw_if_eq (tgt := 65) dX12_chains_18 (by decide) (fun c0 => ?_) (fun c0 => ?_)
  · replace h := h.1 c0
    exact aw_vret dX12_chains_65 rfl h
  · replace h := h.2 c0
    refine aw_iload_n dX12_chains_21 rfl ?_
    refine aw_iload_n dX12_chains_22 rfl ?_
    refine aw_ishr dX12_chains_23 ?_
    refine aw_iconst (v := (1 : Int32)) dX12_chains_24 rfl ?_
    refine aw_iand dX12_chains_25 ?_
    refine aw_if_ne (tgt := 65) dX12_chains_26 (by decide) (fun c0 => ?_) (fun c0 => ?_)
    · replace h := h.1 c0
      exact aw_vret dX12_chains_65 rfl h
    · replace h := h.2 c0
      refine aw_iload_n dX12_chains_29 rfl ?_
      refine aw_iconst (v := (1 : Int32)) dX12_chains_30 rfl ?_
      refine aw_iload_n dX12_chains_31 rfl ?_
      refine aw_ishl dX12_chains_32 ?_
      refine aw_ior dX12_chains_33 ?_
      refine aw_istore_n (ls' := [aR 12 0, aX, aI x2, aI (x3 ||| ((1 : Int32) <<< (x2 &&& 31)))]) dX12_chains_34 (by decide) rfl rfl ?_
      refine aw_aload_n dX12_chains_35 rfl ?_
      refine aw_get dX12_chains_36 rfl fk_RX12_75 (look_R rfl rfl : look _ 12 0 33 = aR 61 0) ?_
      refine aw_aload_n dX12_chains_39 rfl ?_
      refine aw_get dX12_chains_40 rfl fk_RX12_271 (look_I rfl : look μ1 12 0 34 = aI (μ1 12 0 34)) ?_
      refine aw_iload_n dX12_chains_43 rfl ?_
      refine aw_is (j := tn (μ1 12 0 34)) dX12_chains_44 rfl (fun _ => rfl) h.1 rfl ?_
      replace h := h.2
      refine aw_aload_n dX12_chains_45 rfl ?_
      refine aw_dup dX12_chains_46 (fun _ => rfl) ?_
      refine aw_get dX12_chains_47 rfl fk_RX12_271 ((look_I rfl).trans (congrArg aI ((sto_K (by decide)).trans (rfl))) : look (sto μ1 61 0 (tn (μ1 12 0 34)) x2) 12 0 34 = aI (μ1 12 0 34)) ?_
      refine aw_iconst (v := (1 : Int32)) dX12_chains_50 rfl ?_
      refine aw_iadd dX12_chains_51 ?_
      refine aw_putI dX12_chains_52 rfl fk_RX12_271 (fun r h => by cases h; rfl) rfl rfl ?_
      refine aw_aload_n dX12_chains_55 rfl ?_
      refine aw_get dX12_chains_56 rfl fk_RX12_72 (look_R rfl rfl : look _ 12 0 32 = aR 60 0) ?_
      refine aw_iload_n dX12_chains_59 rfl ?_
      refine aw_ia (j := tn x2) (y := μ1 60 0 (tn x2)) dX12_chains_60 rfl (fun _ => rfl) h.1 rfl ((sto_K (by decide)).trans ((sto_K (by decide)).trans (rfl))) ?_
      replace h := h.2
      refine aw_istore_n (ls' := [aR 12 0, aX, aI (μ1 60 0 (tn x2)), aI (x3 ||| ((1 : Int32) <<< (x2 &&& 31)))]) dX12_chains_61 (by decide) rfl rfl ?_
      refine aw_goto (tgt := 14) dX12_chains_62 (by decide) ?_
      exact h
theorem u_X12_mishapsNow {Γ : cx_T} {μ : mH}  {Q : Int32 → mH → Prop} (h : aw Γ M_X12_mishapsNow 6 [aR 12 0, aI (0 : Int32), aI (0 : Int32), aI (0 : Int32), aX] [] μ (rI Q)) : cwi Γ M_X12_mishapsNow [aR 12 0] μ Q := by
  refine cw_ofU (ls := [aR 12 0, aX, aX, aX, aX]) (Or.inl (by decide)) rfl (Nat.le_of_ble_eq_true rfl) rfl ?_
  refine aw_iconst (v := (0 : Int32)) dX12_mishapsNow_0 rfl ?_
  refine aw_istore_n (ls' := [aR 12 0, aI (0 : Int32), aX, aX, aX]) dX12_mishapsNow_1 (by decide) rfl rfl ?_
  refine aw_iconst (v := (0 : Int32)) dX12_mishapsNow_2 rfl ?_
  refine aw_istore_n (ls' := [aR 12 0, aI (0 : Int32), aI (0 : Int32), aX, aX]) dX12_mishapsNow_3 (by decide) rfl rfl ?_
  refine aw_iconst (v := (0 : Int32)) dX12_mishapsNow_4 rfl ?_
  refine aw_istore_n (ls' := [aR 12 0, aI (0 : Int32), aI (0 : Int32), aI (0 : Int32), aX]) dX12_mishapsNow_5 (by decide) rfl rfl ?_
  exact h
theorem u_X12_mishapsNow_6 {Γ : cx_T} {μ : mH} {x1 : Int32} {x2 : Int32} {x3 : Int32} {Q : Int32 → mH → Prop} (h : ((μ 12 0 16) ≤ x3 → (aw Γ M_X12_mishapsNow 121 [aR 12 0, aI x1, aI x2, aI (0 : Int32), aX] [] μ (rI Q))) ∧ (¬ (μ 12 0 16) ≤ x3 → (cwv Γ M_X12_chains [aR 12 0, aI x3] μ (fun μ1 => vp_in x3 6 ∧ ((¬ (μ1 12 0 34) = (μ1 49 0 (tn x3)) → (aw Γ M_X12_mishapsNow 38 [aR 12 0, aX, aI x2, aI x3, aX] [aI (1 : Int32), aI x1] μ1 (rI Q))) ∧ ((μ1 12 0 34) = (μ1 49 0 (tn x3)) → (aw Γ M_X12_mishapsNow 38 [aR 12 0, aX, aI x2, aI x3, aX] [aI (0 : Int32), aI x1] μ1 (rI Q)))))))) : aw Γ M_X12_mishapsNow 6 [aR 12 0, aI x1, aI x2, aI x3, aX] [] μ (rI Q) := by
  refine aw_iload_n dX12_mishapsNow_6 rfl ?_
  refine aw_aload_n dX12_mishapsNow_7 rfl ?_
  refine aw_get dX12_mishapsNow_8 rfl fk_RX12_268 (look_I rfl : look μ 12 0 16 = aI (μ 12 0 16)) ?_
  refine aw_icmp_ge (tgt := 119) dX12_mishapsNow_11 (by decide) (fun c0 => ?_) (fun c0 => ?_)
  · replace h := h.1 c0
    refine aw_iconst (v := (0 : Int32)) dX12_mishapsNow_119 rfl ?_
    refine aw_istore_n (ls' := [aR 12 0, aI x1, aI x2, aI (0 : Int32), aX]) dX12_mishapsNow_120 (by decide) rfl rfl ?_
    exact h
  · replace h := h.2 c0
    refine aw_aload_n dX12_mishapsNow_14 rfl ?_
    refine aw_iload_n dX12_mishapsNow_15 rfl ?_
    refine aw_callV (M' := M_X12_chains) (K := 12) (i := 0) (vs := [aI x3]) (st := []) dX12_mishapsNow_16 mk_X12_chains mi_X12_chains ml_RX12_274 mp_X12_chains rc_12 rm_X12_mishapsNow__X12_chains (Nat.le_of_ble_eq_true rfl) rfl (cw_mono h ?_)
    clear h
    intro _ μ1 h
    show aw Γ M_X12_mishapsNow 19 [aR 12 0, aI x1, aI x2, aI x3, aX] [] μ1 (rI Q)
    refine aw_iload_n dX12_mishapsNow_19 rfl ?_
    refine aw_aload_n dX12_mishapsNow_20 rfl ?_
    refine aw_get dX12_mishapsNow_21 rfl fk_RX12_271 (look_I rfl : look μ1 12 0 34 = aI (μ1 12 0 34)) ?_
    refine aw_aload_n dX12_mishapsNow_24 rfl ?_
    refine aw_get dX12_mishapsNow_25 rfl fk_RX12_38 (look_R rfl rfl : look _ 12 0 18 = aR 49 0) ?_
    refine aw_iload_n dX12_mishapsNow_28 rfl ?_
    refine aw_ia (j := tn x3) (y := μ1 49 0 (tn x3)) dX12_mishapsNow_29 rfl (fun _ => rfl) h.1 rfl (rfl) ?_
    replace h := h.2
    refine aw_icmp_ne (tgt := 37) dX12_mishapsNow_30 (by decide) (fun c0 => ?_) (fun c0 => ?_)
    · replace h := h.1 c0
      refine aw_iconst (v := (1 : Int32)) dX12_mishapsNow_37 rfl ?_
      exact aw_wkk h (wk_e (wk_x (wk_e (wk_e (wk_e wk_n)))))
    · replace h := h.2 c0
      refine aw_iconst (v := (0 : Int32)) dX12_mishapsNow_33 rfl ?_
      refine aw_goto (tgt := 38) dX12_mishapsNow_34 (by decide) ?_
      exact aw_wkk h (wk_e (wk_x (wk_e (wk_e (wk_e wk_n)))))
theorem u_X12_mishapsNow_121 {Γ : cx_T} {μ : mH} {x1 : Int32} {x2 : Int32} {x3 : Int32} {Q : Int32 → mH → Prop} (h : ((24 : Int32) ≤ x3 → (Q x1 μ)) ∧ (¬ (24 : Int32) ≤ x3 → ((¬ ((x2 >>> (x3 &&& 31)) &&& (1 : Int32)) = 0 → (aw Γ M_X12_mishapsNow 121 [aR 12 0, aI (x1 + (0 : Int32)), aI x2, aI (x3 + (1 : Int32)), aX] [] μ (rI Q))) ∧ (((x2 >>> (x3 &&& 31)) &&& (1 : Int32)) = 0 → (vp_in x3 24 ∧ (((μ 60 0 (tn x3)) = (25 : Int32) → (aw Γ M_X12_mishapsNow 121 [aR 12 0, aI (x1 + (0 : Int32)), aI x2, aI (x3 + (1 : Int32)), aX] [] μ (rI Q))) ∧ (¬ (μ 60 0 (tn x3)) = (25 : Int32) → (vp_in x3 24 ∧ (((μ 60 0 (tn x3)) = (26 : Int32) → (aw Γ M_X12_mishapsNow 121 [aR 12 0, aI (x1 + (0 : Int32)), aI x2, aI (x3 + (1 : Int32)), aX] [] μ (rI Q))) ∧ (¬ (μ 60 0 (tn x3)) = (26 : Int32) → (aw Γ M_X12_mishapsNow 121 [aR 12 0, aI (x1 + (1 : Int32)), aI x2, aI (x3 + (1 : Int32)), aX] [] μ (rI Q)))))))))))) : aw Γ M_X12_mishapsNow 121 [aR 12 0, aI x1, aI x2, aI x3, aX] [] μ (rI Q) := by
  refine aw_iload_n dX12_mishapsNow_121 rfl ?_
  refine aw_bipush (v := (24 : Int32)) dX12_mishapsNow_122 rfl ?_
  refine aw_icmp_ge (tgt := 171) dX12_mishapsNow_124 (by decide) (fun c0 => ?_) (fun c0 => ?_)
  · replace h := h.1 c0
    refine aw_iload_n dX12_mishapsNow_171 rfl ?_
    exact aw_iret dX12_mishapsNow_172 rfl rfl ⟨_, rfl, h⟩
  · replace h := h.2 c0
    refine aw_iload_n dX12_mishapsNow_127 rfl ?_
    refine aw_iload_n dX12_mishapsNow_128 rfl ?_
    refine aw_iload_n dX12_mishapsNow_129 rfl ?_
    refine aw_ishr dX12_mishapsNow_130 ?_
    refine aw_iconst (v := (1 : Int32)) dX12_mishapsNow_131 rfl ?_
    refine aw_iand dX12_mishapsNow_132 ?_
    refine aw_if_ne (tgt := 162) dX12_mishapsNow_133 (by decide) (fun c0 => ?_) (fun c0 => ?_)
    · replace h := h.1 c0
      refine aw_iconst (v := (0 : Int32)) dX12_mishapsNow_162 rfl ?_
      refine aw_iadd dX12_mishapsNow_163 ?_
      refine aw_istore_n (ls' := [aR 12 0, aI (x1 + (0 : Int32)), aI x2, aI x3, aX]) dX12_mishapsNow_164 (by decide) rfl rfl ?_
      refine aw_iinc (v := x3 + (1 : Int32)) (ls' := [aR 12 0, aI (x1 + (0 : Int32)), aI x2, aI (x3 + (1 : Int32)), aX]) dX12_mishapsNow_165 rfl rfl (by decide) rfl rfl ?_
      refine aw_goto (tgt := 121) dX12_mishapsNow_168 (by decide) ?_
      exact h
    · replace h := h.2 c0
      refine aw_aload_n dX12_mishapsNow_136 rfl ?_
      refine aw_get dX12_mishapsNow_137 rfl fk_RX12_72 (look_R rfl rfl : look _ 12 0 32 = aR 60 0) ?_
      refine aw_iload_n dX12_mishapsNow_140 rfl ?_
      refine aw_ia (j := tn x3) (y := μ 60 0 (tn x3)) dX12_mishapsNow_141 rfl (fun _ => rfl) h.1 rfl (rfl) ?_
      replace h := h.2
      refine aw_bipush (v := (25 : Int32)) dX12_mishapsNow_142 rfl ?_
      refine aw_icmp_eq (tgt := 162) dX12_mishapsNow_144 (by decide) (fun c0 => ?_) (fun c0 => ?_)
      · replace h := h.1 c0
        refine aw_iconst (v := (0 : Int32)) dX12_mishapsNow_162 rfl ?_
        refine aw_iadd dX12_mishapsNow_163 ?_
        refine aw_istore_n (ls' := [aR 12 0, aI (x1 + (0 : Int32)), aI x2, aI x3, aX]) dX12_mishapsNow_164 (by decide) rfl rfl ?_
        refine aw_iinc (v := x3 + (1 : Int32)) (ls' := [aR 12 0, aI (x1 + (0 : Int32)), aI x2, aI (x3 + (1 : Int32)), aX]) dX12_mishapsNow_165 rfl rfl (by decide) rfl rfl ?_
        refine aw_goto (tgt := 121) dX12_mishapsNow_168 (by decide) ?_
        exact h
      · replace h := h.2 c0
        refine aw_aload_n dX12_mishapsNow_147 rfl ?_
        refine aw_get dX12_mishapsNow_148 rfl fk_RX12_72 (look_R rfl rfl : look _ 12 0 32 = aR 60 0) ?_
        refine aw_iload_n dX12_mishapsNow_151 rfl ?_
        refine aw_ia (j := tn x3) (y := μ 60 0 (tn x3)) dX12_mishapsNow_152 rfl (fun _ => rfl) h.1 rfl (rfl) ?_
        replace h := h.2
        refine aw_bipush (v := (26 : Int32)) dX12_mishapsNow_153 rfl ?_
        refine aw_icmp_eq (tgt := 162) dX12_mishapsNow_155 (by decide) (fun c0 => ?_) (fun c0 => ?_)
        · replace h := h.1 c0
          refine aw_iconst (v := (0 : Int32)) dX12_mishapsNow_162 rfl ?_
          refine aw_iadd dX12_mishapsNow_163 ?_
          refine aw_istore_n (ls' := [aR 12 0, aI (x1 + (0 : Int32)), aI x2, aI x3, aX]) dX12_mishapsNow_164 (by decide) rfl rfl ?_
          refine aw_iinc (v := x3 + (1 : Int32)) (ls' := [aR 12 0, aI (x1 + (0 : Int32)), aI x2, aI (x3 + (1 : Int32)), aX]) dX12_mishapsNow_165 rfl rfl (by decide) rfl rfl ?_
          refine aw_goto (tgt := 121) dX12_mishapsNow_168 (by decide) ?_
          exact h
        · replace h := h.2 c0
          refine aw_iconst (v := (1 : Int32)) dX12_mishapsNow_158 rfl ?_
          refine aw_goto (tgt := 163) dX12_mishapsNow_159 (by decide) ?_
          refine aw_iadd dX12_mishapsNow_163 ?_
          refine aw_istore_n (ls' := [aR 12 0, aI (x1 + (1 : Int32)), aI x2, aI x3, aX]) dX12_mishapsNow_164 (by decide) rfl rfl ?_
          refine aw_iinc (v := x3 + (1 : Int32)) (ls' := [aR 12 0, aI (x1 + (1 : Int32)), aI x2, aI (x3 + (1 : Int32)), aX]) dX12_mishapsNow_165 rfl rfl (by decide) rfl rfl ?_
          refine aw_goto (tgt := 121) dX12_mishapsNow_168 (by decide) ?_
          exact h
theorem u_X12_mishapsNow_38 {Γ : cx_T} {μ : mH} {x2 : Int32} {x3 : Int32} {y0 : Int32} {y1 : Int32} {Q : Int32 → mH → Prop} (h : vp_in ((μ 12 0 34) - (1 : Int32)) 24 ∧ (vp_in (μ 61 0 (tn ((μ 12 0 34) - (1 : Int32)))) 24 ∧ ((¬ (μ 60 0 (tn (μ 61 0 (tn ((μ 12 0 34) - (1 : Int32)))))) = (24 : Int32) → (aw Γ M_X12_mishapsNow 72 [aR 12 0, aI ((y1 + y0) + (1 : Int32)), aI x2, aI x3, aI (0 : Int32)] [] μ (rI Q))) ∧ ((μ 60 0 (tn (μ 61 0 (tn ((μ 12 0 34) - (1 : Int32)))))) = (24 : Int32) → (aw Γ M_X12_mishapsNow 72 [aR 12 0, aI ((y1 + y0) + (0 : Int32)), aI x2, aI x3, aI (0 : Int32)] [] μ (rI Q)))))) : aw Γ M_X12_mishapsNow 38 [aR 12 0, aX, aI x2, aI x3, aX] [aI y0, aI y1] μ (rI Q) := by
  refine aw_iadd dX12_mishapsNow_38 ?_
  refine aw_istore_n (ls' := [aR 12 0, aI (y1 + y0), aI x2, aI x3, aX]) dX12_mishapsNow_39 (by decide) rfl rfl ?_
  refine aw_iload_n dX12_mishapsNow_40 rfl ?_
  refine aw_aload_n dX12_mishapsNow_41 rfl ?_
  refine aw_get dX12_mishapsNow_42 rfl fk_RX12_72 (look_R rfl rfl : look _ 12 0 32 = aR 60 0) ?_
  refine aw_aload_n dX12_mishapsNow_45 rfl ?_
  refine aw_get dX12_mishapsNow_46 rfl fk_RX12_75 (look_R rfl rfl : look _ 12 0 33 = aR 61 0) ?_
  refine aw_aload_n dX12_mishapsNow_49 rfl ?_
  refine aw_get dX12_mishapsNow_50 rfl fk_RX12_271 (look_I rfl : look μ 12 0 34 = aI (μ 12 0 34)) ?_
  refine aw_iconst (v := (1 : Int32)) dX12_mishapsNow_53 rfl ?_
  refine aw_isub dX12_mishapsNow_54 ?_
  refine aw_ia (j := tn ((μ 12 0 34) - (1 : Int32))) (y := μ 61 0 (tn ((μ 12 0 34) - (1 : Int32)))) dX12_mishapsNow_55 rfl (fun _ => rfl) h.1 rfl (rfl) ?_
  replace h := h.2
  refine aw_ia (j := tn (μ 61 0 (tn ((μ 12 0 34) - (1 : Int32))))) (y := μ 60 0 (tn (μ 61 0 (tn ((μ 12 0 34) - (1 : Int32)))))) dX12_mishapsNow_56 rfl (fun _ => rfl) h.1 rfl (rfl) ?_
  replace h := h.2
  refine aw_bipush (v := (24 : Int32)) dX12_mishapsNow_57 rfl ?_
  refine aw_icmp_ne (tgt := 66) dX12_mishapsNow_59 (by decide) (fun c0 => ?_) (fun c0 => ?_)
  · replace h := h.1 c0
    refine aw_iconst (v := (1 : Int32)) dX12_mishapsNow_66 rfl ?_
    refine aw_iadd dX12_mishapsNow_67 ?_
    refine aw_istore_n (ls' := [aR 12 0, aI ((y1 + y0) + (1 : Int32)), aI x2, aI x3, aX]) dX12_mishapsNow_68 (by decide) rfl rfl ?_
    refine aw_iconst (v := (0 : Int32)) dX12_mishapsNow_69 rfl ?_
    refine aw_istore (ls' := [aR 12 0, aI ((y1 + y0) + (1 : Int32)), aI x2, aI x3, aI (0 : Int32)]) dX12_mishapsNow_70 (by decide) rfl rfl ?_
    exact h
  · replace h := h.2 c0
    refine aw_iconst (v := (0 : Int32)) dX12_mishapsNow_62 rfl ?_
    refine aw_goto (tgt := 67) dX12_mishapsNow_63 (by decide) ?_
    refine aw_iadd dX12_mishapsNow_67 ?_
    refine aw_istore_n (ls' := [aR 12 0, aI ((y1 + y0) + (0 : Int32)), aI x2, aI x3, aX]) dX12_mishapsNow_68 (by decide) rfl rfl ?_
    refine aw_iconst (v := (0 : Int32)) dX12_mishapsNow_69 rfl ?_
    refine aw_istore (ls' := [aR 12 0, aI ((y1 + y0) + (0 : Int32)), aI x2, aI x3, aI (0 : Int32)]) dX12_mishapsNow_70 (by decide) rfl rfl ?_
    exact h
theorem u_X12_mishapsNow_72 {Γ : cx_T} {μ : mH} {x1 : Int32} {x2 : Int32} {x3 : Int32} {x4 : Int32} {Q : Int32 → mH → Prop} (h : ((μ 12 0 34) ≤ x4 → (aw Γ M_X12_mishapsNow 6 [aR 12 0, aI x1, aI x2, aI (x3 + (1 : Int32)), aX] [] μ (rI Q))) ∧ (¬ (μ 12 0 34) ≤ x4 → (vp_in x4 24 ∧ (vp_in x4 24 ∧ (aw Γ M_X12_mishapsNow 72 [aR 12 0, aI (x1 + ((x2 >>> (μ 61 0 (tn x4) &&& 31)) &&& (1 : Int32))), aI (x2 ||| ((1 : Int32) <<< (μ 61 0 (tn x4) &&& 31))), aI x3, aI (x4 + (1 : Int32))] [] μ (rI Q)))))) : aw Γ M_X12_mishapsNow 72 [aR 12 0, aI x1, aI x2, aI x3, aI x4] [] μ (rI Q) := by
  refine aw_iload dX12_mishapsNow_72 rfl ?_
  refine aw_aload_n dX12_mishapsNow_74 rfl ?_
  refine aw_get dX12_mishapsNow_75 rfl fk_RX12_271 (look_I rfl : look μ 12 0 34 = aI (μ 12 0 34)) ?_
  refine aw_icmp_ge (tgt := 113) dX12_mishapsNow_78 (by decide) (fun c0 => ?_) (fun c0 => ?_)
  · replace h := h.1 c0
    refine aw_iinc (v := x3 + (1 : Int32)) (ls' := [aR 12 0, aI x1, aI x2, aI (x3 + (1 : Int32)), aI x4]) dX12_mishapsNow_113 rfl rfl (by decide) rfl rfl ?_
    refine aw_goto (tgt := 6) dX12_mishapsNow_116 (by decide) ?_
    exact aw_wkk h (wk_e (wk_e (wk_e (wk_e (wk_x wk_n)))))
  · replace h := h.2 c0
    refine aw_iload_n dX12_mishapsNow_81 rfl ?_
    refine aw_iload_n dX12_mishapsNow_82 rfl ?_
    refine aw_aload_n dX12_mishapsNow_83 rfl ?_
    refine aw_get dX12_mishapsNow_84 rfl fk_RX12_75 (look_R rfl rfl : look _ 12 0 33 = aR 61 0) ?_
    refine aw_iload dX12_mishapsNow_87 rfl ?_
    refine aw_ia (j := tn x4) (y := μ 61 0 (tn x4)) dX12_mishapsNow_89 rfl (fun _ => rfl) h.1 rfl (rfl) ?_
    replace h := h.2
    refine aw_ishr dX12_mishapsNow_90 ?_
    refine aw_iconst (v := (1 : Int32)) dX12_mishapsNow_91 rfl ?_
    refine aw_iand dX12_mishapsNow_92 ?_
    refine aw_iadd dX12_mishapsNow_93 ?_
    refine aw_istore_n (ls' := [aR 12 0, aI (x1 + ((x2 >>> (μ 61 0 (tn x4) &&& 31)) &&& (1 : Int32))), aI x2, aI x3, aI x4]) dX12_mishapsNow_94 (by decide) rfl rfl ?_
    refine aw_iload_n dX12_mishapsNow_95 rfl ?_
    refine aw_iconst (v := (1 : Int32)) dX12_mishapsNow_96 rfl ?_
    refine aw_aload_n dX12_mishapsNow_97 rfl ?_
    refine aw_get dX12_mishapsNow_98 rfl fk_RX12_75 (look_R rfl rfl : look _ 12 0 33 = aR 61 0) ?_
    refine aw_iload dX12_mishapsNow_101 rfl ?_
    refine aw_ia (j := tn x4) (y := μ 61 0 (tn x4)) dX12_mishapsNow_103 rfl (fun _ => rfl) h.1 rfl (rfl) ?_
    replace h := h.2
    refine aw_ishl dX12_mishapsNow_104 ?_
    refine aw_ior dX12_mishapsNow_105 ?_
    refine aw_istore_n (ls' := [aR 12 0, aI (x1 + ((x2 >>> (μ 61 0 (tn x4) &&& 31)) &&& (1 : Int32))), aI (x2 ||| ((1 : Int32) <<< (μ 61 0 (tn x4) &&& 31))), aI x3, aI x4]) dX12_mishapsNow_106 (by decide) rfl rfl ?_
    refine aw_iinc (v := x4 + (1 : Int32)) (ls' := [aR 12 0, aI (x1 + ((x2 >>> (μ 61 0 (tn x4) &&& 31)) &&& (1 : Int32))), aI (x2 ||| ((1 : Int32) <<< (μ 61 0 (tn x4) &&& 31))), aI x3, aI (x4 + (1 : Int32))]) dX12_mishapsNow_107 rfl rfl (by decide) rfl rfl ?_
    refine aw_goto (tgt := 72) dX12_mishapsNow_110 (by decide) ?_
    exact h
theorem u_X12_takesFrom {Γ : cx_T} {μ : mH} {x1 : Int32} {Q : mH → Prop} (h : aw Γ M_X12_takesFrom 2 [aR 12 0, aI x1, aI (0 : Int32)] [] μ (rV Q)) : cwv Γ M_X12_takesFrom [aR 12 0, aI x1] μ Q := by
  refine cw_ofU (ls := [aR 12 0, aI x1, aX]) (Or.inl (by decide)) rfl (Nat.le_of_ble_eq_true rfl) rfl ?_
  refine aw_iconst (v := (0 : Int32)) dX12_takesFrom_0 rfl ?_
  refine aw_istore_n (ls' := [aR 12 0, aI x1, aI (0 : Int32)]) dX12_takesFrom_1 (by decide) rfl rfl ?_
  exact h
theorem u_X12_takesFrom_2 {Γ : cx_T} {μ : mH} {x1 : Int32} {x2 : Int32} {Q : mH → Prop} (h : ((24 : Int32) ≤ x2 → (Q μ)) ∧ (¬ (24 : Int32) ≤ x2 → (vp_in (((24 : Int32) * ((x1 >>> (x2 &&& 31)) &&& (1 : Int32))) + x2) 48 ∧ (vp_in x2 24 ∧ (aw Γ M_X12_takesFrom 2 [aR 12 0, aI x1, aI (x2 + (1 : Int32))] [] (sto μ 60 0 (tn x2) (μ 47 0 (tn (((24 : Int32) * ((x1 >>> (x2 &&& 31)) &&& (1 : Int32))) + x2)))) (rV Q)))))) : aw Γ M_X12_takesFrom 2 [aR 12 0, aI x1, aI x2] [] μ (rV Q) := by
  refine aw_iload_n dX12_takesFrom_2 rfl ?_
  refine aw_bipush (v := (24 : Int32)) dX12_takesFrom_3 rfl ?_
  refine aw_icmp_ge (tgt := 35) dX12_takesFrom_5 (by decide) (fun c0 => ?_) (fun c0 => ?_)
  · replace h := h.1 c0
    exact aw_vret dX12_takesFrom_35 rfl h
  · replace h := h.2 c0
    refine aw_aload_n dX12_takesFrom_8 rfl ?_
    refine aw_get dX12_takesFrom_9 rfl fk_RX12_72 (look_R rfl rfl : look _ 12 0 32 = aR 60 0) ?_
    refine aw_iload_n dX12_takesFrom_12 rfl ?_
    refine aw_aload_n dX12_takesFrom_13 rfl ?_
    refine aw_get dX12_takesFrom_14 rfl fk_RX12_32 (look_R rfl rfl : look _ 12 0 15 = aR 47 0) ?_
    refine aw_bipush (v := (24 : Int32)) dX12_takesFrom_17 rfl ?_
    refine aw_iload_n dX12_takesFrom_19 rfl ?_
    refine aw_iload_n dX12_takesFrom_20 rfl ?_
    refine aw_ishr dX12_takesFrom_21 ?_
    refine aw_iconst (v := (1 : Int32)) dX12_takesFrom_22 rfl ?_
    refine aw_iand dX12_takesFrom_23 ?_
    refine aw_imul dX12_takesFrom_24 ?_
    refine aw_iload_n dX12_takesFrom_25 rfl ?_
    refine aw_iadd dX12_takesFrom_26 ?_
    refine aw_ia (j := tn (((24 : Int32) * ((x1 >>> (x2 &&& 31)) &&& (1 : Int32))) + x2)) (y := μ 47 0 (tn (((24 : Int32) * ((x1 >>> (x2 &&& 31)) &&& (1 : Int32))) + x2))) dX12_takesFrom_27 rfl (fun _ => rfl) h.1 rfl (rfl) ?_
    replace h := h.2
    refine aw_is (j := tn x2) dX12_takesFrom_28 rfl (fun _ => rfl) h.1 rfl ?_
    replace h := h.2
    refine aw_iinc (v := x2 + (1 : Int32)) (ls' := [aR 12 0, aI x1, aI (x2 + (1 : Int32))]) dX12_takesFrom_29 rfl rfl (by decide) rfl rfl ?_
    refine aw_goto (tgt := 2) dX12_takesFrom_32 (by decide) ?_
    exact h
theorem u_X12_ones {Γ : cx_T} {μ : mH} {x0 : Int32} {Q : Int32 → mH → Prop} (h : aw Γ M_X12_ones 4 [aI x0, aI (0 : Int32), aI (0 : Int32)] [] μ (rI Q)) : cwi Γ M_X12_ones [aI x0] μ Q := by
  refine cw_ofU (ls := [aI x0, aX, aX]) (Or.inl (by decide)) rfl (Nat.le_of_ble_eq_true rfl) rfl ?_
  refine aw_iconst (v := (0 : Int32)) dX12_ones_0 rfl ?_
  refine aw_istore_n (ls' := [aI x0, aI (0 : Int32), aX]) dX12_ones_1 (by decide) rfl rfl ?_
  refine aw_iconst (v := (0 : Int32)) dX12_ones_2 rfl ?_
  refine aw_istore_n (ls' := [aI x0, aI (0 : Int32), aI (0 : Int32)]) dX12_ones_3 (by decide) rfl rfl ?_
  exact h
theorem u_X12_ones_4 {Γ : cx_T} {μ : mH} {x0 : Int32} {x1 : Int32} {x2 : Int32} {Q : Int32 → mH → Prop} (h : ((24 : Int32) ≤ x2 → (Q x1 μ)) ∧ (¬ (24 : Int32) ≤ x2 → (aw Γ M_X12_ones 4 [aI x0, aI (x1 + ((x0 >>> (x2 &&& 31)) &&& (1 : Int32))), aI (x2 + (1 : Int32))] [] μ (rI Q)))) : aw Γ M_X12_ones 4 [aI x0, aI x1, aI x2] [] μ (rI Q) := by
  refine aw_iload_n dX12_ones_4 rfl ?_
  refine aw_bipush (v := (24 : Int32)) dX12_ones_5 rfl ?_
  refine aw_icmp_ge (tgt := 24) dX12_ones_7 (by decide) (fun c0 => ?_) (fun c0 => ?_)
  · replace h := h.1 c0
    refine aw_iload_n dX12_ones_24 rfl ?_
    exact aw_iret dX12_ones_25 rfl rfl ⟨_, rfl, h⟩
  · replace h := h.2 c0
    refine aw_iload_n dX12_ones_10 rfl ?_
    refine aw_iload_n dX12_ones_11 rfl ?_
    refine aw_iload_n dX12_ones_12 rfl ?_
    refine aw_ishr dX12_ones_13 ?_
    refine aw_iconst (v := (1 : Int32)) dX12_ones_14 rfl ?_
    refine aw_iand dX12_ones_15 ?_
    refine aw_iadd dX12_ones_16 ?_
    refine aw_istore_n (ls' := [aI x0, aI (x1 + ((x0 >>> (x2 &&& 31)) &&& (1 : Int32))), aI x2]) dX12_ones_17 (by decide) rfl rfl ?_
    refine aw_iinc (v := x2 + (1 : Int32)) (ls' := [aI x0, aI (x1 + ((x0 >>> (x2 &&& 31)) &&& (1 : Int32))), aI (x2 + (1 : Int32))]) dX12_ones_18 rfl rfl (by decide) rfl rfl ?_
    refine aw_goto (tgt := 4) dX12_ones_21 (by decide) ?_
    exact h
theorem u_X12_asks {Γ : cx_T} {μ : mH} {x1 : Int32} {Q : Int32 → mH → Prop} (h : cwi Γ M_X12_in [aI x1, aI (0 : Int32), aI (2 : Int32)] μ (fun r2 μ1 => (¬ r2 = 0 → (((2 : Int32) ≤ x1 → (aw Γ M_X12_asks 37 [aR 12 0, aX, aI (0 : Int32), aI (0 : Int32), aX, aX, aX, aX] [] μ1 (rI Q))) ∧ (¬ (2 : Int32) ≤ x1 → ((¬ x1 = 0 → (cwv Γ M_X12_takesFrom [aR 12 0, aI (16777215 : Int32)] μ1 (fun μ3 => Q (1 : Int32) μ3))) ∧ (x1 = 0 → (cwv Γ M_X12_takesFrom [aR 12 0, aI (0 : Int32)] μ1 (fun μ4 => Q (1 : Int32) μ4))))))) ∧ (r2 = 0 → (Q (0 : Int32) μ1)))) : cwi Γ M_X12_asks [aR 12 0, aI x1] μ Q := by
  refine cw_ofU (ls := [aR 12 0, aI x1, aX, aX, aX, aX, aX, aX]) (Or.inl (by decide)) rfl (Nat.le_of_ble_eq_true rfl) rfl ?_
  refine aw_iload_n dX12_asks_0 rfl ?_
  refine aw_iconst (v := (0 : Int32)) dX12_asks_1 rfl ?_
  refine aw_iconst (v := (2 : Int32)) dX12_asks_2 rfl ?_
  refine aw_callS (M' := M_X12_in) (vs := [aI x1, aI (0 : Int32), aI (2 : Int32)]) (st := []) dX12_asks_3 mk_X12_in ms_X12_in ml_RX12_85 mp_X12_in rm_X12_asks__X12_in (Nat.le_of_ble_eq_true rfl) rfl (cw_mono h ?_)
  clear h
  rintro _ μ1 ⟨r2, rfl, h⟩
  show aw Γ M_X12_asks 6 [aR 12 0, aI x1, aX, aX, aX, aX, aX, aX] [aI r2] μ1 (rI Q)
  refine aw_if_ne (tgt := 11) dX12_asks_6 (by decide) (fun c0 => ?_) (fun c0 => ?_)
  · replace h := h.1 c0
    refine aw_iload_n dX12_asks_11 rfl ?_
    refine aw_iconst (v := (2 : Int32)) dX12_asks_12 rfl ?_
    refine aw_icmp_ge (tgt := 33) dX12_asks_13 (by decide) (fun c0 => ?_) (fun c0 => ?_)
    · replace h := h.1 c0
      refine aw_iconst (v := (0 : Int32)) dX12_asks_33 rfl ?_
      refine aw_istore_n (ls' := [aR 12 0, aI x1, aI (0 : Int32), aX, aX, aX, aX, aX]) dX12_asks_34 (by decide) rfl rfl ?_
      refine aw_iconst (v := (0 : Int32)) dX12_asks_35 rfl ?_
      refine aw_istore_n (ls' := [aR 12 0, aI x1, aI (0 : Int32), aI (0 : Int32), aX, aX, aX, aX]) dX12_asks_36 (by decide) rfl rfl ?_
      exact aw_wkk h (wk_e (wk_x (wk_e (wk_e (wk_e (wk_e (wk_e (wk_e wk_n))))))))
    · replace h := h.2 c0
      refine aw_aload_n dX12_asks_16 rfl ?_
      refine aw_iload_n dX12_asks_17 rfl ?_
      refine aw_if_ne (tgt := 25) dX12_asks_18 (by decide) (fun c0 => ?_) (fun c0 => ?_)
      · replace h := h.1 c0
        refine aw_ldcw (v := (16777215 : Int32)) dX12_asks_25 kc_RX12_277 ?_
        refine aw_callV (M' := M_X12_takesFrom) (K := 12) (i := 0) (vs := [aI (16777215 : Int32)]) (st := []) dX12_asks_28 mk_X12_takesFrom mi_X12_takesFrom ml_RX12_278 mp_X12_takesFrom rc_12 rm_X12_asks__X12_takesFrom (Nat.le_of_ble_eq_true rfl) rfl (cw_mono h ?_)
        clear h
        intro _ μ3 h
        show aw Γ M_X12_asks 31 [aR 12 0, aI x1, aX, aX, aX, aX, aX, aX] [] μ3 (rI Q)
        refine aw_iconst (v := (1 : Int32)) dX12_asks_31 rfl ?_
        exact aw_iret (ty := .boolean) dX12_asks_32 rfl (by decide) ⟨_, rfl, h⟩
      · replace h := h.2 c0
        refine aw_iconst (v := (0 : Int32)) dX12_asks_21 rfl ?_
        refine aw_goto (tgt := 28) dX12_asks_22 (by decide) ?_
        refine aw_callV (M' := M_X12_takesFrom) (K := 12) (i := 0) (vs := [aI (0 : Int32)]) (st := []) dX12_asks_28 mk_X12_takesFrom mi_X12_takesFrom ml_RX12_278 mp_X12_takesFrom rc_12 rm_X12_asks__X12_takesFrom (Nat.le_of_ble_eq_true rfl) rfl (cw_mono h ?_)
        clear h
        intro _ μ4 h
        show aw Γ M_X12_asks 31 [aR 12 0, aI x1, aX, aX, aX, aX, aX, aX] [] μ4 (rI Q)
        refine aw_iconst (v := (1 : Int32)) dX12_asks_31 rfl ?_
        exact aw_iret (ty := .boolean) dX12_asks_32 rfl (by decide) ⟨_, rfl, h⟩
  · replace h := h.2 c0
    refine aw_iconst (v := (0 : Int32)) dX12_asks_9 rfl ?_
    exact aw_iret (ty := .boolean) dX12_asks_10 rfl (by decide) ⟨_, rfl, h⟩
theorem u_X12_asks_37 {Γ : cx_T} {μ : mH} {x2 : Int32} {x3 : Int32} {Q : Int32 → mH → Prop} (h : ((24 : Int32) ≤ x3 → (cwi Γ M_X12_ones [aI x2] μ (fun r2 μ1 => (r2 ≤ (12 : Int32) → (aw Γ M_X12_asks 99 [aR 12 0, aX, aI x2, aI (-1 : Int32), aI (0 : Int32), aI (0 : Int32), aI (1 : Int32), aX] [] μ1 (rI Q))) ∧ (¬ r2 ≤ (12 : Int32) → (Q (0 : Int32) μ1))))) ∧ (¬ (24 : Int32) ≤ x3 → (vp_in x3 48 ∧ (vp_in ((24 : Int32) + x3) 48 ∧ (((μ 47 0 (tn x3)) = (μ 47 0 (tn ((24 : Int32) + x3))) → (aw Γ M_X12_asks 37 [aR 12 0, aX, aI (x2 ||| (0 : Int32)), aI (x3 + (1 : Int32)), aX, aX, aX, aX] [] μ (rI Q))) ∧ (¬ (μ 47 0 (tn x3)) = (μ 47 0 (tn ((24 : Int32) + x3))) → (aw Γ M_X12_asks 37 [aR 12 0, aX, aI (x2 ||| ((1 : Int32) <<< (x3 &&& 31))), aI (x3 + (1 : Int32)), aX, aX, aX, aX] [] μ (rI Q)))))))) : aw Γ M_X12_asks 37 [aR 12 0, aX, aI x2, aI x3, aX, aX, aX, aX] [] μ (rI Q) := by
  refine aw_iload_n dX12_asks_37 rfl ?_
  refine aw_bipush (v := (24 : Int32)) dX12_asks_38 rfl ?_
  refine aw_icmp_ge (tgt := 77) dX12_asks_40 (by decide) (fun c0 => ?_) (fun c0 => ?_)
  · replace h := h.1 c0
    refine aw_iload_n dX12_asks_77 rfl ?_
    refine aw_callS (M' := M_X12_ones) (vs := [aI x2]) (st := []) dX12_asks_78 mk_X12_ones ms_X12_ones ml_RX12_281 mp_X12_ones rm_X12_asks__X12_ones (Nat.le_of_ble_eq_true rfl) rfl (cw_mono h ?_)
    clear h
    rintro _ μ1 ⟨r2, rfl, h⟩
    show aw Γ M_X12_asks 81 [aR 12 0, aX, aI x2, aI x3, aX, aX, aX, aX] [aI r2] μ1 (rI Q)
    refine aw_bipush (v := (12 : Int32)) dX12_asks_81 rfl ?_
    refine aw_icmp_le (tgt := 88) dX12_asks_83 (by decide) (fun c0 => ?_) (fun c0 => ?_)
    · replace h := h.1 c0
      refine aw_iconst (v := (-1 : Int32)) dX12_asks_88 rfl ?_
      refine aw_istore_n (ls' := [aR 12 0, aX, aI x2, aI (-1 : Int32), aX, aX, aX, aX]) dX12_asks_89 (by decide) rfl rfl ?_
      refine aw_iconst (v := (0 : Int32)) dX12_asks_90 rfl ?_
      refine aw_istore (ls' := [aR 12 0, aX, aI x2, aI (-1 : Int32), aI (0 : Int32), aX, aX, aX]) dX12_asks_91 (by decide) rfl rfl ?_
      refine aw_iconst (v := (0 : Int32)) dX12_asks_93 rfl ?_
      refine aw_istore (ls' := [aR 12 0, aX, aI x2, aI (-1 : Int32), aI (0 : Int32), aI (0 : Int32), aX, aX]) dX12_asks_94 (by decide) rfl rfl ?_
      refine aw_iconst (v := (1 : Int32)) dX12_asks_96 rfl ?_
      refine aw_istore (ls' := [aR 12 0, aX, aI x2, aI (-1 : Int32), aI (0 : Int32), aI (0 : Int32), aI (1 : Int32), aX]) dX12_asks_97 (by decide) rfl rfl ?_
      exact h
    · replace h := h.2 c0
      refine aw_iconst (v := (0 : Int32)) dX12_asks_86 rfl ?_
      exact aw_iret (ty := .boolean) dX12_asks_87 rfl (by decide) ⟨_, rfl, h⟩
  · replace h := h.2 c0
    refine aw_iload_n dX12_asks_43 rfl ?_
    refine aw_aload_n dX12_asks_44 rfl ?_
    refine aw_get dX12_asks_45 rfl fk_RX12_32 (look_R rfl rfl : look _ 12 0 15 = aR 47 0) ?_
    refine aw_iload_n dX12_asks_48 rfl ?_
    refine aw_ia (j := tn x3) (y := μ 47 0 (tn x3)) dX12_asks_49 rfl (fun _ => rfl) h.1 rfl (rfl) ?_
    replace h := h.2
    refine aw_aload_n dX12_asks_50 rfl ?_
    refine aw_get dX12_asks_51 rfl fk_RX12_32 (look_R rfl rfl : look _ 12 0 15 = aR 47 0) ?_
    refine aw_bipush (v := (24 : Int32)) dX12_asks_54 rfl ?_
    refine aw_iload_n dX12_asks_56 rfl ?_
    refine aw_iadd dX12_asks_57 ?_
    refine aw_ia (j := tn ((24 : Int32) + x3)) (y := μ 47 0 (tn ((24 : Int32) + x3))) dX12_asks_58 rfl (fun _ => rfl) h.1 rfl (rfl) ?_
    replace h := h.2
    refine aw_icmp_eq (tgt := 68) dX12_asks_59 (by decide) (fun c0 => ?_) (fun c0 => ?_)
    · replace h := h.1 c0
      refine aw_iconst (v := (0 : Int32)) dX12_asks_68 rfl ?_
      refine aw_ior dX12_asks_69 ?_
      refine aw_istore_n (ls' := [aR 12 0, aX, aI (x2 ||| (0 : Int32)), aI x3, aX, aX, aX, aX]) dX12_asks_70 (by decide) rfl rfl ?_
      refine aw_iinc (v := x3 + (1 : Int32)) (ls' := [aR 12 0, aX, aI (x2 ||| (0 : Int32)), aI (x3 + (1 : Int32)), aX, aX, aX, aX]) dX12_asks_71 rfl rfl (by decide) rfl rfl ?_
      refine aw_goto (tgt := 37) dX12_asks_74 (by decide) ?_
      exact h
    · replace h := h.2 c0
      refine aw_iconst (v := (1 : Int32)) dX12_asks_62 rfl ?_
      refine aw_iload_n dX12_asks_63 rfl ?_
      refine aw_ishl dX12_asks_64 ?_
      refine aw_goto (tgt := 69) dX12_asks_65 (by decide) ?_
      refine aw_ior dX12_asks_69 ?_
      refine aw_istore_n (ls' := [aR 12 0, aX, aI (x2 ||| ((1 : Int32) <<< (x3 &&& 31))), aI x3, aX, aX, aX, aX]) dX12_asks_70 (by decide) rfl rfl ?_
      refine aw_iinc (v := x3 + (1 : Int32)) (ls' := [aR 12 0, aX, aI (x2 ||| ((1 : Int32) <<< (x3 &&& 31))), aI (x3 + (1 : Int32)), aX, aX, aX, aX]) dX12_asks_71 rfl rfl (by decide) rfl rfl ?_
      refine aw_goto (tgt := 37) dX12_asks_74 (by decide) ?_
      exact h
theorem u_X12_asks_99 {Γ : cx_T} {μ : mH} {x2 : Int32} {x3 : Int32} {x4 : Int32} {x5 : Int32} {x6 : Int32} {Q : Int32 → mH → Prop} (h : (x6 = 0 → (cwv Γ M_X12_takesFrom [aR 12 0, aI x3] μ (fun μ1 => Q (1 : Int32) μ1))) ∧ (¬ x6 = 0 → (cwv Γ M_X12_takesFrom [aR 12 0, aI x5] μ (fun μ2 => cwi Γ M_X12_mishapsNow [aR 12 0] μ2 (fun r4 μ3 => (x3 = (-1 : Int32) → (aw Γ M_X12_asks 154 [aR 12 0, aX, aI x2, aI x5, aI r4, aI x5, aX, aX] [] μ3 (rI Q))) ∧ (¬ x3 = (-1 : Int32) → ((r4 < x4 → (aw Γ M_X12_asks 154 [aR 12 0, aX, aI x2, aI x5, aI r4, aI x5, aX, aX] [] μ3 (rI Q))) ∧ (¬ r4 < x4 → ((¬ r4 = x4 → (aw Γ M_X12_asks 154 [aR 12 0, aX, aI x2, aI x3, aI x4, aI x5, aX, aX] [] μ3 (rI Q))) ∧ (r4 = x4 → (cwi Γ M_X12_ones [aI x5] μ3 (fun r6 μ5 => cwi Γ M_X12_ones [aI x3] μ5 (fun r8 μ7 => (r8 ≤ r6 → (aw Γ M_X12_asks 154 [aR 12 0, aX, aI x2, aI x3, aI x4, aI x5, aX, aX] [] μ7 (rI Q))) ∧ (¬ r8 ≤ r6 → (aw Γ M_X12_asks 154 [aR 12 0, aX, aI x2, aI x5, aI r4, aI x5, aX, aX] [] μ7 (rI Q)))))))))))))))) : aw Γ M_X12_asks 99 [aR 12 0, aX, aI x2, aI x3, aI x4, aI x5, aI x6, aX] [] μ (rI Q) := by
  refine aw_iload dX12_asks_99 rfl ?_
  refine aw_if_eq (tgt := 181) dX12_asks_101 (by decide) (fun c0 => ?_) (fun c0 => ?_)
  · replace h := h.1 c0
    refine aw_aload_n dX12_asks_181 rfl ?_
    refine aw_iload_n dX12_asks_182 rfl ?_
    refine aw_callV (M' := M_X12_takesFrom) (K := 12) (i := 0) (vs := [aI x3]) (st := []) dX12_asks_183 mk_X12_takesFrom mi_X12_takesFrom ml_RX12_278 mp_X12_takesFrom rc_12 rm_X12_asks__X12_takesFrom (Nat.le_of_ble_eq_true rfl) rfl (cw_mono h ?_)
    clear h
    intro _ μ1 h
    show aw Γ M_X12_asks 186 [aR 12 0, aX, aI x2, aI x3, aI x4, aI x5, aI x6, aX] [] μ1 (rI Q)
    refine aw_iconst (v := (1 : Int32)) dX12_asks_186 rfl ?_
    exact aw_iret (ty := .boolean) dX12_asks_187 rfl (by decide) ⟨_, rfl, h⟩
  · replace h := h.2 c0
    refine aw_aload_n dX12_asks_104 rfl ?_
    refine aw_iload dX12_asks_105 rfl ?_
    refine aw_callV (M' := M_X12_takesFrom) (K := 12) (i := 0) (vs := [aI x5]) (st := []) dX12_asks_107 mk_X12_takesFrom mi_X12_takesFrom ml_RX12_278 mp_X12_takesFrom rc_12 rm_X12_asks__X12_takesFrom (Nat.le_of_ble_eq_true rfl) rfl (cw_mono h ?_)
    clear h
    intro _ μ2 h
    show aw Γ M_X12_asks 110 [aR 12 0, aX, aI x2, aI x3, aI x4, aI x5, aI x6, aX] [] μ2 (rI Q)
    refine aw_aload_n dX12_asks_110 rfl ?_
    refine aw_callV (M' := M_X12_mishapsNow) (K := 12) (i := 0) (vs := []) (st := []) dX12_asks_111 mk_X12_mishapsNow mi_X12_mishapsNow ml_RX12_284 mp_X12_mishapsNow rc_12 rm_X12_asks__X12_mishapsNow (Nat.le_of_ble_eq_true rfl) rfl (cw_mono h ?_)
    clear h
    rintro _ μ3 ⟨r4, rfl, h⟩
    show aw Γ M_X12_asks 114 [aR 12 0, aX, aI x2, aI x3, aI x4, aI x5, aI x6, aX] [aI r4] μ3 (rI Q)
    refine aw_istore (ls' := [aR 12 0, aX, aI x2, aI x3, aI x4, aI x5, aI x6, aI r4]) dX12_asks_114 (by decide) rfl rfl ?_
    refine aw_iload_n dX12_asks_116 rfl ?_
    refine aw_iconst (v := (-1 : Int32)) dX12_asks_117 rfl ?_
    refine aw_icmp_eq (tgt := 147) dX12_asks_118 (by decide) (fun c0 => ?_) (fun c0 => ?_)
    · replace h := h.1 c0
      refine aw_iload dX12_asks_147 rfl ?_
      refine aw_istore_n (ls' := [aR 12 0, aX, aI x2, aI x5, aI x4, aI x5, aI x6, aI r4]) dX12_asks_149 (by decide) rfl rfl ?_
      refine aw_iload dX12_asks_150 rfl ?_
      refine aw_istore (ls' := [aR 12 0, aX, aI x2, aI x5, aI r4, aI x5, aI x6, aI r4]) dX12_asks_152 (by decide) rfl rfl ?_
      exact aw_wkk h (wk_e (wk_e (wk_e (wk_e (wk_e (wk_e (wk_x (wk_x wk_n))))))))
    · replace h := h.2 c0
      refine aw_iload dX12_asks_121 rfl ?_
      refine aw_iload dX12_asks_123 rfl ?_
      refine aw_icmp_lt (tgt := 147) dX12_asks_125 (by decide) (fun c0 => ?_) (fun c0 => ?_)
      · replace h := h.1 c0
        refine aw_iload dX12_asks_147 rfl ?_
        refine aw_istore_n (ls' := [aR 12 0, aX, aI x2, aI x5, aI x4, aI x5, aI x6, aI r4]) dX12_asks_149 (by decide) rfl rfl ?_
        refine aw_iload dX12_asks_150 rfl ?_
        refine aw_istore (ls' := [aR 12 0, aX, aI x2, aI x5, aI r4, aI x5, aI x6, aI r4]) dX12_asks_152 (by decide) rfl rfl ?_
        exact aw_wkk h (wk_e (wk_e (wk_e (wk_e (wk_e (wk_e (wk_x (wk_x wk_n))))))))
      · replace h := h.2 c0
        refine aw_iload dX12_asks_128 rfl ?_
        refine aw_iload dX12_asks_130 rfl ?_
        refine aw_icmp_ne (tgt := 154) dX12_asks_132 (by decide) (fun c0 => ?_) (fun c0 => ?_)
        · replace h := h.1 c0
          exact aw_wkk h (wk_e (wk_e (wk_e (wk_e (wk_e (wk_e (wk_x (wk_x wk_n))))))))
        · replace h := h.2 c0
          refine aw_iload dX12_asks_135 rfl ?_
          refine aw_callS (M' := M_X12_ones) (vs := [aI x5]) (st := []) dX12_asks_137 mk_X12_ones ms_X12_ones ml_RX12_281 mp_X12_ones rm_X12_asks__X12_ones (Nat.le_of_ble_eq_true rfl) rfl (cw_mono h ?_)
          clear h
          rintro _ μ5 ⟨r6, rfl, h⟩
          show aw Γ M_X12_asks 140 [aR 12 0, aX, aI x2, aI x3, aI x4, aI x5, aI x6, aI r4] [aI r6] μ5 (rI Q)
          refine aw_iload_n dX12_asks_140 rfl ?_
          refine aw_callS (M' := M_X12_ones) (vs := [aI x3]) (st := [aI r6]) dX12_asks_141 mk_X12_ones ms_X12_ones ml_RX12_281 mp_X12_ones rm_X12_asks__X12_ones (Nat.le_of_ble_eq_true rfl) rfl (cw_mono h ?_)
          clear h
          rintro _ μ7 ⟨r8, rfl, h⟩
          show aw Γ M_X12_asks 144 [aR 12 0, aX, aI x2, aI x3, aI x4, aI x5, aI x6, aI r4] [aI r8, aI r6] μ7 (rI Q)
          refine aw_icmp_ge (tgt := 154) dX12_asks_144 (by decide) (fun c0 => ?_) (fun c0 => ?_)
          · replace h := h.1 c0
            exact aw_wkk h (wk_e (wk_e (wk_e (wk_e (wk_e (wk_e (wk_x (wk_x wk_n))))))))
          · replace h := h.2 c0
            refine aw_iload dX12_asks_147 rfl ?_
            refine aw_istore_n (ls' := [aR 12 0, aX, aI x2, aI x5, aI x4, aI x5, aI x6, aI r4]) dX12_asks_149 (by decide) rfl rfl ?_
            refine aw_iload dX12_asks_150 rfl ?_
            refine aw_istore (ls' := [aR 12 0, aX, aI x2, aI x5, aI r4, aI x5, aI x6, aI r4]) dX12_asks_152 (by decide) rfl rfl ?_
            exact aw_wkk h (wk_e (wk_e (wk_e (wk_e (wk_e (wk_e (wk_x (wk_x wk_n))))))))
theorem u_X12_asks_154 {Γ : cx_T} {μ : mH} {x2 : Int32} {x3 : Int32} {x4 : Int32} {x5 : Int32} {Q : Int32 → mH → Prop} (h : ((((x5 ||| (x2 ^^^ (-1 : Int32))) + (1 : Int32)) &&& x2) = 0 → (aw Γ M_X12_asks 99 [aR 12 0, aX, aI x2, aI x3, aI x4, aI (((x5 ||| (x2 ^^^ (-1 : Int32))) + (1 : Int32)) &&& x2), aI (0 : Int32), aX] [] μ (rI Q))) ∧ (¬ (((x5 ||| (x2 ^^^ (-1 : Int32))) + (1 : Int32)) &&& x2) = 0 → (aw Γ M_X12_asks 99 [aR 12 0, aX, aI x2, aI x3, aI x4, aI (((x5 ||| (x2 ^^^ (-1 : Int32))) + (1 : Int32)) &&& x2), aI (1 : Int32), aX] [] μ (rI Q)))) : aw Γ M_X12_asks 154 [aR 12 0, aX, aI x2, aI x3, aI x4, aI x5, aX, aX] [] μ (rI Q) := by
  refine aw_iload dX12_asks_154 rfl ?_
  refine aw_iload_n dX12_asks_156 rfl ?_
  refine aw_iconst (v := (-1 : Int32)) dX12_asks_157 rfl ?_
  refine aw_ixor dX12_asks_158 ?_
  refine aw_ior dX12_asks_159 ?_
  refine aw_iconst (v := (1 : Int32)) dX12_asks_160 rfl ?_
  refine aw_iadd dX12_asks_161 ?_
  refine aw_iload_n dX12_asks_162 rfl ?_
  refine aw_iand dX12_asks_163 ?_
  refine aw_istore (ls' := [aR 12 0, aX, aI x2, aI x3, aI x4, aI (((x5 ||| (x2 ^^^ (-1 : Int32))) + (1 : Int32)) &&& x2), aX, aX]) dX12_asks_164 (by decide) rfl rfl ?_
  refine aw_iload dX12_asks_166 rfl ?_
  refine aw_if_eq (tgt := 175) dX12_asks_168 (by decide) (fun c0 => ?_) (fun c0 => ?_)
  · replace h := h.1 c0
    refine aw_iconst (v := (0 : Int32)) dX12_asks_175 rfl ?_
    refine aw_istore (ls' := [aR 12 0, aX, aI x2, aI x3, aI x4, aI (((x5 ||| (x2 ^^^ (-1 : Int32))) + (1 : Int32)) &&& x2), aI (0 : Int32), aX]) dX12_asks_176 (by decide) rfl rfl ?_
    refine aw_goto (tgt := 99) dX12_asks_178 (by decide) ?_
    exact h
  · replace h := h.2 c0
    refine aw_iconst (v := (1 : Int32)) dX12_asks_171 rfl ?_
    refine aw_goto (tgt := 176) dX12_asks_172 (by decide) ?_
    refine aw_istore (ls' := [aR 12 0, aX, aI x2, aI x3, aI x4, aI (((x5 ||| (x2 ^^^ (-1 : Int32))) + (1 : Int32)) &&& x2), aI (1 : Int32), aX]) dX12_asks_176 (by decide) rfl rfl ?_
    refine aw_goto (tgt := 99) dX12_asks_178 (by decide) ?_
    exact h
theorem u_X12_mishaps {Γ : cx_T} {μ : mH} {x1 : Int32} {Q : Int32 → mH → Prop} (h : cwi Γ M_X12_asks [aR 12 0, aI x1] μ (fun r2 μ1 => (r2 = 0 → (Q (-1 : Int32) μ1)) ∧ (¬ r2 = 0 → (cwi Γ M_X12_mishapsNow [aR 12 0] μ1 (fun r4 μ3 => Q r4 μ3))))) : cwi Γ M_X12_mishaps [aR 12 0, aI x1] μ Q := by
  refine cw_ofU (ls := [aR 12 0, aI x1]) (Or.inl (by decide)) rfl (Nat.le_of_ble_eq_true rfl) rfl ?_
  refine aw_aload_n dX12_mishaps_0 rfl ?_
  refine aw_iload_n dX12_mishaps_1 rfl ?_
  refine aw_callV (M' := M_X12_asks) (K := 12) (i := 0) (vs := [aI x1]) (st := []) dX12_mishaps_2 mk_X12_asks mi_X12_asks ml_RX12_287 mp_X12_asks rc_12 rm_X12_mishaps__X12_asks (Nat.le_of_ble_eq_true rfl) rfl (cw_mono h ?_)
  clear h
  rintro _ μ1 ⟨r2, rfl, h⟩
  show aw Γ M_X12_mishaps 5 [aR 12 0, aI x1] [aI r2] μ1 (rI Q)
  refine aw_if_eq (tgt := 15) dX12_mishaps_5 (by decide) (fun c0 => ?_) (fun c0 => ?_)
  · replace h := h.1 c0
    refine aw_iconst (v := (-1 : Int32)) dX12_mishaps_15 rfl ?_
    exact aw_iret dX12_mishaps_16 rfl rfl ⟨_, rfl, h⟩
  · replace h := h.2 c0
    refine aw_aload_n dX12_mishaps_8 rfl ?_
    refine aw_callV (M' := M_X12_mishapsNow) (K := 12) (i := 0) (vs := []) (st := []) dX12_mishaps_9 mk_X12_mishapsNow mi_X12_mishapsNow ml_RX12_284 mp_X12_mishapsNow rc_12 rm_X12_mishaps__X12_mishapsNow (Nat.le_of_ble_eq_true rfl) rfl (cw_mono h ?_)
    clear h
    rintro _ μ3 ⟨r4, rfl, h⟩
    show aw Γ M_X12_mishaps 12 [aR 12 0, aI x1] [aI r4] μ3 (rI Q)
    refine aw_goto (tgt := 16) dX12_mishaps_12 (by decide) ?_
    exact aw_iret dX12_mishaps_16 rfl rfl ⟨_, rfl, h⟩
theorem u_X12_next {Γ : cx_T} {μ : mH} {x1 : Int32} {x2 : Int32} {Q : Int32 → mH → Prop} (h : cwi Γ M_X12_isCluster [aI x2] μ (fun r2 μ1 => (r2 = 0 → (Q (-1 : Int32) μ1)) ∧ (¬ r2 = 0 → (cwi Γ M_X12_asks [aR 12 0, aI x1] μ1 (fun r4 μ3 => (r4 = 0 → (Q (-1 : Int32) μ3)) ∧ (¬ r4 = 0 → (vp_in x2 24 ∧ (Q (μ3 60 0 (tn x2)) μ3)))))))) : cwi Γ M_X12_next [aR 12 0, aI x1, aI x2] μ Q := by
  refine cw_ofU (ls := [aR 12 0, aI x1, aI x2]) (Or.inl (by decide)) rfl (Nat.le_of_ble_eq_true rfl) rfl ?_
  refine aw_iload_n dX12_next_0 rfl ?_
  refine aw_callS (M' := M_X12_isCluster) (vs := [aI x2]) (st := []) dX12_next_1 mk_X12_isCluster ms_X12_isCluster ml_RX12_265 mp_X12_isCluster rm_X12_next__X12_isCluster (Nat.le_of_ble_eq_true rfl) rfl (cw_mono h ?_)
  clear h
  rintro _ μ1 ⟨r2, rfl, h⟩
  show aw Γ M_X12_next 4 [aR 12 0, aI x1, aI x2] [aI r2] μ1 (rI Q)
  refine aw_if_eq (tgt := 24) dX12_next_4 (by decide) (fun c0 => ?_) (fun c0 => ?_)
  · replace h := h.1 c0
    refine aw_iconst (v := (-1 : Int32)) dX12_next_24 rfl ?_
    exact aw_iret dX12_next_25 rfl rfl ⟨_, rfl, h⟩
  · replace h := h.2 c0
    refine aw_aload_n dX12_next_7 rfl ?_
    refine aw_iload_n dX12_next_8 rfl ?_
    refine aw_callV (M' := M_X12_asks) (K := 12) (i := 0) (vs := [aI x1]) (st := []) dX12_next_9 mk_X12_asks mi_X12_asks ml_RX12_287 mp_X12_asks rc_12 rm_X12_next__X12_asks (Nat.le_of_ble_eq_true rfl) rfl (cw_mono h ?_)
    clear h
    rintro _ μ3 ⟨r4, rfl, h⟩
    show aw Γ M_X12_next 12 [aR 12 0, aI x1, aI x2] [aI r4] μ3 (rI Q)
    refine aw_if_eq (tgt := 24) dX12_next_12 (by decide) (fun c0 => ?_) (fun c0 => ?_)
    · replace h := h.1 c0
      refine aw_iconst (v := (-1 : Int32)) dX12_next_24 rfl ?_
      exact aw_iret dX12_next_25 rfl rfl ⟨_, rfl, h⟩
    · replace h := h.2 c0
      refine aw_aload_n dX12_next_15 rfl ?_
      refine aw_get dX12_next_16 rfl fk_RX12_72 (look_R rfl rfl : look _ 12 0 32 = aR 60 0) ?_
      refine aw_iload_n dX12_next_19 rfl ?_
      refine aw_ia (j := tn x2) (y := μ3 60 0 (tn x2)) dX12_next_20 rfl (fun _ => rfl) h.1 rfl (rfl) ?_
      replace h := h.2
      refine aw_goto (tgt := 25) dX12_next_21 (by decide) ?_
      exact aw_iret dX12_next_25 rfl rfl ⟨_, rfl, h⟩
theorem u_X12_chain {Γ : cx_T} {μ : mH} {x1 : Int32} {x2 : Int32} {x3 : Int32} {Q : Int32 → mH → Prop} (h : cwi Γ M_X12_in [aI x2, aI (0 : Int32), aI ((μ 12 0 16) - (1 : Int32))] μ (fun r2 μ1 => (r2 = 0 → (Q (-1 : Int32) μ1)) ∧ (¬ r2 = 0 → (cwi Γ M_X12_asks [aR 12 0, aI x1] μ1 (fun r4 μ3 => (¬ r4 = 0 → (cwv Γ M_X12_chains [aR 12 0, aI x2] μ3 (fun μ5 => (¬ x3 = (-1 : Int32) → (cwi Γ M_X12_in [aI x3, aI (0 : Int32), aI ((μ5 12 0 34) - (1 : Int32))] μ5 (fun r7 μ6 => (r7 = 0 → (Q (-1 : Int32) μ6)) ∧ (¬ r7 = 0 → (vp_in x3 24 ∧ (Q (μ6 61 0 (tn x3)) μ6)))))) ∧ (x3 = (-1 : Int32) → (Q (μ5 12 0 34) μ5))))) ∧ (r4 = 0 → (Q (-1 : Int32) μ3))))))) : cwi Γ M_X12_chain [aR 12 0, aI x1, aI x2, aI x3] μ Q := by
  refine cw_ofU (ls := [aR 12 0, aI x1, aI x2, aI x3]) (Or.inl (by decide)) rfl (Nat.le_of_ble_eq_true rfl) rfl ?_
  refine aw_iload_n dX12_chain_0 rfl ?_
  refine aw_iconst (v := (0 : Int32)) dX12_chain_1 rfl ?_
  refine aw_aload_n dX12_chain_2 rfl ?_
  refine aw_get dX12_chain_3 rfl fk_RX12_268 (look_I rfl : look μ 12 0 16 = aI (μ 12 0 16)) ?_
  refine aw_iconst (v := (1 : Int32)) dX12_chain_6 rfl ?_
  refine aw_isub dX12_chain_7 ?_
  refine aw_callS (M' := M_X12_in) (vs := [aI x2, aI (0 : Int32), aI ((μ 12 0 16) - (1 : Int32))]) (st := []) dX12_chain_8 mk_X12_in ms_X12_in ml_RX12_85 mp_X12_in rm_X12_chain__X12_in (Nat.le_of_ble_eq_true rfl) rfl (cw_mono h ?_)
  clear h
  rintro _ μ1 ⟨r2, rfl, h⟩
  show aw Γ M_X12_chain 11 [aR 12 0, aI x1, aI x2, aI x3] [aI r2] μ1 (rI Q)
  refine aw_if_eq (tgt := 22) dX12_chain_11 (by decide) (fun c0 => ?_) (fun c0 => ?_)
  · replace h := h.1 c0
    refine aw_iconst (v := (-1 : Int32)) dX12_chain_22 rfl ?_
    exact aw_iret dX12_chain_23 rfl rfl ⟨_, rfl, h⟩
  · replace h := h.2 c0
    refine aw_aload_n dX12_chain_14 rfl ?_
    refine aw_iload_n dX12_chain_15 rfl ?_
    refine aw_callV (M' := M_X12_asks) (K := 12) (i := 0) (vs := [aI x1]) (st := []) dX12_chain_16 mk_X12_asks mi_X12_asks ml_RX12_287 mp_X12_asks rc_12 rm_X12_chain__X12_asks (Nat.le_of_ble_eq_true rfl) rfl (cw_mono h ?_)
    clear h
    rintro _ μ3 ⟨r4, rfl, h⟩
    show aw Γ M_X12_chain 19 [aR 12 0, aI x1, aI x2, aI x3] [aI r4] μ3 (rI Q)
    refine aw_if_ne (tgt := 24) dX12_chain_19 (by decide) (fun c0 => ?_) (fun c0 => ?_)
    · replace h := h.1 c0
      refine aw_aload_n dX12_chain_24 rfl ?_
      refine aw_iload_n dX12_chain_25 rfl ?_
      refine aw_callV (M' := M_X12_chains) (K := 12) (i := 0) (vs := [aI x2]) (st := []) dX12_chain_26 mk_X12_chains mi_X12_chains ml_RX12_274 mp_X12_chains rc_12 rm_X12_chain__X12_chains (Nat.le_of_ble_eq_true rfl) rfl (cw_mono h ?_)
      clear h
      intro _ μ5 h
      show aw Γ M_X12_chain 29 [aR 12 0, aI x1, aI x2, aI x3] [] μ5 (rI Q)
      refine aw_iload_n dX12_chain_29 rfl ?_
      refine aw_iconst (v := (-1 : Int32)) dX12_chain_30 rfl ?_
      refine aw_icmp_ne (tgt := 41) dX12_chain_31 (by decide) (fun c0 => ?_) (fun c0 => ?_)
      · replace h := h.1 c0
        refine aw_iload_n dX12_chain_41 rfl ?_
        refine aw_iconst (v := (0 : Int32)) dX12_chain_42 rfl ?_
        refine aw_aload_n dX12_chain_43 rfl ?_
        refine aw_get dX12_chain_44 rfl fk_RX12_271 (look_I rfl : look μ5 12 0 34 = aI (μ5 12 0 34)) ?_
        refine aw_iconst (v := (1 : Int32)) dX12_chain_47 rfl ?_
        refine aw_isub dX12_chain_48 ?_
        refine aw_callS (M' := M_X12_in) (vs := [aI x3, aI (0 : Int32), aI ((μ5 12 0 34) - (1 : Int32))]) (st := []) dX12_chain_49 mk_X12_in ms_X12_in ml_RX12_85 mp_X12_in rm_X12_chain__X12_in (Nat.le_of_ble_eq_true rfl) rfl (cw_mono h ?_)
        clear h
        rintro _ μ6 ⟨r7, rfl, h⟩
        show aw Γ M_X12_chain 52 [aR 12 0, aI x1, aI x2, aI x3] [aI r7] μ6 (rI Q)
        refine aw_if_eq (tgt := 64) dX12_chain_52 (by decide) (fun c0 => ?_) (fun c0 => ?_)
        · replace h := h.1 c0
          refine aw_iconst (v := (-1 : Int32)) dX12_chain_64 rfl ?_
          exact aw_iret dX12_chain_65 rfl rfl ⟨_, rfl, h⟩
        · replace h := h.2 c0
          refine aw_aload_n dX12_chain_55 rfl ?_
          refine aw_get dX12_chain_56 rfl fk_RX12_75 (look_R rfl rfl : look _ 12 0 33 = aR 61 0) ?_
          refine aw_iload_n dX12_chain_59 rfl ?_
          refine aw_ia (j := tn x3) (y := μ6 61 0 (tn x3)) dX12_chain_60 rfl (fun _ => rfl) h.1 rfl (rfl) ?_
          replace h := h.2
          refine aw_goto (tgt := 65) dX12_chain_61 (by decide) ?_
          exact aw_iret dX12_chain_65 rfl rfl ⟨_, rfl, h⟩
      · replace h := h.2 c0
        refine aw_aload_n dX12_chain_34 rfl ?_
        refine aw_get dX12_chain_35 rfl fk_RX12_271 (look_I rfl : look μ5 12 0 34 = aI (μ5 12 0 34)) ?_
        refine aw_goto (tgt := 65) dX12_chain_38 (by decide) ?_
        exact aw_iret dX12_chain_65 rfl rfl ⟨_, rfl, h⟩
    · replace h := h.2 c0
      refine aw_iconst (v := (-1 : Int32)) dX12_chain_22 rfl ?_
      exact aw_iret dX12_chain_23 rfl rfl ⟨_, rfl, h⟩
theorem u_X12_gaps {Γ : cx_T} {μ : mH} {x1 : Int32} {Q : Int32 → mH → Prop} (h : cwi Γ M_X12_in [aI x1, aI (0 : Int32), aI ((μ 12 0 16) - (1 : Int32))] μ (fun r2 μ1 => (r2 = 0 → (Q (-1 : Int32) μ1)) ∧ (¬ r2 = 0 → (((μ1 12 0 8) = 0 → (Q (-1 : Int32) μ1)) ∧ (¬ (μ1 12 0 8) = 0 → (cwi Γ M_X12_asks [aR 12 0, aI (2 : Int32)] μ1 (fun r4 μ3 => (¬ r4 = 0 → (cwv Γ M_X12_chains [aR 12 0, aI x1] μ3 (fun μ5 => aw Γ M_X12_gaps 40 [aR 12 0, aX, aI (0 : Int32), aI (0 : Int32)] [] μ5 (rI Q)))) ∧ (r4 = 0 → (Q (-1 : Int32) μ3))))))))) : cwi Γ M_X12_gaps [aR 12 0, aI x1] μ Q := by
  refine cw_ofU (ls := [aR 12 0, aI x1, aX, aX]) (Or.inl (by decide)) rfl (Nat.le_of_ble_eq_true rfl) rfl ?_
  refine aw_iload_n dX12_gaps_0 rfl ?_
  refine aw_iconst (v := (0 : Int32)) dX12_gaps_1 rfl ?_
  refine aw_aload_n dX12_gaps_2 rfl ?_
  refine aw_get dX12_gaps_3 rfl fk_RX12_268 (look_I rfl : look μ 12 0 16 = aI (μ 12 0 16)) ?_
  refine aw_iconst (v := (1 : Int32)) dX12_gaps_6 rfl ?_
  refine aw_isub dX12_gaps_7 ?_
  refine aw_callS (M' := M_X12_in) (vs := [aI x1, aI (0 : Int32), aI ((μ 12 0 16) - (1 : Int32))]) (st := []) dX12_gaps_8 mk_X12_in ms_X12_in ml_RX12_85 mp_X12_in rm_X12_gaps__X12_in (Nat.le_of_ble_eq_true rfl) rfl (cw_mono h ?_)
  clear h
  rintro _ μ1 ⟨r2, rfl, h⟩
  show aw Γ M_X12_gaps 11 [aR 12 0, aI x1, aX, aX] [aI r2] μ1 (rI Q)
  refine aw_if_eq (tgt := 29) dX12_gaps_11 (by decide) (fun c0 => ?_) (fun c0 => ?_)
  · replace h := h.1 c0
    refine aw_iconst (v := (-1 : Int32)) dX12_gaps_29 rfl ?_
    exact aw_iret dX12_gaps_30 rfl rfl ⟨_, rfl, h⟩
  · replace h := h.2 c0
    refine aw_aload_n dX12_gaps_14 rfl ?_
    refine aw_get dX12_gaps_15 rfl fk_RX12_171 (look_I rfl : look μ1 12 0 8 = aI (μ1 12 0 8)) ?_
    refine aw_if_eq (tgt := 29) dX12_gaps_18 (by decide) (fun c0 => ?_) (fun c0 => ?_)
    · replace h := h.1 c0
      refine aw_iconst (v := (-1 : Int32)) dX12_gaps_29 rfl ?_
      exact aw_iret dX12_gaps_30 rfl rfl ⟨_, rfl, h⟩
    · replace h := h.2 c0
      refine aw_aload_n dX12_gaps_21 rfl ?_
      refine aw_iconst (v := (2 : Int32)) dX12_gaps_22 rfl ?_
      refine aw_callV (M' := M_X12_asks) (K := 12) (i := 0) (vs := [aI (2 : Int32)]) (st := []) dX12_gaps_23 mk_X12_asks mi_X12_asks ml_RX12_287 mp_X12_asks rc_12 rm_X12_gaps__X12_asks (Nat.le_of_ble_eq_true rfl) rfl (cw_mono h ?_)
      clear h
      rintro _ μ3 ⟨r4, rfl, h⟩
      show aw Γ M_X12_gaps 26 [aR 12 0, aI x1, aX, aX] [aI r4] μ3 (rI Q)
      refine aw_if_ne (tgt := 31) dX12_gaps_26 (by decide) (fun c0 => ?_) (fun c0 => ?_)
      · replace h := h.1 c0
        refine aw_aload_n dX12_gaps_31 rfl ?_
        refine aw_iload_n dX12_gaps_32 rfl ?_
        refine aw_callV (M' := M_X12_chains) (K := 12) (i := 0) (vs := [aI x1]) (st := []) dX12_gaps_33 mk_X12_chains mi_X12_chains ml_RX12_274 mp_X12_chains rc_12 rm_X12_gaps__X12_chains (Nat.le_of_ble_eq_true rfl) rfl (cw_mono h ?_)
        clear h
        intro _ μ5 h
        show aw Γ M_X12_gaps 36 [aR 12 0, aI x1, aX, aX] [] μ5 (rI Q)
        refine aw_iconst (v := (0 : Int32)) dX12_gaps_36 rfl ?_
        refine aw_istore_n (ls' := [aR 12 0, aI x1, aI (0 : Int32), aX]) dX12_gaps_37 (by decide) rfl rfl ?_
        refine aw_iconst (v := (0 : Int32)) dX12_gaps_38 rfl ?_
        refine aw_istore_n (ls' := [aR 12 0, aI x1, aI (0 : Int32), aI (0 : Int32)]) dX12_gaps_39 (by decide) rfl rfl ?_
        exact aw_wkk h (wk_e (wk_x (wk_e (wk_e wk_n))))
      · replace h := h.2 c0
        refine aw_iconst (v := (-1 : Int32)) dX12_gaps_29 rfl ?_
        exact aw_iret dX12_gaps_30 rfl rfl ⟨_, rfl, h⟩
theorem u_X12_gaps_40 {Γ : cx_T} {μ : mH} {x2 : Int32} {x3 : Int32} {Q : Int32 → mH → Prop} (h : ((μ 12 0 34) ≤ x3 → (Q x2 μ)) ∧ (¬ (μ 12 0 34) ≤ x3 → (vp_in x3 24 ∧ (vp_in x3 24 ∧ (cwi Γ M_X12_statusOf [aR 12 0, aI ((μ 61 0 (tn x3)) / (4 : Int32)), aI ((μ 61 0 (tn x3)) - (μ 61 0 (tn x3)) / (4 : Int32) * (4 : Int32))] μ (fun r2 μ1 => cwi Γ M_X12_isWhole [aI r2] μ1 (fun r4 μ3 => (r4 = 0 → (aw Γ M_X12_gaps 40 [aR 12 0, aX, aI (x2 + (1 : Int32)), aI (x3 + (1 : Int32))] [] μ3 (rI Q))) ∧ (¬ r4 = 0 → (aw Γ M_X12_gaps 40 [aR 12 0, aX, aI (x2 + (0 : Int32)), aI (x3 + (1 : Int32))] [] μ3 (rI Q)))))))))) : aw Γ M_X12_gaps 40 [aR 12 0, aX, aI x2, aI x3] [] μ (rI Q) := by
  refine aw_iload_n dX12_gaps_40 rfl ?_
  refine aw_aload_n dX12_gaps_41 rfl ?_
  refine aw_get dX12_gaps_42 rfl fk_RX12_271 (look_I rfl : look μ 12 0 34 = aI (μ 12 0 34)) ?_
  refine aw_icmp_ge (tgt := 88) dX12_gaps_45 (by decide) (fun c0 => ?_) (fun c0 => ?_)
  · replace h := h.1 c0
    refine aw_iload_n dX12_gaps_88 rfl ?_
    exact aw_iret dX12_gaps_89 rfl rfl ⟨_, rfl, h⟩
  · replace h := h.2 c0
    refine aw_iload_n dX12_gaps_48 rfl ?_
    refine aw_aload_n dX12_gaps_49 rfl ?_
    refine aw_aload_n dX12_gaps_50 rfl ?_
    refine aw_get dX12_gaps_51 rfl fk_RX12_75 (look_R rfl rfl : look _ 12 0 33 = aR 61 0) ?_
    refine aw_iload_n dX12_gaps_54 rfl ?_
    refine aw_ia (j := tn x3) (y := μ 61 0 (tn x3)) dX12_gaps_55 rfl (fun _ => rfl) h.1 rfl (rfl) ?_
    replace h := h.2
    refine aw_iconst (v := (4 : Int32)) dX12_gaps_56 rfl ?_
    refine aw_idiv dX12_gaps_57 (by decide) ?_
    refine aw_aload_n dX12_gaps_58 rfl ?_
    refine aw_get dX12_gaps_59 rfl fk_RX12_75 (look_R rfl rfl : look _ 12 0 33 = aR 61 0) ?_
    refine aw_iload_n dX12_gaps_62 rfl ?_
    refine aw_ia (j := tn x3) (y := μ 61 0 (tn x3)) dX12_gaps_63 rfl (fun _ => rfl) h.1 rfl (rfl) ?_
    replace h := h.2
    refine aw_iconst (v := (4 : Int32)) dX12_gaps_64 rfl ?_
    refine aw_irem dX12_gaps_65 (by decide) ?_
    refine aw_callV (M' := M_X12_statusOf) (K := 12) (i := 0) (vs := [aI ((μ 61 0 (tn x3)) / (4 : Int32)), aI ((μ 61 0 (tn x3)) - (μ 61 0 (tn x3)) / (4 : Int32) * (4 : Int32))]) (st := [aI x2]) dX12_gaps_66 mk_X12_statusOf mi_X12_statusOf ml_RX12_259 mp_X12_statusOf rc_12 rm_X12_gaps__X12_statusOf (Nat.le_of_ble_eq_true rfl) rfl (cw_mono h ?_)
    clear h
    rintro _ μ1 ⟨r2, rfl, h⟩
    show aw Γ M_X12_gaps 69 [aR 12 0, aX, aI x2, aI x3] [aI r2, aI x2] μ1 (rI Q)
    refine aw_callS (M' := M_X12_isWhole) (vs := [aI r2]) (st := [aI x2]) dX12_gaps_69 mk_X12_isWhole ms_X12_isWhole ml_RX12_262 mp_X12_isWhole rm_X12_gaps__X12_isWhole (Nat.le_of_ble_eq_true rfl) rfl (cw_mono h ?_)
    clear h
    rintro _ μ3 ⟨r4, rfl, h⟩
    show aw Γ M_X12_gaps 72 [aR 12 0, aX, aI x2, aI x3] [aI r4, aI x2] μ3 (rI Q)
    refine aw_if_eq (tgt := 79) dX12_gaps_72 (by decide) (fun c0 => ?_) (fun c0 => ?_)
    · replace h := h.1 c0
      refine aw_iconst (v := (1 : Int32)) dX12_gaps_79 rfl ?_
      refine aw_iadd dX12_gaps_80 ?_
      refine aw_istore_n (ls' := [aR 12 0, aX, aI (x2 + (1 : Int32)), aI x3]) dX12_gaps_81 (by decide) rfl rfl ?_
      refine aw_iinc (v := x3 + (1 : Int32)) (ls' := [aR 12 0, aX, aI (x2 + (1 : Int32)), aI (x3 + (1 : Int32))]) dX12_gaps_82 rfl rfl (by decide) rfl rfl ?_
      refine aw_goto (tgt := 40) dX12_gaps_85 (by decide) ?_
      exact h
    · replace h := h.2 c0
      refine aw_iconst (v := (0 : Int32)) dX12_gaps_75 rfl ?_
      refine aw_goto (tgt := 80) dX12_gaps_76 (by decide) ?_
      refine aw_iadd dX12_gaps_80 ?_
      refine aw_istore_n (ls' := [aR 12 0, aX, aI (x2 + (0 : Int32)), aI x3]) dX12_gaps_81 (by decide) rfl rfl ?_
      refine aw_iinc (v := x3 + (1 : Int32)) (ls' := [aR 12 0, aX, aI (x2 + (0 : Int32)), aI (x3 + (1 : Int32))]) dX12_gaps_82 rfl rfl (by decide) rfl rfl ?_
      refine aw_goto (tgt := 40) dX12_gaps_85 (by decide) ?_
      exact h
theorem u_X12_hope {Γ : cx_T} {μ : mH} {x1 : Int32} {Q : Int32 → mH → Prop} (h : ((μ 12 0 8) = 0 → (Q (-999 : Int32) μ)) ∧ (¬ (μ 12 0 8) = 0 → (cwi Γ M_X12_in [aI x1, aI (0 : Int32), aI (3 : Int32)] μ (fun r2 μ1 => (¬ r2 = 0 → (aw Γ M_X12_hope 30 [aR 12 0, aI x1, aI (0 : Int32), aI (0 : Int32), aI (0 : Int32), aI (0 : Int32), aX] [] μ1 (rI Q))) ∧ (r2 = 0 → (Q (-999 : Int32) μ1)))))) : cwi Γ M_X12_hope [aR 12 0, aI x1] μ Q := by
  refine cw_ofU (ls := [aR 12 0, aI x1, aX, aX, aX, aX, aX]) (Or.inl (by decide)) rfl (Nat.le_of_ble_eq_true rfl) rfl ?_
  refine aw_aload_n dX12_hope_0 rfl ?_
  refine aw_get dX12_hope_1 rfl fk_RX12_171 (look_I rfl : look μ 12 0 8 = aI (μ 12 0 8)) ?_
  refine aw_if_eq (tgt := 16) dX12_hope_4 (by decide) (fun c0 => ?_) (fun c0 => ?_)
  · replace h := h.1 c0
    refine aw_sipush (v := (-999 : Int32)) dX12_hope_16 rfl ?_
    exact aw_iret dX12_hope_19 rfl rfl ⟨_, rfl, h⟩
  · replace h := h.2 c0
    refine aw_iload_n dX12_hope_7 rfl ?_
    refine aw_iconst (v := (0 : Int32)) dX12_hope_8 rfl ?_
    refine aw_iconst (v := (3 : Int32)) dX12_hope_9 rfl ?_
    refine aw_callS (M' := M_X12_in) (vs := [aI x1, aI (0 : Int32), aI (3 : Int32)]) (st := []) dX12_hope_10 mk_X12_in ms_X12_in ml_RX12_85 mp_X12_in rm_X12_hope__X12_in (Nat.le_of_ble_eq_true rfl) rfl (cw_mono h ?_)
    clear h
    rintro _ μ1 ⟨r2, rfl, h⟩
    show aw Γ M_X12_hope 13 [aR 12 0, aI x1, aX, aX, aX, aX, aX] [aI r2] μ1 (rI Q)
    refine aw_if_ne (tgt := 20) dX12_hope_13 (by decide) (fun c0 => ?_) (fun c0 => ?_)
    · replace h := h.1 c0
      refine aw_iconst (v := (0 : Int32)) dX12_hope_20 rfl ?_
      refine aw_istore_n (ls' := [aR 12 0, aI x1, aI (0 : Int32), aX, aX, aX, aX]) dX12_hope_21 (by decide) rfl rfl ?_
      refine aw_iconst (v := (0 : Int32)) dX12_hope_22 rfl ?_
      refine aw_istore_n (ls' := [aR 12 0, aI x1, aI (0 : Int32), aI (0 : Int32), aX, aX, aX]) dX12_hope_23 (by decide) rfl rfl ?_
      refine aw_iconst (v := (0 : Int32)) dX12_hope_24 rfl ?_
      refine aw_istore (ls' := [aR 12 0, aI x1, aI (0 : Int32), aI (0 : Int32), aI (0 : Int32), aX, aX]) dX12_hope_25 (by decide) rfl rfl ?_
      refine aw_iconst (v := (0 : Int32)) dX12_hope_27 rfl ?_
      refine aw_istore (ls' := [aR 12 0, aI x1, aI (0 : Int32), aI (0 : Int32), aI (0 : Int32), aI (0 : Int32), aX]) dX12_hope_28 (by decide) rfl rfl ?_
      exact h
    · replace h := h.2 c0
      refine aw_sipush (v := (-999 : Int32)) dX12_hope_16 rfl ?_
      exact aw_iret dX12_hope_19 rfl rfl ⟨_, rfl, h⟩
theorem u_X12_hope_30 {Γ : cx_T} {μ : mH} {x1 : Int32} {x2 : Int32} {x3 : Int32} {x4 : Int32} {x5 : Int32} {Q : Int32 → mH → Prop} (h : ((μ 12 0 11) ≤ x5 → ((¬ x2 = 0 → (¬ x2 = 0 ∧ (Q ((((100 : Int32) * x3) / x2) - ((10 : Int32) * x4)) μ))) ∧ (x2 = 0 → (Q ((50 : Int32) - ((10 : Int32) * x4)) μ)))) ∧ (¬ (μ 12 0 11) ≤ x5 → (vp_in x5 10 ∧ (((μ 44 0 (tn x5)) = x1 → (cwv Γ M_X12_finds [aR 12 0, aI x5, aI (μ 42 0 0), aI (μ 42 0 1)] μ (fun μ1 => aw Γ M_X12_hope 77 [aR 12 0, aI x1, aI x2, aI x3, aI (x4 + (1 : Int32)), aI x5, aI (0 : Int32)] [] μ1 (rI Q)))) ∧ (¬ (μ 44 0 (tn x5)) = x1 → (aw Γ M_X12_hope 30 [aR 12 0, aI x1, aI x2, aI x3, aI x4, aI (x5 + (1 : Int32)), aX] [] μ (rI Q))))))) : aw Γ M_X12_hope 30 [aR 12 0, aI x1, aI x2, aI x3, aI x4, aI x5, aX] [] μ (rI Q) := by
  refine aw_iload dX12_hope_30 rfl ?_
  refine aw_aload_n dX12_hope_32 rfl ?_
  refine aw_get dX12_hope_33 rfl fk_RX12_175 (look_I rfl : look μ 12 0 11 = aI (μ 12 0 11)) ?_
  refine aw_icmp_ge (tgt := 118) dX12_hope_36 (by decide) (fun c0 => ?_) (fun c0 => ?_)
  · replace h := h.1 c0
    refine aw_iload_n dX12_hope_118 rfl ?_
    refine aw_if_ne (tgt := 127) dX12_hope_119 (by decide) (fun c0 => ?_) (fun c0 => ?_)
    · replace h := h.1 c0
      refine aw_bipush (v := (100 : Int32)) dX12_hope_127 rfl ?_
      refine aw_iload_n dX12_hope_129 rfl ?_
      refine aw_imul dX12_hope_130 ?_
      refine aw_iload_n dX12_hope_131 rfl ?_
      refine aw_idiv dX12_hope_132 h.1 ?_
      replace h := h.2
      refine aw_bipush (v := (10 : Int32)) dX12_hope_133 rfl ?_
      refine aw_iload dX12_hope_135 rfl ?_
      refine aw_imul dX12_hope_137 ?_
      refine aw_isub dX12_hope_138 ?_
      exact aw_iret dX12_hope_139 rfl rfl ⟨_, rfl, h⟩
    · replace h := h.2 c0
      refine aw_bipush (v := (50 : Int32)) dX12_hope_122 rfl ?_
      refine aw_goto (tgt := 133) dX12_hope_124 (by decide) ?_
      refine aw_bipush (v := (10 : Int32)) dX12_hope_133 rfl ?_
      refine aw_iload dX12_hope_135 rfl ?_
      refine aw_imul dX12_hope_137 ?_
      refine aw_isub dX12_hope_138 ?_
      exact aw_iret dX12_hope_139 rfl rfl ⟨_, rfl, h⟩
  · replace h := h.2 c0
    refine aw_aload_n dX12_hope_39 rfl ?_
    refine aw_get dX12_hope_40 rfl fk_RX12_23 (look_R rfl rfl : look _ 12 0 12 = aR 44 0) ?_
    refine aw_iload dX12_hope_43 rfl ?_
    refine aw_ia (j := tn x5) (y := μ 44 0 (tn x5)) dX12_hope_45 rfl (fun _ => rfl) h.1 rfl (rfl) ?_
    replace h := h.2
    refine aw_iload_n dX12_hope_46 rfl ?_
    refine aw_icmp_eq (tgt := 53) dX12_hope_47 (by decide) (fun c0 => ?_) (fun c0 => ?_)
    · replace h := h.1 c0
      refine aw_iinc (v := x4 + (1 : Int32)) (ls' := [aR 12 0, aI x1, aI x2, aI x3, aI (x4 + (1 : Int32)), aI x5, aX]) dX12_hope_53 rfl rfl (by decide) rfl rfl ?_
      refine aw_aload_n dX12_hope_56 rfl ?_
      refine aw_iload dX12_hope_57 rfl ?_
      refine aw_aload_n dX12_hope_59 rfl ?_
      refine aw_get dX12_hope_60 rfl fk_RX12_17 (look_R rfl rfl : look _ 12 0 7 = aR 42 0) ?_
      refine aw_iconst (v := (0 : Int32)) dX12_hope_63 rfl ?_
      refine aw_ia (j := 0) (y := μ 42 0 0) dX12_hope_64 rfl (fun _ => rfl) (by unfold vp_in; decide) (by decide) (rfl) ?_
      refine aw_aload_n dX12_hope_65 rfl ?_
      refine aw_get dX12_hope_66 rfl fk_RX12_17 (look_R rfl rfl : look _ 12 0 7 = aR 42 0) ?_
      refine aw_iconst (v := (1 : Int32)) dX12_hope_69 rfl ?_
      refine aw_ia (j := 1) (y := μ 42 0 1) dX12_hope_70 rfl (fun _ => rfl) (by unfold vp_in; decide) (by decide) (rfl) ?_
      refine aw_callV (M' := M_X12_finds) (K := 12) (i := 0) (vs := [aI x5, aI (μ 42 0 0), aI (μ 42 0 1)]) (st := []) dX12_hope_71 mk_X12_finds mi_X12_finds ml_RX12_224 mp_X12_finds rc_12 rm_X12_hope__X12_finds (Nat.le_of_ble_eq_true rfl) rfl (cw_mono h ?_)
      clear h
      intro _ μ1 h
      show aw Γ M_X12_hope 74 [aR 12 0, aI x1, aI x2, aI x3, aI (x4 + (1 : Int32)), aI x5, aX] [] μ1 (rI Q)
      refine aw_iconst (v := (0 : Int32)) dX12_hope_74 rfl ?_
      refine aw_istore (ls' := [aR 12 0, aI x1, aI x2, aI x3, aI (x4 + (1 : Int32)), aI x5, aI (0 : Int32)]) dX12_hope_75 (by decide) rfl rfl ?_
      exact h
    · replace h := h.2 c0
      refine aw_goto (tgt := 112) dX12_hope_50 (by decide) ?_
      refine aw_iinc (v := x5 + (1 : Int32)) (ls' := [aR 12 0, aI x1, aI x2, aI x3, aI x4, aI (x5 + (1 : Int32)), aX]) dX12_hope_112 rfl rfl (by decide) rfl rfl ?_
      refine aw_goto (tgt := 30) dX12_hope_115 (by decide) ?_
      exact h
theorem u_X12_hope_77 {Γ : cx_T} {μ : mH} {x1 : Int32} {x2 : Int32} {x3 : Int32} {x4 : Int32} {x5 : Int32} {x6 : Int32} {Q : Int32 → mH → Prop} (h : ((μ 12 0 21) ≤ x6 → (aw Γ M_X12_hope 30 [aR 12 0, aI x1, aI x2, aI x3, aI x4, aI (x5 + (1 : Int32)), aX] [] μ (rI Q))) ∧ (¬ (μ 12 0 21) ≤ x6 → (cwi Γ M_X12_isRight [aR 12 0, aI x6] μ (fun r2 μ1 => (r2 = 0 → (aw Γ M_X12_hope 77 [aR 12 0, aI x1, aI (x2 + (1 : Int32)), aI (x3 + (0 : Int32)), aI x4, aI x5, aI (x6 + (1 : Int32))] [] μ1 (rI Q))) ∧ (¬ r2 = 0 → (aw Γ M_X12_hope 77 [aR 12 0, aI x1, aI (x2 + (1 : Int32)), aI (x3 + (1 : Int32)), aI x4, aI x5, aI (x6 + (1 : Int32))] [] μ1 (rI Q))))))) : aw Γ M_X12_hope 77 [aR 12 0, aI x1, aI x2, aI x3, aI x4, aI x5, aI x6] [] μ (rI Q) := by
  refine aw_iload dX12_hope_77 rfl ?_
  refine aw_aload_n dX12_hope_79 rfl ?_
  refine aw_get dX12_hope_80 rfl fk_RX12_201 (look_I rfl : look μ 12 0 21 = aI (μ 12 0 21)) ?_
  refine aw_icmp_ge (tgt := 112) dX12_hope_83 (by decide) (fun c0 => ?_) (fun c0 => ?_)
  · replace h := h.1 c0
    refine aw_iinc (v := x5 + (1 : Int32)) (ls' := [aR 12 0, aI x1, aI x2, aI x3, aI x4, aI (x5 + (1 : Int32)), aI x6]) dX12_hope_112 rfl rfl (by decide) rfl rfl ?_
    refine aw_goto (tgt := 30) dX12_hope_115 (by decide) ?_
    exact aw_wkk h (wk_e (wk_e (wk_e (wk_e (wk_e (wk_e (wk_x wk_n)))))))
  · replace h := h.2 c0
    refine aw_iinc (v := x2 + (1 : Int32)) (ls' := [aR 12 0, aI x1, aI (x2 + (1 : Int32)), aI x3, aI x4, aI x5, aI x6]) dX12_hope_86 rfl rfl (by decide) rfl rfl ?_
    refine aw_iload_n dX12_hope_89 rfl ?_
    refine aw_aload_n dX12_hope_90 rfl ?_
    refine aw_iload dX12_hope_91 rfl ?_
    refine aw_callV (M' := M_X12_isRight) (K := 12) (i := 0) (vs := [aI x6]) (st := [aI x3]) dX12_hope_93 mk_X12_isRight mi_X12_isRight ml_RX12_239 mp_X12_isRight rc_12 rm_X12_hope__X12_isRight (Nat.le_of_ble_eq_true rfl) rfl (cw_mono h ?_)
    clear h
    rintro _ μ1 ⟨r2, rfl, h⟩
    show aw Γ M_X12_hope 96 [aR 12 0, aI x1, aI (x2 + (1 : Int32)), aI x3, aI x4, aI x5, aI x6] [aI r2, aI x3] μ1 (rI Q)
    refine aw_if_eq (tgt := 103) dX12_hope_96 (by decide) (fun c0 => ?_) (fun c0 => ?_)
    · replace h := h.1 c0
      refine aw_iconst (v := (0 : Int32)) dX12_hope_103 rfl ?_
      refine aw_iadd dX12_hope_104 ?_
      refine aw_istore_n (ls' := [aR 12 0, aI x1, aI (x2 + (1 : Int32)), aI (x3 + (0 : Int32)), aI x4, aI x5, aI x6]) dX12_hope_105 (by decide) rfl rfl ?_
      refine aw_iinc (v := x6 + (1 : Int32)) (ls' := [aR 12 0, aI x1, aI (x2 + (1 : Int32)), aI (x3 + (0 : Int32)), aI x4, aI x5, aI (x6 + (1 : Int32))]) dX12_hope_106 rfl rfl (by decide) rfl rfl ?_
      refine aw_goto (tgt := 77) dX12_hope_109 (by decide) ?_
      exact h
    · replace h := h.2 c0
      refine aw_iconst (v := (1 : Int32)) dX12_hope_99 rfl ?_
      refine aw_goto (tgt := 104) dX12_hope_100 (by decide) ?_
      refine aw_iadd dX12_hope_104 ?_
      refine aw_istore_n (ls' := [aR 12 0, aI x1, aI (x2 + (1 : Int32)), aI (x3 + (1 : Int32)), aI x4, aI x5, aI x6]) dX12_hope_105 (by decide) rfl rfl ?_
      refine aw_iinc (v := x6 + (1 : Int32)) (ls' := [aR 12 0, aI x1, aI (x2 + (1 : Int32)), aI (x3 + (1 : Int32)), aI x4, aI x5, aI (x6 + (1 : Int32))]) dX12_hope_106 rfl rfl (by decide) rfl rfl ?_
      refine aw_goto (tgt := 77) dX12_hope_109 (by decide) ?_
      exact h
theorem u_X12_ask {Γ : cx_T} {μ : mH} {x1 : Int32} {Q : Int32 → mH → Prop} (h : ((μ 12 0 8) = 0 → (Q (-1 : Int32) μ)) ∧ (¬ (μ 12 0 8) = 0 → (cwi Γ M_X12_in [aI x1, aI (0 : Int32), aI (1 : Int32)] μ (fun r2 μ1 => (¬ r2 = 0 → ((¬ x1 = 0 → (cwi Γ M_X12_asks [aR 12 0, aI (2 : Int32)] μ1 (fun r4 μ3 => (r4 = 0 → (aw Γ M_X12_ask 128 [aR 12 0, aX, aI (0 : Int32), aI (16777215 : Int32), aI (0 : Int32), aI (0 : Int32), aX, aX] [] μ3 (rI Q))) ∧ (¬ r4 = 0 → (aw Γ M_X12_ask 71 [aR 12 0, aX, aI (0 : Int32), aI (0 : Int32), aI (0 : Int32), aX, aX, aX] [] μ3 (rI Q)))))) ∧ (x1 = 0 → (aw Γ M_X12_ask 26 [aR 12 0, aX, aI (0 : Int32), aI (1 : Int32), aX, aX, aX, aX] [] μ1 (rI Q))))) ∧ (r2 = 0 → (Q (-1 : Int32) μ1)))))) : cwi Γ M_X12_ask [aR 12 0, aI x1] μ Q := by
  refine cw_ofU (ls := [aR 12 0, aI x1, aX, aX, aX, aX, aX, aX]) (Or.inl (by decide)) rfl (Nat.le_of_ble_eq_true rfl) rfl ?_
  refine aw_aload_n dX12_ask_0 rfl ?_
  refine aw_get dX12_ask_1 rfl fk_RX12_171 (look_I rfl : look μ 12 0 8 = aI (μ 12 0 8)) ?_
  refine aw_if_eq (tgt := 16) dX12_ask_4 (by decide) (fun c0 => ?_) (fun c0 => ?_)
  · replace h := h.1 c0
    refine aw_iconst (v := (-1 : Int32)) dX12_ask_16 rfl ?_
    exact aw_iret dX12_ask_17 rfl rfl ⟨_, rfl, h⟩
  · replace h := h.2 c0
    refine aw_iload_n dX12_ask_7 rfl ?_
    refine aw_iconst (v := (0 : Int32)) dX12_ask_8 rfl ?_
    refine aw_iconst (v := (1 : Int32)) dX12_ask_9 rfl ?_
    refine aw_callS (M' := M_X12_in) (vs := [aI x1, aI (0 : Int32), aI (1 : Int32)]) (st := []) dX12_ask_10 mk_X12_in ms_X12_in ml_RX12_85 mp_X12_in rm_X12_ask__X12_in (Nat.le_of_ble_eq_true rfl) rfl (cw_mono h ?_)
    clear h
    rintro _ μ1 ⟨r2, rfl, h⟩
    show aw Γ M_X12_ask 13 [aR 12 0, aI x1, aX, aX, aX, aX, aX, aX] [aI r2] μ1 (rI Q)
    refine aw_if_ne (tgt := 18) dX12_ask_13 (by decide) (fun c0 => ?_) (fun c0 => ?_)
    · replace h := h.1 c0
      refine aw_iconst (v := (0 : Int32)) dX12_ask_18 rfl ?_
      refine aw_istore_n (ls' := [aR 12 0, aI x1, aI (0 : Int32), aX, aX, aX, aX, aX]) dX12_ask_19 (by decide) rfl rfl ?_
      refine aw_iload_n dX12_ask_20 rfl ?_
      refine aw_if_ne (tgt := 54) dX12_ask_21 (by decide) (fun c0 => ?_) (fun c0 => ?_)
      · replace h := h.1 c0
        refine aw_ldcw (v := (16777215 : Int32)) dX12_ask_54 kc_RX12_277 ?_
        refine aw_istore_n (ls' := [aR 12 0, aI x1, aI (0 : Int32), aI (16777215 : Int32), aX, aX, aX, aX]) dX12_ask_57 (by decide) rfl rfl ?_
        refine aw_aload_n dX12_ask_58 rfl ?_
        refine aw_iconst (v := (2 : Int32)) dX12_ask_59 rfl ?_
        refine aw_callV (M' := M_X12_asks) (K := 12) (i := 0) (vs := [aI (2 : Int32)]) (st := []) dX12_ask_60 mk_X12_asks mi_X12_asks ml_RX12_287 mp_X12_asks rc_12 rm_X12_ask__X12_asks (Nat.le_of_ble_eq_true rfl) rfl (cw_mono h ?_)
        clear h
        rintro _ μ3 ⟨r4, rfl, h⟩
        show aw Γ M_X12_ask 63 [aR 12 0, aI x1, aI (0 : Int32), aI (16777215 : Int32), aX, aX, aX, aX] [aI r4] μ3 (rI Q)
        refine aw_if_eq (tgt := 122) dX12_ask_63 (by decide) (fun c0 => ?_) (fun c0 => ?_)
        · replace h := h.1 c0
          refine aw_iconst (v := (0 : Int32)) dX12_ask_122 rfl ?_
          refine aw_istore (ls' := [aR 12 0, aI x1, aI (0 : Int32), aI (16777215 : Int32), aI (0 : Int32), aX, aX, aX]) dX12_ask_123 (by decide) rfl rfl ?_
          refine aw_iconst (v := (0 : Int32)) dX12_ask_125 rfl ?_
          refine aw_istore (ls' := [aR 12 0, aI x1, aI (0 : Int32), aI (16777215 : Int32), aI (0 : Int32), aI (0 : Int32), aX, aX]) dX12_ask_126 (by decide) rfl rfl ?_
          exact aw_wkk h (wk_e (wk_x (wk_e (wk_e (wk_e (wk_e (wk_e (wk_e wk_n))))))))
        · replace h := h.2 c0
          refine aw_iconst (v := (0 : Int32)) dX12_ask_66 rfl ?_
          refine aw_istore_n (ls' := [aR 12 0, aI x1, aI (0 : Int32), aI (0 : Int32), aX, aX, aX, aX]) dX12_ask_67 (by decide) rfl rfl ?_
          refine aw_iconst (v := (0 : Int32)) dX12_ask_68 rfl ?_
          refine aw_istore (ls' := [aR 12 0, aI x1, aI (0 : Int32), aI (0 : Int32), aI (0 : Int32), aX, aX, aX]) dX12_ask_69 (by decide) rfl rfl ?_
          exact aw_wkk h (wk_e (wk_x (wk_e (wk_e (wk_e (wk_e (wk_e (wk_e wk_n))))))))
      · replace h := h.2 c0
        refine aw_iconst (v := (1 : Int32)) dX12_ask_24 rfl ?_
        refine aw_istore_n (ls' := [aR 12 0, aI x1, aI (0 : Int32), aI (1 : Int32), aX, aX, aX, aX]) dX12_ask_25 (by decide) rfl rfl ?_
        exact aw_wkk h (wk_e (wk_x (wk_e (wk_e (wk_e (wk_e (wk_e (wk_e wk_n))))))))
    · replace h := h.2 c0
      refine aw_iconst (v := (-1 : Int32)) dX12_ask_16 rfl ?_
      exact aw_iret dX12_ask_17 rfl rfl ⟨_, rfl, h⟩
theorem u_X12_ask_128 {Γ : cx_T} {μ : mH} {x2 : Int32} {x3 : Int32} {x4 : Int32} {x5 : Int32} {Q : Int32 → mH → Prop} (h : ((6 : Int32) ≤ x5 → (Q x2 μ)) ∧ (¬ (6 : Int32) ≤ x5 → (aw Γ M_X12_ask 141 [aR 12 0, aX, aI x2, aI x3, aI x4, aI x5, aI (0 : Int32), aI (0 : Int32)] [] μ (rI Q)))) : aw Γ M_X12_ask 128 [aR 12 0, aX, aI x2, aI x3, aI x4, aI x5, aX, aX] [] μ (rI Q) := by
  refine aw_iload dX12_ask_128 rfl ?_
  refine aw_bipush (v := (6 : Int32)) dX12_ask_130 rfl ?_
  refine aw_icmp_ge (tgt := 215) dX12_ask_132 (by decide) (fun c0 => ?_) (fun c0 => ?_)
  · replace h := h.1 c0
    refine aw_iload_n dX12_ask_215 rfl ?_
    exact aw_iret dX12_ask_216 rfl rfl ⟨_, rfl, h⟩
  · replace h := h.2 c0
    refine aw_iconst (v := (0 : Int32)) dX12_ask_135 rfl ?_
    refine aw_istore (ls' := [aR 12 0, aX, aI x2, aI x3, aI x4, aI x5, aI (0 : Int32), aX]) dX12_ask_136 (by decide) rfl rfl ?_
    refine aw_iconst (v := (0 : Int32)) dX12_ask_138 rfl ?_
    refine aw_istore (ls' := [aR 12 0, aX, aI x2, aI x3, aI x4, aI x5, aI (0 : Int32), aI (0 : Int32)]) dX12_ask_139 (by decide) rfl rfl ?_
    exact h
theorem u_X12_ask_71 {Γ : cx_T} {μ : mH} {x2 : Int32} {x3 : Int32} {x4 : Int32} {Q : Int32 → mH → Prop} (h : ((μ 12 0 16) ≤ x4 → (aw Γ M_X12_ask 128 [aR 12 0, aX, aI x2, aI x3, aI (0 : Int32), aI (0 : Int32), aX, aX] [] μ (rI Q))) ∧ (¬ (μ 12 0 16) ≤ x4 → (cwv Γ M_X12_chains [aR 12 0, aI x4] μ (fun μ1 => aw Γ M_X12_ask 89 [aR 12 0, aX, aI x2, aI x3, aI x4, aI (0 : Int32), aX, aX] [] μ1 (rI Q))))) : aw Γ M_X12_ask 71 [aR 12 0, aX, aI x2, aI x3, aI x4, aX, aX, aX] [] μ (rI Q) := by
  refine aw_iload dX12_ask_71 rfl ?_
  refine aw_aload_n dX12_ask_73 rfl ?_
  refine aw_get dX12_ask_74 rfl fk_RX12_268 (look_I rfl : look μ 12 0 16 = aI (μ 12 0 16)) ?_
  refine aw_icmp_ge (tgt := 122) dX12_ask_77 (by decide) (fun c0 => ?_) (fun c0 => ?_)
  · replace h := h.1 c0
    refine aw_iconst (v := (0 : Int32)) dX12_ask_122 rfl ?_
    refine aw_istore (ls' := [aR 12 0, aX, aI x2, aI x3, aI (0 : Int32), aX, aX, aX]) dX12_ask_123 (by decide) rfl rfl ?_
    refine aw_iconst (v := (0 : Int32)) dX12_ask_125 rfl ?_
    refine aw_istore (ls' := [aR 12 0, aX, aI x2, aI x3, aI (0 : Int32), aI (0 : Int32), aX, aX]) dX12_ask_126 (by decide) rfl rfl ?_
    exact h
  · replace h := h.2 c0
    refine aw_aload_n dX12_ask_80 rfl ?_
    refine aw_iload dX12_ask_81 rfl ?_
    refine aw_callV (M' := M_X12_chains) (K := 12) (i := 0) (vs := [aI x4]) (st := []) dX12_ask_83 mk_X12_chains mi_X12_chains ml_RX12_274 mp_X12_chains rc_12 rm_X12_ask__X12_chains (Nat.le_of_ble_eq_true rfl) rfl (cw_mono h ?_)
    clear h
    intro _ μ1 h
    show aw Γ M_X12_ask 86 [aR 12 0, aX, aI x2, aI x3, aI x4, aX, aX, aX] [] μ1 (rI Q)
    refine aw_iconst (v := (0 : Int32)) dX12_ask_86 rfl ?_
    refine aw_istore (ls' := [aR 12 0, aX, aI x2, aI x3, aI x4, aI (0 : Int32), aX, aX]) dX12_ask_87 (by decide) rfl rfl ?_
    exact h
theorem u_X12_ask_26 {Γ : cx_T} {μ : mH} {x2 : Int32} {x3 : Int32} {Q : Int32 → mH → Prop} (h : ((4 : Int32) ≤ x3 → (Q x2 μ)) ∧ (¬ (4 : Int32) ≤ x3 → (cwi Γ M_X12_hope [aR 12 0, aI x3] μ (fun r2 μ1 => cwi Γ M_X12_hope [aR 12 0, aI x2] μ1 (fun r4 μ3 => (r2 ≤ r4 → (aw Γ M_X12_ask 26 [aR 12 0, aX, aI x2, aI (x3 + (1 : Int32)), aX, aX, aX, aX] [] μ3 (rI Q))) ∧ (¬ r2 ≤ r4 → (aw Γ M_X12_ask 26 [aR 12 0, aX, aI x3, aI (x3 + (1 : Int32)), aX, aX, aX, aX] [] μ3 (rI Q)))))))) : aw Γ M_X12_ask 26 [aR 12 0, aX, aI x2, aI x3, aX, aX, aX, aX] [] μ (rI Q) := by
  refine aw_iload_n dX12_ask_26 rfl ?_
  refine aw_iconst (v := (4 : Int32)) dX12_ask_27 rfl ?_
  refine aw_icmp_ge (tgt := 52) dX12_ask_28 (by decide) (fun c0 => ?_) (fun c0 => ?_)
  · replace h := h.1 c0
    refine aw_iload_n dX12_ask_52 rfl ?_
    exact aw_iret dX12_ask_53 rfl rfl ⟨_, rfl, h⟩
  · replace h := h.2 c0
    refine aw_aload_n dX12_ask_31 rfl ?_
    refine aw_iload_n dX12_ask_32 rfl ?_
    refine aw_callV (M' := M_X12_hope) (K := 12) (i := 0) (vs := [aI x3]) (st := []) dX12_ask_33 mk_X12_hope mi_X12_hope ml_RX12_290 mp_X12_hope rc_12 rm_X12_ask__X12_hope (Nat.le_of_ble_eq_true rfl) rfl (cw_mono h ?_)
    clear h
    rintro _ μ1 ⟨r2, rfl, h⟩
    show aw Γ M_X12_ask 36 [aR 12 0, aX, aI x2, aI x3, aX, aX, aX, aX] [aI r2] μ1 (rI Q)
    refine aw_aload_n dX12_ask_36 rfl ?_
    refine aw_iload_n dX12_ask_37 rfl ?_
    refine aw_callV (M' := M_X12_hope) (K := 12) (i := 0) (vs := [aI x2]) (st := [aI r2]) dX12_ask_38 mk_X12_hope mi_X12_hope ml_RX12_290 mp_X12_hope rc_12 rm_X12_ask__X12_hope (Nat.le_of_ble_eq_true rfl) rfl (cw_mono h ?_)
    clear h
    rintro _ μ3 ⟨r4, rfl, h⟩
    show aw Γ M_X12_ask 41 [aR 12 0, aX, aI x2, aI x3, aX, aX, aX, aX] [aI r4, aI r2] μ3 (rI Q)
    refine aw_icmp_le (tgt := 46) dX12_ask_41 (by decide) (fun c0 => ?_) (fun c0 => ?_)
    · replace h := h.1 c0
      refine aw_iinc (v := x3 + (1 : Int32)) (ls' := [aR 12 0, aX, aI x2, aI (x3 + (1 : Int32)), aX, aX, aX, aX]) dX12_ask_46 rfl rfl (by decide) rfl rfl ?_
      refine aw_goto (tgt := 26) dX12_ask_49 (by decide) ?_
      exact h
    · replace h := h.2 c0
      refine aw_iload_n dX12_ask_44 rfl ?_
      refine aw_istore_n (ls' := [aR 12 0, aX, aI x3, aI x3, aX, aX, aX, aX]) dX12_ask_45 (by decide) rfl rfl ?_
      refine aw_iinc (v := x3 + (1 : Int32)) (ls' := [aR 12 0, aX, aI x3, aI (x3 + (1 : Int32)), aX, aX, aX, aX]) dX12_ask_46 rfl rfl (by decide) rfl rfl ?_
      refine aw_goto (tgt := 26) dX12_ask_49 (by decide) ?_
      exact h
theorem u_X12_ask_141 {Γ : cx_T} {μ : mH} {x2 : Int32} {x3 : Int32} {x4 : Int32} {x5 : Int32} {x6 : Int32} {x7 : Int32} {Q : Int32 → mH → Prop} (h : ((4 : Int32) ≤ x7 → ((x4 < x6 → (aw Γ M_X12_ask 128 [aR 12 0, aX, aI x5, aI x3, aI x6, aI (x5 + (1 : Int32)), aX, aX] [] μ (rI Q))) ∧ (¬ x4 < x6 → (aw Γ M_X12_ask 128 [aR 12 0, aX, aI x2, aI x3, aI x4, aI (x5 + (1 : Int32)), aX, aX] [] μ (rI Q))))) ∧ (¬ (4 : Int32) ≤ x7 → ((¬ ((x3 >>> (((4 : Int32) * x5) + x7 &&& 31)) &&& (1 : Int32)) = (1 : Int32) → (aw Γ M_X12_ask 141 [aR 12 0, aX, aI x2, aI x3, aI x4, aI x5, aI (x6 + (0 : Int32)), aI (x7 + (1 : Int32))] [] μ (rI Q))) ∧ (((x3 >>> (((4 : Int32) * x5) + x7 &&& 31)) &&& (1 : Int32)) = (1 : Int32) → (cwi Γ M_X12_statusOf [aR 12 0, aI x5, aI x7] μ (fun r2 μ1 => cwi Γ M_X12_isWhole [aI r2] μ1 (fun r4 μ3 => (¬ r4 = 0 → (aw Γ M_X12_ask 141 [aR 12 0, aX, aI x2, aI x3, aI x4, aI x5, aI (x6 + (0 : Int32)), aI (x7 + (1 : Int32))] [] μ3 (rI Q))) ∧ (r4 = 0 → (aw Γ M_X12_ask 141 [aR 12 0, aX, aI x2, aI x3, aI x4, aI x5, aI (x6 + (1 : Int32)), aI (x7 + (1 : Int32))] [] μ3 (rI Q)))))))))) : aw Γ M_X12_ask 141 [aR 12 0, aX, aI x2, aI x3, aI x4, aI x5, aI x6, aI x7] [] μ (rI Q) := by
  refine aw_iload dX12_ask_141 rfl ?_
  refine aw_iconst (v := (4 : Int32)) dX12_ask_143 rfl ?_
  refine aw_icmp_ge (tgt := 192) dX12_ask_144 (by decide) (fun c0 => ?_) (fun c0 => ?_)
  · replace h := h.1 c0
    refine aw_iload dX12_ask_192 rfl ?_
    refine aw_iload dX12_ask_194 rfl ?_
    refine aw_icmp_gt (tgt := 202) dX12_ask_196 (by decide) (fun c0 => ?_) (fun c0 => ?_)
    · replace h := h.1 c0
      refine aw_iload dX12_ask_202 rfl ?_
      refine aw_istore (ls' := [aR 12 0, aX, aI x2, aI x3, aI x6, aI x5, aI x6, aI x7]) dX12_ask_204 (by decide) rfl rfl ?_
      refine aw_iload dX12_ask_206 rfl ?_
      refine aw_istore_n (ls' := [aR 12 0, aX, aI x5, aI x3, aI x6, aI x5, aI x6, aI x7]) dX12_ask_208 (by decide) rfl rfl ?_
      refine aw_iinc (v := x5 + (1 : Int32)) (ls' := [aR 12 0, aX, aI x5, aI x3, aI x6, aI (x5 + (1 : Int32)), aI x6, aI x7]) dX12_ask_209 rfl rfl (by decide) rfl rfl ?_
      refine aw_goto (tgt := 128) dX12_ask_212 (by decide) ?_
      exact aw_wkk h (wk_e (wk_e (wk_e (wk_e (wk_e (wk_e (wk_x (wk_x wk_n))))))))
    · replace h := h.2 c0
      refine aw_goto (tgt := 209) dX12_ask_199 (by decide) ?_
      refine aw_iinc (v := x5 + (1 : Int32)) (ls' := [aR 12 0, aX, aI x2, aI x3, aI x4, aI (x5 + (1 : Int32)), aI x6, aI x7]) dX12_ask_209 rfl rfl (by decide) rfl rfl ?_
      refine aw_goto (tgt := 128) dX12_ask_212 (by decide) ?_
      exact aw_wkk h (wk_e (wk_e (wk_e (wk_e (wk_e (wk_e (wk_x (wk_x wk_n))))))))
  · replace h := h.2 c0
    refine aw_iload dX12_ask_147 rfl ?_
    refine aw_iload_n dX12_ask_149 rfl ?_
    refine aw_iconst (v := (4 : Int32)) dX12_ask_150 rfl ?_
    refine aw_iload dX12_ask_151 rfl ?_
    refine aw_imul dX12_ask_153 ?_
    refine aw_iload dX12_ask_154 rfl ?_
    refine aw_iadd dX12_ask_156 ?_
    refine aw_ishr dX12_ask_157 ?_
    refine aw_iconst (v := (1 : Int32)) dX12_ask_158 rfl ?_
    refine aw_iand dX12_ask_159 ?_
    refine aw_iconst (v := (1 : Int32)) dX12_ask_160 rfl ?_
    refine aw_icmp_ne (tgt := 182) dX12_ask_161 (by decide) (fun c0 => ?_) (fun c0 => ?_)
    · replace h := h.1 c0
      refine aw_iconst (v := (0 : Int32)) dX12_ask_182 rfl ?_
      refine aw_iadd dX12_ask_183 ?_
      refine aw_istore (ls' := [aR 12 0, aX, aI x2, aI x3, aI x4, aI x5, aI (x6 + (0 : Int32)), aI x7]) dX12_ask_184 (by decide) rfl rfl ?_
      refine aw_iinc (v := x7 + (1 : Int32)) (ls' := [aR 12 0, aX, aI x2, aI x3, aI x4, aI x5, aI (x6 + (0 : Int32)), aI (x7 + (1 : Int32))]) dX12_ask_186 rfl rfl (by decide) rfl rfl ?_
      refine aw_goto (tgt := 141) dX12_ask_189 (by decide) ?_
      exact h
    · replace h := h.2 c0
      refine aw_aload_n dX12_ask_164 rfl ?_
      refine aw_iload dX12_ask_165 rfl ?_
      refine aw_iload dX12_ask_167 rfl ?_
      refine aw_callV (M' := M_X12_statusOf) (K := 12) (i := 0) (vs := [aI x5, aI x7]) (st := [aI x6]) dX12_ask_169 mk_X12_statusOf mi_X12_statusOf ml_RX12_259 mp_X12_statusOf rc_12 rm_X12_ask__X12_statusOf (Nat.le_of_ble_eq_true rfl) rfl (cw_mono h ?_)
      clear h
      rintro _ μ1 ⟨r2, rfl, h⟩
      show aw Γ M_X12_ask 172 [aR 12 0, aX, aI x2, aI x3, aI x4, aI x5, aI x6, aI x7] [aI r2, aI x6] μ1 (rI Q)
      refine aw_callS (M' := M_X12_isWhole) (vs := [aI r2]) (st := [aI x6]) dX12_ask_172 mk_X12_isWhole ms_X12_isWhole ml_RX12_262 mp_X12_isWhole rm_X12_ask__X12_isWhole (Nat.le_of_ble_eq_true rfl) rfl (cw_mono h ?_)
      clear h
      rintro _ μ3 ⟨r4, rfl, h⟩
      show aw Γ M_X12_ask 175 [aR 12 0, aX, aI x2, aI x3, aI x4, aI x5, aI x6, aI x7] [aI r4, aI x6] μ3 (rI Q)
      refine aw_if_ne (tgt := 182) dX12_ask_175 (by decide) (fun c0 => ?_) (fun c0 => ?_)
      · replace h := h.1 c0
        refine aw_iconst (v := (0 : Int32)) dX12_ask_182 rfl ?_
        refine aw_iadd dX12_ask_183 ?_
        refine aw_istore (ls' := [aR 12 0, aX, aI x2, aI x3, aI x4, aI x5, aI (x6 + (0 : Int32)), aI x7]) dX12_ask_184 (by decide) rfl rfl ?_
        refine aw_iinc (v := x7 + (1 : Int32)) (ls' := [aR 12 0, aX, aI x2, aI x3, aI x4, aI x5, aI (x6 + (0 : Int32)), aI (x7 + (1 : Int32))]) dX12_ask_186 rfl rfl (by decide) rfl rfl ?_
        refine aw_goto (tgt := 141) dX12_ask_189 (by decide) ?_
        exact h
      · replace h := h.2 c0
        refine aw_iconst (v := (1 : Int32)) dX12_ask_178 rfl ?_
        refine aw_goto (tgt := 183) dX12_ask_179 (by decide) ?_
        refine aw_iadd dX12_ask_183 ?_
        refine aw_istore (ls' := [aR 12 0, aX, aI x2, aI x3, aI x4, aI x5, aI (x6 + (1 : Int32)), aI x7]) dX12_ask_184 (by decide) rfl rfl ?_
        refine aw_iinc (v := x7 + (1 : Int32)) (ls' := [aR 12 0, aX, aI x2, aI x3, aI x4, aI x5, aI (x6 + (1 : Int32)), aI (x7 + (1 : Int32))]) dX12_ask_186 rfl rfl (by decide) rfl rfl ?_
        refine aw_goto (tgt := 141) dX12_ask_189 (by decide) ?_
        exact h
theorem u_X12_ask_89 {Γ : cx_T} {μ : mH} {x2 : Int32} {x3 : Int32} {x4 : Int32} {x5 : Int32} {Q : Int32 → mH → Prop} (h : ((μ 12 0 34) ≤ x5 → (aw Γ M_X12_ask 71 [aR 12 0, aX, aI x2, aI x3, aI (x4 + (1 : Int32)), aX, aX, aX] [] μ (rI Q))) ∧ (¬ (μ 12 0 34) ≤ x5 → (vp_in x5 24 ∧ (aw Γ M_X12_ask 89 [aR 12 0, aX, aI x2, aI (x3 ||| ((1 : Int32) <<< (μ 61 0 (tn x5) &&& 31))), aI x4, aI (x5 + (1 : Int32)), aX, aX] [] μ (rI Q))))) : aw Γ M_X12_ask 89 [aR 12 0, aX, aI x2, aI x3, aI x4, aI x5, aX, aX] [] μ (rI Q) := by
  refine aw_iload dX12_ask_89 rfl ?_
  refine aw_aload_n dX12_ask_91 rfl ?_
  refine aw_get dX12_ask_92 rfl fk_RX12_271 (look_I rfl : look μ 12 0 34 = aI (μ 12 0 34)) ?_
  refine aw_icmp_ge (tgt := 116) dX12_ask_95 (by decide) (fun c0 => ?_) (fun c0 => ?_)
  · replace h := h.1 c0
    refine aw_iinc (v := x4 + (1 : Int32)) (ls' := [aR 12 0, aX, aI x2, aI x3, aI (x4 + (1 : Int32)), aI x5, aX, aX]) dX12_ask_116 rfl rfl (by decide) rfl rfl ?_
    refine aw_goto (tgt := 71) dX12_ask_119 (by decide) ?_
    exact aw_wkk h (wk_e (wk_e (wk_e (wk_e (wk_e (wk_x (wk_e (wk_e wk_n))))))))
  · replace h := h.2 c0
    refine aw_iload_n dX12_ask_98 rfl ?_
    refine aw_iconst (v := (1 : Int32)) dX12_ask_99 rfl ?_
    refine aw_aload_n dX12_ask_100 rfl ?_
    refine aw_get dX12_ask_101 rfl fk_RX12_75 (look_R rfl rfl : look _ 12 0 33 = aR 61 0) ?_
    refine aw_iload dX12_ask_104 rfl ?_
    refine aw_ia (j := tn x5) (y := μ 61 0 (tn x5)) dX12_ask_106 rfl (fun _ => rfl) h.1 rfl (rfl) ?_
    replace h := h.2
    refine aw_ishl dX12_ask_107 ?_
    refine aw_ior dX12_ask_108 ?_
    refine aw_istore_n (ls' := [aR 12 0, aX, aI x2, aI (x3 ||| ((1 : Int32) <<< (μ 61 0 (tn x5) &&& 31))), aI x4, aI x5, aX, aX]) dX12_ask_109 (by decide) rfl rfl ?_
    refine aw_iinc (v := x5 + (1 : Int32)) (ls' := [aR 12 0, aX, aI x2, aI (x3 ||| ((1 : Int32) <<< (μ 61 0 (tn x5) &&& 31))), aI x4, aI (x5 + (1 : Int32)), aX, aX]) dX12_ask_110 rfl rfl (by decide) rfl rfl ?_
    refine aw_goto (tgt := 89) dX12_ask_113 (by decide) ?_
    exact h
theorem u_X12_lays {Γ : cx_T} {μ : mH} {x1 : Int32} {Q : Int32 → mH → Prop} (h : ((μ 12 0 37) < 0 → (aw Γ M_X12_lays 17 [aR 12 0, aI x1] [] μ (rI Q))) ∧ (¬ (μ 12 0 37) < 0 → (aw Γ M_X12_lays 17 [aR 12 0, aI x1] [] (sto μ 12 0 37 ((μ 12 0 37) + (1 : Int32))) (rI Q)))) : cwi Γ M_X12_lays [aR 12 0, aI x1] μ Q := by
  refine cw_ofU (ls := [aR 12 0, aI x1]) (Or.inl (by decide)) rfl (Nat.le_of_ble_eq_true rfl) rfl ?_
  refine aw_aload_n dX12_lays_0 rfl ?_
  refine aw_get dX12_lays_1 rfl fk_RX12_293 (look_I rfl : look μ 12 0 37 = aI (μ 12 0 37)) ?_
  refine aw_if_lt (tgt := 17) dX12_lays_4 (by decide) (fun c0 => ?_) (fun c0 => ?_)
  · replace h := h.1 c0
    exact h
  · replace h := h.2 c0
    refine aw_aload_n dX12_lays_7 rfl ?_
    refine aw_dup dX12_lays_8 (fun _ => rfl) ?_
    refine aw_get dX12_lays_9 rfl fk_RX12_293 (look_I rfl : look μ 12 0 37 = aI (μ 12 0 37)) ?_
    refine aw_iconst (v := (1 : Int32)) dX12_lays_12 rfl ?_
    refine aw_iadd dX12_lays_13 ?_
    refine aw_putI dX12_lays_14 rfl fk_RX12_293 (fun r h => by cases h; rfl) rfl rfl ?_
    exact h
theorem u_X12_lays_17 {Γ : cx_T} {μ : mH} {x1 : Int32} {Q : Int32 → mH → Prop} (h : (¬ x1 = 0 → (((μ 12 0 37) ≤ 0 → (Q (1 : Int32) (sto μ 12 0 37 (0 : Int32)))) ∧ (¬ (μ 12 0 37) ≤ 0 → ((((μ 12 0 37) * (μ 42 0 0)) ≤ (255 : Int32) → (vp_in (μ 12 0 36) 400 ∧ (Q (1 : Int32) (sto (sto (sto μ 62 0 (tn (μ 12 0 36)) ((μ 12 0 37) * (μ 42 0 0))) 12 0 36 ((μ 12 0 36) + (1 : Int32))) 12 0 37 (0 : Int32))))) ∧ (¬ ((μ 12 0 37) * (μ 42 0 0)) ≤ (255 : Int32) → (Q (0 : Int32) μ)))))) ∧ (x1 = 0 → (Q (1 : Int32) μ))) : aw Γ M_X12_lays 17 [aR 12 0, aI x1] [] μ (rI Q) := by
  refine aw_iload_n dX12_lays_17 rfl ?_
  refine aw_if_ne (tgt := 23) dX12_lays_18 (by decide) (fun c0 => ?_) (fun c0 => ?_)
  · replace h := h.1 c0
    refine aw_aload_n dX12_lays_23 rfl ?_
    refine aw_get dX12_lays_24 rfl fk_RX12_293 (look_I rfl : look μ 12 0 37 = aI (μ 12 0 37)) ?_
    refine aw_if_le (tgt := 79) dX12_lays_27 (by decide) (fun c0 => ?_) (fun c0 => ?_)
    · replace h := h.1 c0
      refine aw_aload_n dX12_lays_79 rfl ?_
      refine aw_iconst (v := (0 : Int32)) dX12_lays_80 rfl ?_
      refine aw_putI dX12_lays_81 rfl fk_RX12_293 (fun r h => by cases h; rfl) rfl rfl ?_
      refine aw_iconst (v := (1 : Int32)) dX12_lays_84 rfl ?_
      exact aw_iret (ty := .boolean) dX12_lays_85 rfl (by decide) ⟨_, rfl, h⟩
    · replace h := h.2 c0
      refine aw_aload_n dX12_lays_30 rfl ?_
      refine aw_get dX12_lays_31 rfl fk_RX12_293 (look_I rfl : look μ 12 0 37 = aI (μ 12 0 37)) ?_
      refine aw_aload_n dX12_lays_34 rfl ?_
      refine aw_get dX12_lays_35 rfl fk_RX12_17 (look_R rfl rfl : look _ 12 0 7 = aR 42 0) ?_
      refine aw_iconst (v := (0 : Int32)) dX12_lays_38 rfl ?_
      refine aw_ia (j := 0) (y := μ 42 0 0) dX12_lays_39 rfl (fun _ => rfl) (by unfold vp_in; decide) (by decide) (rfl) ?_
      refine aw_imul dX12_lays_40 ?_
      refine aw_sipush (v := (255 : Int32)) dX12_lays_41 rfl ?_
      refine aw_icmp_le (tgt := 49) dX12_lays_44 (by decide) (fun c0 => ?_) (fun c0 => ?_)
      · replace h := h.1 c0
        refine aw_aload_n dX12_lays_49 rfl ?_
        refine aw_get dX12_lays_50 rfl fk_RX12_78 (look_R rfl rfl : look _ 12 0 35 = aR 62 0) ?_
        refine aw_aload_n dX12_lays_53 rfl ?_
        refine aw_get dX12_lays_54 rfl fk_RX12_296 (look_I rfl : look μ 12 0 36 = aI (μ 12 0 36)) ?_
        refine aw_aload_n dX12_lays_57 rfl ?_
        refine aw_get dX12_lays_58 rfl fk_RX12_293 (look_I rfl : look μ 12 0 37 = aI (μ 12 0 37)) ?_
        refine aw_aload_n dX12_lays_61 rfl ?_
        refine aw_get dX12_lays_62 rfl fk_RX12_17 (look_R rfl rfl : look _ 12 0 7 = aR 42 0) ?_
        refine aw_iconst (v := (0 : Int32)) dX12_lays_65 rfl ?_
        refine aw_ia (j := 0) (y := μ 42 0 0) dX12_lays_66 rfl (fun _ => rfl) (by unfold vp_in; decide) (by decide) (rfl) ?_
        refine aw_imul dX12_lays_67 ?_
        refine aw_is (j := tn (μ 12 0 36)) dX12_lays_68 rfl (fun _ => rfl) h.1 rfl ?_
        replace h := h.2
        refine aw_aload_n dX12_lays_69 rfl ?_
        refine aw_dup dX12_lays_70 (fun _ => rfl) ?_
        refine aw_get dX12_lays_71 rfl fk_RX12_296 ((look_I rfl).trans (congrArg aI ((sto_K (by decide)).trans (rfl))) : look (sto μ 62 0 (tn (μ 12 0 36)) ((μ 12 0 37) * (μ 42 0 0))) 12 0 36 = aI (μ 12 0 36)) ?_
        refine aw_iconst (v := (1 : Int32)) dX12_lays_74 rfl ?_
        refine aw_iadd dX12_lays_75 ?_
        refine aw_putI dX12_lays_76 rfl fk_RX12_296 (fun r h => by cases h; rfl) rfl rfl ?_
        refine aw_aload_n dX12_lays_79 rfl ?_
        refine aw_iconst (v := (0 : Int32)) dX12_lays_80 rfl ?_
        refine aw_putI dX12_lays_81 rfl fk_RX12_293 (fun r h => by cases h; rfl) rfl rfl ?_
        refine aw_iconst (v := (1 : Int32)) dX12_lays_84 rfl ?_
        exact aw_iret (ty := .boolean) dX12_lays_85 rfl (by decide) ⟨_, rfl, h⟩
      · replace h := h.2 c0
        refine aw_iconst (v := (0 : Int32)) dX12_lays_47 rfl ?_
        exact aw_iret (ty := .boolean) dX12_lays_48 rfl (by decide) ⟨_, rfl, h⟩
  · replace h := h.2 c0
    refine aw_iconst (v := (1 : Int32)) dX12_lays_21 rfl ?_
    exact aw_iret (ty := .boolean) dX12_lays_22 rfl (by decide) ⟨_, rfl, h⟩
theorem u_X12_writes {Γ : cx_T} {μ : mH}  {Q : Int32 → mH → Prop} (h : aw Γ M_X12_writes 14 [aR 12 0, aI (1 : Int32), aI (0 : Int32), aX, aX, aX, aX, aX] [] (sto (sto μ 12 0 36 (0 : Int32)) 12 0 37 (-1 : Int32)) (rI Q)) : cwi Γ M_X12_writes [aR 12 0] μ Q := by
  refine cw_ofU (ls := [aR 12 0, aX, aX, aX, aX, aX, aX, aX]) (Or.inl (by decide)) rfl (Nat.le_of_ble_eq_true rfl) rfl ?_
  refine aw_aload_n dX12_writes_0 rfl ?_
  refine aw_iconst (v := (0 : Int32)) dX12_writes_1 rfl ?_
  refine aw_putI dX12_writes_2 rfl fk_RX12_296 (fun r h => by cases h; rfl) rfl rfl ?_
  refine aw_aload_n dX12_writes_5 rfl ?_
  refine aw_iconst (v := (-1 : Int32)) dX12_writes_6 rfl ?_
  refine aw_putI dX12_writes_7 rfl fk_RX12_293 (fun r h => by cases h; rfl) rfl rfl ?_
  refine aw_iconst (v := (1 : Int32)) dX12_writes_10 rfl ?_
  refine aw_istore_n (ls' := [aR 12 0, aI (1 : Int32), aX, aX, aX, aX, aX, aX]) dX12_writes_11 (by decide) rfl rfl ?_
  refine aw_iconst (v := (0 : Int32)) dX12_writes_12 rfl ?_
  refine aw_istore_n (ls' := [aR 12 0, aI (1 : Int32), aI (0 : Int32), aX, aX, aX, aX, aX]) dX12_writes_13 (by decide) rfl rfl ?_
  exact h
theorem u_X12_writes_14 {Γ : cx_T} {μ : mH} {x1 : Int32} {x2 : Int32} {Q : Int32 → mH → Prop} (h : ((8 : Int32) ≤ x2 → (aw Γ M_X12_writes 61 [aR 12 0, aI x1, aI (((256 : Int32) * (μ 42 0 2)) + (μ 42 0 3)), aI (15 : Int32), aX, aX, aX, aX] [] μ (rI Q))) ∧ (¬ (8 : Int32) ≤ x2 → (cwi Γ M_X12_lays [aR 12 0, aI (1 : Int32)] μ (fun r2 μ1 => cwi Γ M_X12_lays [aR 12 0, aI (0 : Int32)] μ1 (fun r4 μ3 => aw Γ M_X12_writes 14 [aR 12 0, aI (x1 &&& (r2 &&& r4)), aI (x2 + (1 : Int32)), aX, aX, aX, aX, aX] [] μ3 (rI Q)))))) : aw Γ M_X12_writes 14 [aR 12 0, aI x1, aI x2, aX, aX, aX, aX, aX] [] μ (rI Q) := by
  refine aw_iload_n dX12_writes_14 rfl ?_
  refine aw_bipush (v := (8 : Int32)) dX12_writes_15 rfl ?_
  refine aw_icmp_ge (tgt := 40) dX12_writes_17 (by decide) (fun c0 => ?_) (fun c0 => ?_)
  · replace h := h.1 c0
    refine aw_sipush (v := (256 : Int32)) dX12_writes_40 rfl ?_
    refine aw_aload_n dX12_writes_43 rfl ?_
    refine aw_get dX12_writes_44 rfl fk_RX12_17 (look_R rfl rfl : look _ 12 0 7 = aR 42 0) ?_
    refine aw_iconst (v := (2 : Int32)) dX12_writes_47 rfl ?_
    refine aw_ia (j := 2) (y := μ 42 0 2) dX12_writes_48 rfl (fun _ => rfl) (by unfold vp_in; decide) (by decide) (rfl) ?_
    refine aw_imul dX12_writes_49 ?_
    refine aw_aload_n dX12_writes_50 rfl ?_
    refine aw_get dX12_writes_51 rfl fk_RX12_17 (look_R rfl rfl : look _ 12 0 7 = aR 42 0) ?_
    refine aw_iconst (v := (3 : Int32)) dX12_writes_54 rfl ?_
    refine aw_ia (j := 3) (y := μ 42 0 3) dX12_writes_55 rfl (fun _ => rfl) (by unfold vp_in; decide) (by decide) (rfl) ?_
    refine aw_iadd dX12_writes_56 ?_
    refine aw_istore_n (ls' := [aR 12 0, aI x1, aI (((256 : Int32) * (μ 42 0 2)) + (μ 42 0 3)), aX, aX, aX, aX, aX]) dX12_writes_57 (by decide) rfl rfl ?_
    refine aw_bipush (v := (15 : Int32)) dX12_writes_58 rfl ?_
    refine aw_istore_n (ls' := [aR 12 0, aI x1, aI (((256 : Int32) * (μ 42 0 2)) + (μ 42 0 3)), aI (15 : Int32), aX, aX, aX, aX]) dX12_writes_60 (by decide) rfl rfl ?_
    exact h
  · replace h := h.2 c0
    refine aw_iload_n dX12_writes_20 rfl ?_
    refine aw_aload_n dX12_writes_21 rfl ?_
    refine aw_iconst (v := (1 : Int32)) dX12_writes_22 rfl ?_
    refine aw_callV (M' := M_X12_lays) (K := 12) (i := 0) (vs := [aI (1 : Int32)]) (st := [aI x1]) dX12_writes_23 mk_X12_lays mi_X12_lays ml_RX12_299 mp_X12_lays rc_12 rm_X12_writes__X12_lays (Nat.le_of_ble_eq_true rfl) rfl (cw_mono h ?_)
    clear h
    rintro _ μ1 ⟨r2, rfl, h⟩
    show aw Γ M_X12_writes 26 [aR 12 0, aI x1, aI x2, aX, aX, aX, aX, aX] [aI r2, aI x1] μ1 (rI Q)
    refine aw_aload_n dX12_writes_26 rfl ?_
    refine aw_iconst (v := (0 : Int32)) dX12_writes_27 rfl ?_
    refine aw_callV (M' := M_X12_lays) (K := 12) (i := 0) (vs := [aI (0 : Int32)]) (st := [aI r2, aI x1]) dX12_writes_28 mk_X12_lays mi_X12_lays ml_RX12_299 mp_X12_lays rc_12 rm_X12_writes__X12_lays (Nat.le_of_ble_eq_true rfl) rfl (cw_mono h ?_)
    clear h
    rintro _ μ3 ⟨r4, rfl, h⟩
    show aw Γ M_X12_writes 31 [aR 12 0, aI x1, aI x2, aX, aX, aX, aX, aX] [aI r4, aI r2, aI x1] μ3 (rI Q)
    refine aw_iand dX12_writes_31 ?_
    refine aw_iand dX12_writes_32 ?_
    refine aw_istore_n (ls' := [aR 12 0, aI (x1 &&& (r2 &&& r4)), aI x2, aX, aX, aX, aX, aX]) dX12_writes_33 (by decide) rfl rfl ?_
    refine aw_iinc (v := x2 + (1 : Int32)) (ls' := [aR 12 0, aI (x1 &&& (r2 &&& r4)), aI (x2 + (1 : Int32)), aX, aX, aX, aX, aX]) dX12_writes_34 rfl rfl (by decide) rfl rfl ?_
    refine aw_goto (tgt := 14) dX12_writes_37 (by decide) ?_
    exact h
theorem u_X12_writes_61 {Γ : cx_T} {μ : mH} {x1 : Int32} {x2 : Int32} {x3 : Int32} {Q : Int32 → mH → Prop} (h : (x3 < 0 → (aw Γ M_X12_writes 85 [aR 12 0, aI x1, aX, aI (0 : Int32), aX, aX, aX, aX] [] μ (rI Q))) ∧ (¬ x3 < 0 → (cwi Γ M_X12_bitOf [aI x2, aI x3] μ (fun r2 μ1 => cwi Γ M_X12_lays [aR 12 0, aI r2] μ1 (fun r4 μ3 => aw Γ M_X12_writes 61 [aR 12 0, aI (x1 &&& r4), aI x2, aI (x3 + (-1 : Int32)), aX, aX, aX, aX] [] μ3 (rI Q)))))) : aw Γ M_X12_writes 61 [aR 12 0, aI x1, aI x2, aI x3, aX, aX, aX, aX] [] μ (rI Q) := by
  refine aw_iload_n dX12_writes_61 rfl ?_
  refine aw_if_lt (tgt := 83) dX12_writes_62 (by decide) (fun c0 => ?_) (fun c0 => ?_)
  · replace h := h.1 c0
    refine aw_iconst (v := (0 : Int32)) dX12_writes_83 rfl ?_
    refine aw_istore_n (ls' := [aR 12 0, aI x1, aI x2, aI (0 : Int32), aX, aX, aX, aX]) dX12_writes_84 (by decide) rfl rfl ?_
    exact aw_wkk h (wk_e (wk_e (wk_x (wk_e (wk_e (wk_e (wk_e (wk_e wk_n))))))))
  · replace h := h.2 c0
    refine aw_iload_n dX12_writes_65 rfl ?_
    refine aw_aload_n dX12_writes_66 rfl ?_
    refine aw_iload_n dX12_writes_67 rfl ?_
    refine aw_iload_n dX12_writes_68 rfl ?_
    refine aw_callS (M' := M_X12_bitOf) (vs := [aI x2, aI x3]) (st := [aR 12 0, aI x1]) dX12_writes_69 mk_X12_bitOf ms_X12_bitOf ml_RX12_198 mp_X12_bitOf rm_X12_writes__X12_bitOf (Nat.le_of_ble_eq_true rfl) rfl (cw_mono h ?_)
    clear h
    rintro _ μ1 ⟨r2, rfl, h⟩
    show aw Γ M_X12_writes 72 [aR 12 0, aI x1, aI x2, aI x3, aX, aX, aX, aX] [aI r2, aR 12 0, aI x1] μ1 (rI Q)
    refine aw_callV (M' := M_X12_lays) (K := 12) (i := 0) (vs := [aI r2]) (st := [aI x1]) dX12_writes_72 mk_X12_lays mi_X12_lays ml_RX12_299 mp_X12_lays rc_12 rm_X12_writes__X12_lays (Nat.le_of_ble_eq_true rfl) rfl (cw_mono h ?_)
    clear h
    rintro _ μ3 ⟨r4, rfl, h⟩
    show aw Γ M_X12_writes 75 [aR 12 0, aI x1, aI x2, aI x3, aX, aX, aX, aX] [aI r4, aI x1] μ3 (rI Q)
    refine aw_iand dX12_writes_75 ?_
    refine aw_istore_n (ls' := [aR 12 0, aI (x1 &&& r4), aI x2, aI x3, aX, aX, aX, aX]) dX12_writes_76 (by decide) rfl rfl ?_
    refine aw_iinc (v := x3 + (-1 : Int32)) (ls' := [aR 12 0, aI (x1 &&& r4), aI x2, aI (x3 + (-1 : Int32)), aX, aX, aX, aX]) dX12_writes_77 rfl rfl (by decide) rfl rfl ?_
    refine aw_goto (tgt := 61) dX12_writes_80 (by decide) ?_
    exact h
theorem u_X12_writes_85 {Γ : cx_T} {μ : mH} {x1 : Int32} {x3 : Int32} {Q : Int32 → mH → Prop} (h : cwi Γ M_X12_many [aR 12 0] μ (fun r2 μ1 => (r2 ≤ x3 → (cwi Γ M_X12_sumOf [aR 12 0] μ1 (fun r4 μ3 => cwi Γ M_X12_many [aR 12 0] μ3 (fun r6 μ5 => vp_in (r6 - (2 : Int32)) 12 ∧ (cwi Γ M_X12_many [aR 12 0] (sto μ5 57 0 (tn (r6 - (2 : Int32))) (r4 / (256 : Int32))) (fun r8 μ7 => vp_in (r8 - (1 : Int32)) 12 ∧ (cwi Γ M_X12_bitOf [aI (μ7 42 0 3), aI (0 : Int32)] (sto μ7 57 0 (tn (r8 - (1 : Int32))) (r4 - r4 / (256 : Int32) * (256 : Int32))) (fun r10 μ9 => aw Γ M_X12_writes 163 [aR 12 0, aI x1, aX, aX, aI r10, aI (0 : Int32), aX, aX] [] μ9 (rI Q))))))))) ∧ (¬ r2 ≤ x3 → (vp_in x3 12 ∧ (vp_in x3 12 ∧ (aw Γ M_X12_writes 85 [aR 12 0, aI x1, aX, aI (x3 + (1 : Int32)), aX, aX, aX, aX] [] (sto μ1 54 0 (tn x3) (μ1 57 0 (tn x3))) (rI Q))))))) : aw Γ M_X12_writes 85 [aR 12 0, aI x1, aX, aI x3, aX, aX, aX, aX] [] μ (rI Q) := by
  refine aw_iload_n dX12_writes_85 rfl ?_
  refine aw_aload_n dX12_writes_86 rfl ?_
  refine aw_callV (M' := M_X12_many) (K := 12) (i := 0) (vs := []) (st := [aI x3]) dX12_writes_87 mk_X12_many mi_X12_many ml_RX12_204 mp_X12_many rc_12 rm_X12_writes__X12_many (Nat.le_of_ble_eq_true rfl) rfl (cw_mono h ?_)
  clear h
  rintro _ μ1 ⟨r2, rfl, h⟩
  show aw Γ M_X12_writes 90 [aR 12 0, aI x1, aX, aI x3, aX, aX, aX, aX] [aI r2, aI x3] μ1 (rI Q)
  refine aw_icmp_ge (tgt := 111) dX12_writes_90 (by decide) (fun c0 => ?_) (fun c0 => ?_)
  · replace h := h.1 c0
    refine aw_aload_n dX12_writes_111 rfl ?_
    refine aw_callV (M' := M_X12_sumOf) (K := 12) (i := 0) (vs := []) (st := []) dX12_writes_112 mk_X12_sumOf mi_X12_sumOf ml_RX12_214 mp_X12_sumOf rc_12 rm_X12_writes__X12_sumOf (Nat.le_of_ble_eq_true rfl) rfl (cw_mono h ?_)
    clear h
    rintro _ μ3 ⟨r4, rfl, h⟩
    show aw Γ M_X12_writes 115 [aR 12 0, aI x1, aX, aI x3, aX, aX, aX, aX] [aI r4] μ3 (rI Q)
    refine aw_istore_n (ls' := [aR 12 0, aI x1, aX, aI r4, aX, aX, aX, aX]) dX12_writes_115 (by decide) rfl rfl ?_
    refine aw_aload_n dX12_writes_116 rfl ?_
    refine aw_get dX12_writes_117 rfl fk_RX12_63 (look_R rfl rfl : look _ 12 0 29 = aR 57 0) ?_
    refine aw_aload_n dX12_writes_120 rfl ?_
    refine aw_callV (M' := M_X12_many) (K := 12) (i := 0) (vs := []) (st := [aR 57 0]) dX12_writes_121 mk_X12_many mi_X12_many ml_RX12_204 mp_X12_many rc_12 rm_X12_writes__X12_many (Nat.le_of_ble_eq_true rfl) rfl (cw_mono h ?_)
    clear h
    rintro _ μ5 ⟨r6, rfl, h⟩
    show aw Γ M_X12_writes 124 [aR 12 0, aI x1, aX, aI r4, aX, aX, aX, aX] [aI r6, aR 57 0] μ5 (rI Q)
    refine aw_iconst (v := (2 : Int32)) dX12_writes_124 rfl ?_
    refine aw_isub dX12_writes_125 ?_
    refine aw_iload_n dX12_writes_126 rfl ?_
    refine aw_sipush (v := (256 : Int32)) dX12_writes_127 rfl ?_
    refine aw_idiv dX12_writes_130 (by decide) ?_
    refine aw_is (j := tn (r6 - (2 : Int32))) dX12_writes_131 rfl (fun _ => rfl) h.1 rfl ?_
    replace h := h.2
    refine aw_aload_n dX12_writes_132 rfl ?_
    refine aw_get dX12_writes_133 rfl fk_RX12_63 (look_R rfl rfl : look _ 12 0 29 = aR 57 0) ?_
    refine aw_aload_n dX12_writes_136 rfl ?_
    refine aw_callV (M' := M_X12_many) (K := 12) (i := 0) (vs := []) (st := [aR 57 0]) dX12_writes_137 mk_X12_many mi_X12_many ml_RX12_204 mp_X12_many rc_12 rm_X12_writes__X12_many (Nat.le_of_ble_eq_true rfl) rfl (cw_mono h ?_)
    clear h
    rintro _ μ7 ⟨r8, rfl, h⟩
    show aw Γ M_X12_writes 140 [aR 12 0, aI x1, aX, aI r4, aX, aX, aX, aX] [aI r8, aR 57 0] μ7 (rI Q)
    refine aw_iconst (v := (1 : Int32)) dX12_writes_140 rfl ?_
    refine aw_isub dX12_writes_141 ?_
    refine aw_iload_n dX12_writes_142 rfl ?_
    refine aw_sipush (v := (256 : Int32)) dX12_writes_143 rfl ?_
    refine aw_irem dX12_writes_146 (by decide) ?_
    refine aw_is (j := tn (r8 - (1 : Int32))) dX12_writes_147 rfl (fun _ => rfl) h.1 rfl ?_
    replace h := h.2
    refine aw_aload_n dX12_writes_148 rfl ?_
    refine aw_get dX12_writes_149 rfl fk_RX12_17 (look_R rfl rfl : look _ 12 0 7 = aR 42 0) ?_
    refine aw_iconst (v := (3 : Int32)) dX12_writes_152 rfl ?_
    refine aw_ia (j := 3) (y := μ7 42 0 3) dX12_writes_153 rfl (fun _ => rfl) (by unfold vp_in; decide) (by decide) ((sto_K (by decide)).trans (rfl)) ?_
    refine aw_iconst (v := (0 : Int32)) dX12_writes_154 rfl ?_
    refine aw_callS (M' := M_X12_bitOf) (vs := [aI (μ7 42 0 3), aI (0 : Int32)]) (st := []) dX12_writes_155 mk_X12_bitOf ms_X12_bitOf ml_RX12_198 mp_X12_bitOf rm_X12_writes__X12_bitOf (Nat.le_of_ble_eq_true rfl) rfl (cw_mono h ?_)
    clear h
    rintro _ μ9 ⟨r10, rfl, h⟩
    show aw Γ M_X12_writes 158 [aR 12 0, aI x1, aX, aI r4, aX, aX, aX, aX] [aI r10] μ9 (rI Q)
    refine aw_istore (ls' := [aR 12 0, aI x1, aX, aI r4, aI r10, aX, aX, aX]) dX12_writes_158 (by decide) rfl rfl ?_
    refine aw_iconst (v := (0 : Int32)) dX12_writes_160 rfl ?_
    refine aw_istore (ls' := [aR 12 0, aI x1, aX, aI r4, aI r10, aI (0 : Int32), aX, aX]) dX12_writes_161 (by decide) rfl rfl ?_
    exact aw_wkk h (wk_e (wk_e (wk_e (wk_x (wk_e (wk_e (wk_e (wk_e wk_n))))))))
  · replace h := h.2 c0
    refine aw_aload_n dX12_writes_93 rfl ?_
    refine aw_get dX12_writes_94 rfl fk_RX12_54 (look_R rfl rfl : look _ 12 0 25 = aR 54 0) ?_
    refine aw_iload_n dX12_writes_97 rfl ?_
    refine aw_aload_n dX12_writes_98 rfl ?_
    refine aw_get dX12_writes_99 rfl fk_RX12_63 (look_R rfl rfl : look _ 12 0 29 = aR 57 0) ?_
    refine aw_iload_n dX12_writes_102 rfl ?_
    refine aw_ia (j := tn x3) (y := μ1 57 0 (tn x3)) dX12_writes_103 rfl (fun _ => rfl) h.1 rfl (rfl) ?_
    replace h := h.2
    refine aw_is (j := tn x3) dX12_writes_104 rfl (fun _ => rfl) h.1 rfl ?_
    replace h := h.2
    refine aw_iinc (v := x3 + (1 : Int32)) (ls' := [aR 12 0, aI x1, aX, aI (x3 + (1 : Int32)), aX, aX, aX, aX]) dX12_writes_105 rfl rfl (by decide) rfl rfl ?_
    refine aw_goto (tgt := 85) dX12_writes_108 (by decide) ?_
    exact h
theorem u_X12_writes_163 {Γ : cx_T} {μ : mH} {x1 : Int32} {x4 : Int32} {x5 : Int32} {Q : Int32 → mH → Prop} (h : cwi Γ M_X12_many [aR 12 0] μ (fun r2 μ1 => (r2 ≤ x5 → (cwi Γ M_X12_lays [aR 12 0, aI (1 : Int32)] μ1 (fun r4 μ3 => ((x1 &&& r4) = 0 ∨ (x1 &&& r4) = 1) ∧ Q (x1 &&& r4) μ3))) ∧ (¬ r2 ≤ x5 → (aw Γ M_X12_writes 176 [aR 12 0, aI x1, aX, aX, aI x4, aI x5, aI (7 : Int32), aX] [] μ1 (rI Q))))) : aw Γ M_X12_writes 163 [aR 12 0, aI x1, aX, aX, aI x4, aI x5, aX, aX] [] μ (rI Q) := by
  refine aw_iload dX12_writes_163 rfl ?_
  refine aw_aload_n dX12_writes_165 rfl ?_
  refine aw_callV (M' := M_X12_many) (K := 12) (i := 0) (vs := []) (st := [aI x5]) dX12_writes_166 mk_X12_many mi_X12_many ml_RX12_204 mp_X12_many rc_12 rm_X12_writes__X12_many (Nat.le_of_ble_eq_true rfl) rfl (cw_mono h ?_)
  clear h
  rintro _ μ1 ⟨r2, rfl, h⟩
  show aw Γ M_X12_writes 169 [aR 12 0, aI x1, aX, aX, aI x4, aI x5, aX, aX] [aI r2, aI x5] μ1 (rI Q)
  refine aw_icmp_ge (tgt := 242) dX12_writes_169 (by decide) (fun c0 => ?_) (fun c0 => ?_)
  · replace h := h.1 c0
    refine aw_iload_n dX12_writes_242 rfl ?_
    refine aw_aload_n dX12_writes_243 rfl ?_
    refine aw_iconst (v := (1 : Int32)) dX12_writes_244 rfl ?_
    refine aw_callV (M' := M_X12_lays) (K := 12) (i := 0) (vs := [aI (1 : Int32)]) (st := [aI x1]) dX12_writes_245 mk_X12_lays mi_X12_lays ml_RX12_299 mp_X12_lays rc_12 rm_X12_writes__X12_lays (Nat.le_of_ble_eq_true rfl) rfl (cw_mono h ?_)
    clear h
    rintro _ μ3 ⟨r4, rfl, h⟩
    show aw Γ M_X12_writes 248 [aR 12 0, aI x1, aX, aX, aI x4, aI x5, aX, aX] [aI r4, aI x1] μ3 (rI Q)
    refine aw_iand dX12_writes_248 ?_
    exact aw_iret (ty := .boolean) dX12_writes_249 rfl (nar_z h.1).1 ⟨_, rfl, h.2⟩
  · replace h := h.2 c0
    refine aw_bipush (v := (7 : Int32)) dX12_writes_172 rfl ?_
    refine aw_istore (ls' := [aR 12 0, aI x1, aX, aX, aI x4, aI x5, aI (7 : Int32), aX]) dX12_writes_174 (by decide) rfl rfl ?_
    exact h
theorem u_X12_writes_176 {Γ : cx_T} {μ : mH} {x1 : Int32} {x4 : Int32} {x5 : Int32} {x6 : Int32} {Q : Int32 → mH → Prop} (h : (x6 < 0 → (aw Γ M_X12_writes 163 [aR 12 0, aI x1, aX, aX, aI x4, aI (x5 + (1 : Int32)), aX, aX] [] μ (rI Q))) ∧ (¬ x6 < 0 → (vp_in x5 12 ∧ (cwi Γ M_X12_bitOf [aI (μ 57 0 (tn x5)), aI x6] μ (fun r2 μ1 => (¬ x4 = 0 → (aw Γ M_X12_writes 212 [aR 12 0, aX, aX, aX, aX, aI x5, aI x6, aI r2] [aI (0 : Int32), aR 12 0, aI x1] μ1 (rI Q))) ∧ (x4 = 0 → ((¬ r2 = 0 → (aw Γ M_X12_writes 212 [aR 12 0, aX, aX, aX, aX, aI x5, aI x6, aI r2] [aI (0 : Int32), aR 12 0, aI x1] μ1 (rI Q))) ∧ (r2 = 0 → (aw Γ M_X12_writes 212 [aR 12 0, aX, aX, aX, aX, aI x5, aI x6, aI r2] [aI (1 : Int32), aR 12 0, aI x1] μ1 (rI Q)))))))))) : aw Γ M_X12_writes 176 [aR 12 0, aI x1, aX, aX, aI x4, aI x5, aI x6, aX] [] μ (rI Q) := by
  refine aw_iload dX12_writes_176 rfl ?_
  refine aw_if_lt (tgt := 236) dX12_writes_178 (by decide) (fun c0 => ?_) (fun c0 => ?_)
  · replace h := h.1 c0
    refine aw_iinc (v := x5 + (1 : Int32)) (ls' := [aR 12 0, aI x1, aX, aX, aI x4, aI (x5 + (1 : Int32)), aI x6, aX]) dX12_writes_236 rfl rfl (by decide) rfl rfl ?_
    refine aw_goto (tgt := 163) dX12_writes_239 (by decide) ?_
    exact aw_wkk h (wk_e (wk_e (wk_e (wk_e (wk_e (wk_e (wk_x (wk_e wk_n))))))))
  · replace h := h.2 c0
    refine aw_aload_n dX12_writes_181 rfl ?_
    refine aw_get dX12_writes_182 rfl fk_RX12_63 (look_R rfl rfl : look _ 12 0 29 = aR 57 0) ?_
    refine aw_iload dX12_writes_185 rfl ?_
    refine aw_ia (j := tn x5) (y := μ 57 0 (tn x5)) dX12_writes_187 rfl (fun _ => rfl) h.1 rfl (rfl) ?_
    replace h := h.2
    refine aw_iload dX12_writes_188 rfl ?_
    refine aw_callS (M' := M_X12_bitOf) (vs := [aI (μ 57 0 (tn x5)), aI x6]) (st := []) dX12_writes_190 mk_X12_bitOf ms_X12_bitOf ml_RX12_198 mp_X12_bitOf rm_X12_writes__X12_bitOf (Nat.le_of_ble_eq_true rfl) rfl (cw_mono h ?_)
    clear h
    rintro _ μ1 ⟨r2, rfl, h⟩
    show aw Γ M_X12_writes 193 [aR 12 0, aI x1, aX, aX, aI x4, aI x5, aI x6, aX] [aI r2] μ1 (rI Q)
    refine aw_istore (ls' := [aR 12 0, aI x1, aX, aX, aI x4, aI x5, aI x6, aI r2]) dX12_writes_193 (by decide) rfl rfl ?_
    refine aw_iload_n dX12_writes_195 rfl ?_
    refine aw_aload_n dX12_writes_196 rfl ?_
    refine aw_iload dX12_writes_197 rfl ?_
    refine aw_if_ne (tgt := 211) dX12_writes_199 (by decide) (fun c0 => ?_) (fun c0 => ?_)
    · replace h := h.1 c0
      refine aw_iconst (v := (0 : Int32)) dX12_writes_211 rfl ?_
      exact aw_wkk h (wk_e (wk_x (wk_e (wk_e (wk_x (wk_e (wk_e (wk_e wk_n))))))))
    · replace h := h.2 c0
      refine aw_iload dX12_writes_202 rfl ?_
      refine aw_if_ne (tgt := 211) dX12_writes_204 (by decide) (fun c0 => ?_) (fun c0 => ?_)
      · replace h := h.1 c0
        refine aw_iconst (v := (0 : Int32)) dX12_writes_211 rfl ?_
        exact aw_wkk h (wk_e (wk_x (wk_e (wk_e (wk_x (wk_e (wk_e (wk_e wk_n))))))))
      · replace h := h.2 c0
        refine aw_iconst (v := (1 : Int32)) dX12_writes_207 rfl ?_
        refine aw_goto (tgt := 212) dX12_writes_208 (by decide) ?_
        exact aw_wkk h (wk_e (wk_x (wk_e (wk_e (wk_x (wk_e (wk_e (wk_e wk_n))))))))
theorem u_X12_writes_212 {Γ : cx_T} {μ : mH} {x5 : Int32} {x6 : Int32} {x7 : Int32} {y0 : Int32} {y2 : Int32} {Q : Int32 → mH → Prop} (h : cwi Γ M_X12_lays [aR 12 0, aI y0] μ (fun r2 μ1 => cwi Γ M_X12_lays [aR 12 0, aI x7] μ1 (fun r4 μ3 => aw Γ M_X12_writes 176 [aR 12 0, aI ((y2 &&& r2) &&& r4), aX, aX, aI x7, aI x5, aI (x6 + (-1 : Int32)), aX] [] μ3 (rI Q)))) : aw Γ M_X12_writes 212 [aR 12 0, aX, aX, aX, aX, aI x5, aI x6, aI x7] [aI y0, aR 12 0, aI y2] μ (rI Q) := by
  refine aw_callV (M' := M_X12_lays) (K := 12) (i := 0) (vs := [aI y0]) (st := [aI y2]) dX12_writes_212 mk_X12_lays mi_X12_lays ml_RX12_299 mp_X12_lays rc_12 rm_X12_writes__X12_lays (Nat.le_of_ble_eq_true rfl) rfl (cw_mono h ?_)
  clear h
  rintro _ μ1 ⟨r2, rfl, h⟩
  show aw Γ M_X12_writes 215 [aR 12 0, aX, aX, aX, aX, aI x5, aI x6, aI x7] [aI r2, aI y2] μ1 (rI Q)
  refine aw_iand dX12_writes_215 ?_
  refine aw_istore_n (ls' := [aR 12 0, aI (y2 &&& r2), aX, aX, aX, aI x5, aI x6, aI x7]) dX12_writes_216 (by decide) rfl rfl ?_
  refine aw_iload_n dX12_writes_217 rfl ?_
  refine aw_aload_n dX12_writes_218 rfl ?_
  refine aw_iload dX12_writes_219 rfl ?_
  refine aw_callV (M' := M_X12_lays) (K := 12) (i := 0) (vs := [aI x7]) (st := [aI (y2 &&& r2)]) dX12_writes_221 mk_X12_lays mi_X12_lays ml_RX12_299 mp_X12_lays rc_12 rm_X12_writes__X12_lays (Nat.le_of_ble_eq_true rfl) rfl (cw_mono h ?_)
  clear h
  rintro _ μ3 ⟨r4, rfl, h⟩
  show aw Γ M_X12_writes 224 [aR 12 0, aI (y2 &&& r2), aX, aX, aX, aI x5, aI x6, aI x7] [aI r4, aI (y2 &&& r2)] μ3 (rI Q)
  refine aw_iand dX12_writes_224 ?_
  refine aw_istore_n (ls' := [aR 12 0, aI ((y2 &&& r2) &&& r4), aX, aX, aX, aI x5, aI x6, aI x7]) dX12_writes_225 (by decide) rfl rfl ?_
  refine aw_iload dX12_writes_226 rfl ?_
  refine aw_istore (ls' := [aR 12 0, aI ((y2 &&& r2) &&& r4), aX, aX, aI x7, aI x5, aI x6, aI x7]) dX12_writes_228 (by decide) rfl rfl ?_
  refine aw_iinc (v := x6 + (-1 : Int32)) (ls' := [aR 12 0, aI ((y2 &&& r2) &&& r4), aX, aX, aI x7, aI x5, aI (x6 + (-1 : Int32)), aI x7]) dX12_writes_230 rfl rfl (by decide) rfl rfl ?_
  refine aw_goto (tgt := 176) dX12_writes_233 (by decide) ?_
  exact aw_wkk h (wk_e (wk_e (wk_e (wk_e (wk_e (wk_e (wk_e (wk_x wk_n))))))))
theorem u_X12_written {Γ : cx_T} {μ : mH} {x1 : Int32} {x2 : Int32} {x3 : Int32} {Q : Int32 → mH → Prop} (h : cwi Γ M_X12_isSector [aR 12 0, aI x1, aI x2] μ (fun r2 μ1 => (r2 = 0 → (Q (-1 : Int32) μ1)) ∧ (¬ r2 = 0 → (cwi Γ M_X12_statusOf [aR 12 0, aI x1, aI x2] μ1 (fun r4 μ3 => cwi Γ M_X12_isWhole [aI r4] μ3 (fun r6 μ5 => (r6 = 0 → (Q (-1 : Int32) μ5)) ∧ (¬ r6 = 0 → (cwi Γ M_X12_writes [aR 12 0] μ5 (fun r8 μ7 => (¬ r8 = 0 → ((¬ x3 = (-1 : Int32) → (cwi Γ M_X12_in [aI x3, aI (0 : Int32), aI ((μ7 12 0 36) - (1 : Int32))] μ7 (fun r10 μ9 => (r10 = 0 → (Q (-1 : Int32) μ9)) ∧ (¬ r10 = 0 → (vp_in x3 400 ∧ (Q (μ9 62 0 (tn x3)) μ9)))))) ∧ (x3 = (-1 : Int32) → (Q (μ7 12 0 36) μ7)))) ∧ (r8 = 0 → (Q (-1 : Int32) μ7))))))))))) : cwi Γ M_X12_written [aR 12 0, aI x1, aI x2, aI x3] μ Q := by
  refine cw_ofU (ls := [aR 12 0, aI x1, aI x2, aI x3]) (Or.inl (by decide)) rfl (Nat.le_of_ble_eq_true rfl) rfl ?_
  refine aw_aload_n dX12_written_0 rfl ?_
  refine aw_iload_n dX12_written_1 rfl ?_
  refine aw_iload_n dX12_written_2 rfl ?_
  refine aw_callV (M' := M_X12_isSector) (K := 12) (i := 0) (vs := [aI x1, aI x2]) (st := []) dX12_written_3 mk_X12_isSector mi_X12_isSector ml_RX12_256 mp_X12_isSector rc_12 rm_X12_written__X12_isSector (Nat.le_of_ble_eq_true rfl) rfl (cw_mono h ?_)
  clear h
  rintro _ μ1 ⟨r2, rfl, h⟩
  show aw Γ M_X12_written 6 [aR 12 0, aI x1, aI x2, aI x3] [aI r2] μ1 (rI Q)
  refine aw_if_eq (tgt := 28) dX12_written_6 (by decide) (fun c0 => ?_) (fun c0 => ?_)
  · replace h := h.1 c0
    refine aw_iconst (v := (-1 : Int32)) dX12_written_28 rfl ?_
    exact aw_iret dX12_written_29 rfl rfl ⟨_, rfl, h⟩
  · replace h := h.2 c0
    refine aw_aload_n dX12_written_9 rfl ?_
    refine aw_iload_n dX12_written_10 rfl ?_
    refine aw_iload_n dX12_written_11 rfl ?_
    refine aw_callV (M' := M_X12_statusOf) (K := 12) (i := 0) (vs := [aI x1, aI x2]) (st := []) dX12_written_12 mk_X12_statusOf mi_X12_statusOf ml_RX12_259 mp_X12_statusOf rc_12 rm_X12_written__X12_statusOf (Nat.le_of_ble_eq_true rfl) rfl (cw_mono h ?_)
    clear h
    rintro _ μ3 ⟨r4, rfl, h⟩
    show aw Γ M_X12_written 15 [aR 12 0, aI x1, aI x2, aI x3] [aI r4] μ3 (rI Q)
    refine aw_callS (M' := M_X12_isWhole) (vs := [aI r4]) (st := []) dX12_written_15 mk_X12_isWhole ms_X12_isWhole ml_RX12_262 mp_X12_isWhole rm_X12_written__X12_isWhole (Nat.le_of_ble_eq_true rfl) rfl (cw_mono h ?_)
    clear h
    rintro _ μ5 ⟨r6, rfl, h⟩
    show aw Γ M_X12_written 18 [aR 12 0, aI x1, aI x2, aI x3] [aI r6] μ5 (rI Q)
    refine aw_if_eq (tgt := 28) dX12_written_18 (by decide) (fun c0 => ?_) (fun c0 => ?_)
    · replace h := h.1 c0
      refine aw_iconst (v := (-1 : Int32)) dX12_written_28 rfl ?_
      exact aw_iret dX12_written_29 rfl rfl ⟨_, rfl, h⟩
    · replace h := h.2 c0
      refine aw_aload_n dX12_written_21 rfl ?_
      refine aw_callV (M' := M_X12_writes) (K := 12) (i := 0) (vs := []) (st := []) dX12_written_22 mk_X12_writes mi_X12_writes ml_RX12_302 mp_X12_writes rc_12 rm_X12_written__X12_writes (Nat.le_of_ble_eq_true rfl) rfl (cw_mono h ?_)
      clear h
      rintro _ μ7 ⟨r8, rfl, h⟩
      show aw Γ M_X12_written 25 [aR 12 0, aI x1, aI x2, aI x3] [aI r8] μ7 (rI Q)
      refine aw_if_ne (tgt := 30) dX12_written_25 (by decide) (fun c0 => ?_) (fun c0 => ?_)
      · replace h := h.1 c0
        refine aw_iload_n dX12_written_30 rfl ?_
        refine aw_iconst (v := (-1 : Int32)) dX12_written_31 rfl ?_
        refine aw_icmp_ne (tgt := 42) dX12_written_32 (by decide) (fun c0 => ?_) (fun c0 => ?_)
        · replace h := h.1 c0
          refine aw_iload_n dX12_written_42 rfl ?_
          refine aw_iconst (v := (0 : Int32)) dX12_written_43 rfl ?_
          refine aw_aload_n dX12_written_44 rfl ?_
          refine aw_get dX12_written_45 rfl fk_RX12_296 (look_I rfl : look μ7 12 0 36 = aI (μ7 12 0 36)) ?_
          refine aw_iconst (v := (1 : Int32)) dX12_written_48 rfl ?_
          refine aw_isub dX12_written_49 ?_
          refine aw_callS (M' := M_X12_in) (vs := [aI x3, aI (0 : Int32), aI ((μ7 12 0 36) - (1 : Int32))]) (st := []) dX12_written_50 mk_X12_in ms_X12_in ml_RX12_85 mp_X12_in rm_X12_written__X12_in (Nat.le_of_ble_eq_true rfl) rfl (cw_mono h ?_)
          clear h
          rintro _ μ9 ⟨r10, rfl, h⟩
          show aw Γ M_X12_written 53 [aR 12 0, aI x1, aI x2, aI x3] [aI r10] μ9 (rI Q)
          refine aw_if_eq (tgt := 65) dX12_written_53 (by decide) (fun c0 => ?_) (fun c0 => ?_)
          · replace h := h.1 c0
            refine aw_iconst (v := (-1 : Int32)) dX12_written_65 rfl ?_
            exact aw_iret dX12_written_66 rfl rfl ⟨_, rfl, h⟩
          · replace h := h.2 c0
            refine aw_aload_n dX12_written_56 rfl ?_
            refine aw_get dX12_written_57 rfl fk_RX12_78 (look_R rfl rfl : look _ 12 0 35 = aR 62 0) ?_
            refine aw_iload_n dX12_written_60 rfl ?_
            refine aw_ia (j := tn x3) (y := μ9 62 0 (tn x3)) dX12_written_61 rfl (fun _ => rfl) h.1 rfl (rfl) ?_
            replace h := h.2
            refine aw_goto (tgt := 66) dX12_written_62 (by decide) ?_
            exact aw_iret dX12_written_66 rfl rfl ⟨_, rfl, h⟩
        · replace h := h.2 c0
          refine aw_aload_n dX12_written_35 rfl ?_
          refine aw_get dX12_written_36 rfl fk_RX12_296 (look_I rfl : look μ7 12 0 36 = aI (μ7 12 0 36)) ?_
          refine aw_goto (tgt := 66) dX12_written_39 (by decide) ?_
          exact aw_iret dX12_written_66 rfl rfl ⟨_, rfl, h⟩
      · replace h := h.2 c0
        refine aw_iconst (v := (-1 : Int32)) dX12_written_28 rfl ?_
        exact aw_iret dX12_written_29 rfl rfl ⟨_, rfl, h⟩
theorem u_X12_count {Γ : cx_T} {μ : mH} {x1 : Int32} {Q : Int32 → mH → Prop} (h : (x1 = (0 : Int32) → (Q (μ 42 0 4) μ)) ∧ (x1 = (1 : Int32) → (Q (μ 42 0 0) μ)) ∧ (x1 = (2 : Int32) → (Q (μ 42 0 1) μ)) ∧ (x1 = (3 : Int32) → (Q (μ 12 0 11) μ)) ∧ (x1 = (4 : Int32) → (Q (μ 12 0 9) μ)) ∧ (x1 = (5 : Int32) → (Q (μ 12 0 16) μ)) ∧ (x1 = (6 : Int32) → (Q (μ 12 0 1) μ)) ∧ (¬ x1 = (0 : Int32) → ¬ x1 = (1 : Int32) → ¬ x1 = (2 : Int32) → ¬ x1 = (3 : Int32) → ¬ x1 = (4 : Int32) → ¬ x1 = (5 : Int32) → ¬ x1 = (6 : Int32) → (Q (-1 : Int32) μ))) : cwi Γ M_X12_count [aR 12 0, aI x1] μ Q := by
  refine cw_ofU (ls := [aR 12 0, aI x1]) (Or.inl (by decide)) rfl (Nat.le_of_ble_eq_true rfl) rfl ?_
  refine aw_iload_n dX12_count_0 rfl ?_
  by_cases c0 : x1 = (0 : Int32)
  · replace h := h.1 c0
    refine aw_tableIn (off := 43) (tgt := 44) dX12_count_1 (by rw [c0]; decide) (by rw [c0]; decide) (by rw [c0]; decide) (by decide) ?_
    refine aw_aload_n dX12_count_44 rfl ?_
    refine aw_get dX12_count_45 rfl fk_RX12_17 (look_R rfl rfl : look _ 12 0 7 = aR 42 0) ?_
    refine aw_iconst (v := (4 : Int32)) dX12_count_48 rfl ?_
    refine aw_ia (j := 4) (y := μ 42 0 4) dX12_count_49 rfl (fun _ => rfl) (by unfold vp_in; decide) (by decide) (rfl) ?_
    exact aw_iret dX12_count_50 rfl rfl ⟨_, rfl, h⟩
  by_cases c1 : x1 = (1 : Int32)
  · replace h := h.2.1 c1
    refine aw_tableIn (off := 50) (tgt := 51) dX12_count_1 (by rw [c1]; decide) (by rw [c1]; decide) (by rw [c1]; decide) (by decide) ?_
    refine aw_aload_n dX12_count_51 rfl ?_
    refine aw_get dX12_count_52 rfl fk_RX12_17 (look_R rfl rfl : look _ 12 0 7 = aR 42 0) ?_
    refine aw_iconst (v := (0 : Int32)) dX12_count_55 rfl ?_
    refine aw_ia (j := 0) (y := μ 42 0 0) dX12_count_56 rfl (fun _ => rfl) (by unfold vp_in; decide) (by decide) (rfl) ?_
    exact aw_iret dX12_count_57 rfl rfl ⟨_, rfl, h⟩
  by_cases c2 : x1 = (2 : Int32)
  · replace h := h.2.2.1 c2
    refine aw_tableIn (off := 57) (tgt := 58) dX12_count_1 (by rw [c2]; decide) (by rw [c2]; decide) (by rw [c2]; decide) (by decide) ?_
    refine aw_aload_n dX12_count_58 rfl ?_
    refine aw_get dX12_count_59 rfl fk_RX12_17 (look_R rfl rfl : look _ 12 0 7 = aR 42 0) ?_
    refine aw_iconst (v := (1 : Int32)) dX12_count_62 rfl ?_
    refine aw_ia (j := 1) (y := μ 42 0 1) dX12_count_63 rfl (fun _ => rfl) (by unfold vp_in; decide) (by decide) (rfl) ?_
    exact aw_iret dX12_count_64 rfl rfl ⟨_, rfl, h⟩
  by_cases c3 : x1 = (3 : Int32)
  · replace h := h.2.2.2.1 c3
    refine aw_tableIn (off := 64) (tgt := 65) dX12_count_1 (by rw [c3]; decide) (by rw [c3]; decide) (by rw [c3]; decide) (by decide) ?_
    refine aw_aload_n dX12_count_65 rfl ?_
    refine aw_get dX12_count_66 rfl fk_RX12_175 (look_I rfl : look μ 12 0 11 = aI (μ 12 0 11)) ?_
    exact aw_iret dX12_count_69 rfl rfl ⟨_, rfl, h⟩
  by_cases c4 : x1 = (4 : Int32)
  · replace h := h.2.2.2.2.1 c4
    refine aw_tableIn (off := 69) (tgt := 70) dX12_count_1 (by rw [c4]; decide) (by rw [c4]; decide) (by rw [c4]; decide) (by decide) ?_
    refine aw_aload_n dX12_count_70 rfl ?_
    refine aw_get dX12_count_71 rfl fk_RX12_178 (look_I rfl : look μ 12 0 9 = aI (μ 12 0 9)) ?_
    exact aw_iret dX12_count_74 rfl rfl ⟨_, rfl, h⟩
  by_cases c5 : x1 = (5 : Int32)
  · replace h := h.2.2.2.2.2.1 c5
    refine aw_tableIn (off := 74) (tgt := 75) dX12_count_1 (by rw [c5]; decide) (by rw [c5]; decide) (by rw [c5]; decide) (by decide) ?_
    refine aw_aload_n dX12_count_75 rfl ?_
    refine aw_get dX12_count_76 rfl fk_RX12_268 (look_I rfl : look μ 12 0 16 = aI (μ 12 0 16)) ?_
    exact aw_iret dX12_count_79 rfl rfl ⟨_, rfl, h⟩
  by_cases c6 : x1 = (6 : Int32)
  · replace h := h.2.2.2.2.2.2.1 c6
    refine aw_tableIn (off := 79) (tgt := 80) dX12_count_1 (by rw [c6]; decide) (by rw [c6]; decide) (by rw [c6]; decide) (by decide) ?_
    refine aw_aload_n dX12_count_80 rfl ?_
    refine aw_get dX12_count_81 rfl fk_RX12_81 (look_I rfl : look μ 12 0 1 = aI (μ 12 0 1)) ?_
    exact aw_iret dX12_count_84 rfl rfl ⟨_, rfl, h⟩
  replace h := h.2.2.2.2.2.2.2 c0 c1 c2 c3 c4 c5 c6
  refine aw_tableOut (tgt := 85) dX12_count_1 (by have e0 := lv_neT c0 (show (0 : Int32).toInt = (0 : Int) by decide); have e1 := lv_neT c1 (show (1 : Int32).toInt = (1 : Int) by decide); have e2 := lv_neT c2 (show (2 : Int32).toInt = (2 : Int) by decide); have e3 := lv_neT c3 (show (3 : Int32).toInt = (3 : Int) by decide); have e4 := lv_neT c4 (show (4 : Int32).toInt = (4 : Int) by decide); have e5 := lv_neT c5 (show (5 : Int32).toInt = (5 : Int) by decide); have e6 := lv_neT c6 (show (6 : Int32).toInt = (6 : Int) by decide); omega) (by decide) ?_
  refine aw_iconst (v := (-1 : Int32)) dX12_count_85 rfl ?_
  exact aw_iret dX12_count_86 rfl rfl ⟨_, rfl, h⟩
