theorem u_X4_clear {Γ : cx_T} {μ : mH} {i0 : Nat} {Q : mH → Prop} (h : Q (sto (sto (sto (sto (sto (sto (sto (sto (sto μ 4 i0 0 (0 : Int32)) 4 i0 1 (0 : Int32)) 4 i0 2 (0 : Int32)) 4 i0 3 (0 : Int32)) 4 i0 4 (0 : Int32)) 4 i0 5 (0 : Int32)) 4 i0 6 (0 : Int32)) 4 i0 7 (0 : Int32)) 4 i0 8 (0 : Int32))) : cwv Γ M_X4_clear [aR 4 i0] μ Q := by
  refine cw_ofU (ls := [aR 4 i0]) (Or.inl (by decide)) rfl (Nat.le_of_ble_eq_true rfl) rfl ?_
  refine aw_aload_n dX4_clear_0 rfl ?_
  refine aw_iconst (v := (0 : Int32)) dX4_clear_1 rfl ?_
  refine aw_putZ dX4_clear_2 rfl fk_RX4_9 (fun r h => by cases h; rfl) rfl rfl (Or.inl rfl) ?_
  refine aw_aload_n dX4_clear_5 rfl ?_
  refine aw_iconst (v := (0 : Int32)) dX4_clear_6 rfl ?_
  refine aw_putI dX4_clear_7 rfl fk_RX4_15 (fun r h => by cases h; rfl) rfl rfl ?_
  refine aw_aload_n dX4_clear_10 rfl ?_
  refine aw_iconst (v := (0 : Int32)) dX4_clear_11 rfl ?_
  refine aw_putI dX4_clear_12 rfl fk_RX4_19 (fun r h => by cases h; rfl) rfl rfl ?_
  refine aw_aload_n dX4_clear_15 rfl ?_
  refine aw_iconst (v := (0 : Int32)) dX4_clear_16 rfl ?_
  refine aw_putI dX4_clear_17 rfl fk_RX4_22 (fun r h => by cases h; rfl) rfl rfl ?_
  refine aw_aload_n dX4_clear_20 rfl ?_
  refine aw_iconst (v := (0 : Int32)) dX4_clear_21 rfl ?_
  refine aw_putI dX4_clear_22 rfl fk_RX4_25 (fun r h => by cases h; rfl) rfl rfl ?_
  refine aw_aload_n dX4_clear_25 rfl ?_
  refine aw_iconst (v := (0 : Int32)) dX4_clear_26 rfl ?_
  refine aw_putI dX4_clear_27 rfl fk_RX4_28 (fun r h => by cases h; rfl) rfl rfl ?_
  refine aw_aload_n dX4_clear_30 rfl ?_
  refine aw_iconst (v := (0 : Int32)) dX4_clear_31 rfl ?_
  refine aw_putI dX4_clear_32 rfl fk_RX4_31 (fun r h => by cases h; rfl) rfl rfl ?_
  refine aw_aload_n dX4_clear_35 rfl ?_
  refine aw_iconst (v := (0 : Int32)) dX4_clear_36 rfl ?_
  refine aw_putI dX4_clear_37 rfl fk_RX4_34 (fun r h => by cases h; rfl) rfl rfl ?_
  refine aw_aload_n dX4_clear_40 rfl ?_
  refine aw_iconst (v := (0 : Int32)) dX4_clear_41 rfl ?_
  refine aw_putZ dX4_clear_42 rfl fk_RX4_37 (fun r h => by cases h; rfl) rfl rfl (Or.inl rfl) ?_
  exact aw_vret dX4_clear_45 rfl h
theorem u_X4_take {Γ : cx_T} {μ : mH} {i0 : Nat} {i2 : Nat} {Q : mH → Prop} (h : ((μ 4 i2 8) = 0 ∨ (μ 4 i2 8) = 1) ∧ (Q (sto (sto (sto (sto (sto (sto (sto (sto (sto μ 4 i0 0 (1 : Int32)) 4 i0 1 (μ 4 i2 1)) 4 i0 2 (μ 4 i2 2)) 4 i0 3 (μ 4 i2 3)) 4 i0 4 (μ 4 i2 4)) 4 i0 5 (μ 4 i2 5)) 4 i0 6 (μ 4 i2 6)) 4 i0 7 (μ 4 i2 7)) 4 i0 8 (μ 4 i2 8)))) : cwv Γ M_X4_take [aR 4 i0, aR 4 i2] μ Q := by
  refine cw_ofU (ls := [aR 4 i0, aR 4 i2]) (Or.inl (by decide)) rfl (Nat.le_of_ble_eq_true rfl) rfl ?_
  refine aw_aload_n dX4_take_0 rfl ?_
  refine aw_iconst (v := (1 : Int32)) dX4_take_1 rfl ?_
  refine aw_putZ dX4_take_2 rfl fk_RX4_9 (fun r h => by cases h; rfl) rfl rfl (Or.inr rfl) ?_
  refine aw_aload_n dX4_take_5 rfl ?_
  refine aw_aload_n dX4_take_6 rfl ?_
  refine aw_get dX4_take_7 rfl fk_RX4_15 ((look_I rfl).trans (congrArg aI ((sto_s (by decide)).trans (rfl))) : look (sto μ 4 i0 0 (1 : Int32)) 4 i2 1 = aI (μ 4 i2 1)) ?_
  refine aw_putI dX4_take_10 rfl fk_RX4_15 (fun r h => by cases h; rfl) rfl rfl ?_
  refine aw_aload_n dX4_take_13 rfl ?_
  refine aw_aload_n dX4_take_14 rfl ?_
  refine aw_get dX4_take_15 rfl fk_RX4_19 ((look_I rfl).trans (congrArg aI ((sto_s (by decide)).trans ((sto_s (by decide)).trans (rfl)))) : look (sto (sto μ 4 i0 0 (1 : Int32)) 4 i0 1 (μ 4 i2 1)) 4 i2 2 = aI (μ 4 i2 2)) ?_
  refine aw_putI dX4_take_18 rfl fk_RX4_19 (fun r h => by cases h; rfl) rfl rfl ?_
  refine aw_aload_n dX4_take_21 rfl ?_
  refine aw_aload_n dX4_take_22 rfl ?_
  refine aw_get dX4_take_23 rfl fk_RX4_22 ((look_I rfl).trans (congrArg aI ((sto_s (by decide)).trans ((sto_s (by decide)).trans ((sto_s (by decide)).trans (rfl))))) : look (sto (sto (sto μ 4 i0 0 (1 : Int32)) 4 i0 1 (μ 4 i2 1)) 4 i0 2 (μ 4 i2 2)) 4 i2 3 = aI (μ 4 i2 3)) ?_
  refine aw_putI dX4_take_26 rfl fk_RX4_22 (fun r h => by cases h; rfl) rfl rfl ?_
  refine aw_aload_n dX4_take_29 rfl ?_
  refine aw_aload_n dX4_take_30 rfl ?_
  refine aw_get dX4_take_31 rfl fk_RX4_25 ((look_I rfl).trans (congrArg aI ((sto_s (by decide)).trans ((sto_s (by decide)).trans ((sto_s (by decide)).trans ((sto_s (by decide)).trans (rfl)))))) : look (sto (sto (sto (sto μ 4 i0 0 (1 : Int32)) 4 i0 1 (μ 4 i2 1)) 4 i0 2 (μ 4 i2 2)) 4 i0 3 (μ 4 i2 3)) 4 i2 4 = aI (μ 4 i2 4)) ?_
  refine aw_putI dX4_take_34 rfl fk_RX4_25 (fun r h => by cases h; rfl) rfl rfl ?_
  refine aw_aload_n dX4_take_37 rfl ?_
  refine aw_aload_n dX4_take_38 rfl ?_
  refine aw_get dX4_take_39 rfl fk_RX4_28 ((look_I rfl).trans (congrArg aI ((sto_s (by decide)).trans ((sto_s (by decide)).trans ((sto_s (by decide)).trans ((sto_s (by decide)).trans ((sto_s (by decide)).trans (rfl))))))) : look (sto (sto (sto (sto (sto μ 4 i0 0 (1 : Int32)) 4 i0 1 (μ 4 i2 1)) 4 i0 2 (μ 4 i2 2)) 4 i0 3 (μ 4 i2 3)) 4 i0 4 (μ 4 i2 4)) 4 i2 5 = aI (μ 4 i2 5)) ?_
  refine aw_putI dX4_take_42 rfl fk_RX4_28 (fun r h => by cases h; rfl) rfl rfl ?_
  refine aw_aload_n dX4_take_45 rfl ?_
  refine aw_aload_n dX4_take_46 rfl ?_
  refine aw_get dX4_take_47 rfl fk_RX4_31 ((look_I rfl).trans (congrArg aI ((sto_s (by decide)).trans ((sto_s (by decide)).trans ((sto_s (by decide)).trans ((sto_s (by decide)).trans ((sto_s (by decide)).trans ((sto_s (by decide)).trans (rfl)))))))) : look (sto (sto (sto (sto (sto (sto μ 4 i0 0 (1 : Int32)) 4 i0 1 (μ 4 i2 1)) 4 i0 2 (μ 4 i2 2)) 4 i0 3 (μ 4 i2 3)) 4 i0 4 (μ 4 i2 4)) 4 i0 5 (μ 4 i2 5)) 4 i2 6 = aI (μ 4 i2 6)) ?_
  refine aw_putI dX4_take_50 rfl fk_RX4_31 (fun r h => by cases h; rfl) rfl rfl ?_
  refine aw_aload_n dX4_take_53 rfl ?_
  refine aw_aload_n dX4_take_54 rfl ?_
  refine aw_get dX4_take_55 rfl fk_RX4_34 ((look_I rfl).trans (congrArg aI ((sto_s (by decide)).trans ((sto_s (by decide)).trans ((sto_s (by decide)).trans ((sto_s (by decide)).trans ((sto_s (by decide)).trans ((sto_s (by decide)).trans ((sto_s (by decide)).trans (rfl))))))))) : look (sto (sto (sto (sto (sto (sto (sto μ 4 i0 0 (1 : Int32)) 4 i0 1 (μ 4 i2 1)) 4 i0 2 (μ 4 i2 2)) 4 i0 3 (μ 4 i2 3)) 4 i0 4 (μ 4 i2 4)) 4 i0 5 (μ 4 i2 5)) 4 i0 6 (μ 4 i2 6)) 4 i2 7 = aI (μ 4 i2 7)) ?_
  refine aw_putI dX4_take_58 rfl fk_RX4_34 (fun r h => by cases h; rfl) rfl rfl ?_
  refine aw_aload_n dX4_take_61 rfl ?_
  refine aw_aload_n dX4_take_62 rfl ?_
  refine aw_get dX4_take_63 rfl fk_RX4_37 ((look_I rfl).trans (congrArg aI ((sto_s (by decide)).trans ((sto_s (by decide)).trans ((sto_s (by decide)).trans ((sto_s (by decide)).trans ((sto_s (by decide)).trans ((sto_s (by decide)).trans ((sto_s (by decide)).trans ((sto_s (by decide)).trans (rfl)))))))))) : look (sto (sto (sto (sto (sto (sto (sto (sto μ 4 i0 0 (1 : Int32)) 4 i0 1 (μ 4 i2 1)) 4 i0 2 (μ 4 i2 2)) 4 i0 3 (μ 4 i2 3)) 4 i0 4 (μ 4 i2 4)) 4 i0 5 (μ 4 i2 5)) 4 i0 6 (μ 4 i2 6)) 4 i0 7 (μ 4 i2 7)) 4 i2 8 = aI (μ 4 i2 8)) ?_
  refine aw_putZ dX4_take_66 rfl fk_RX4_37 (fun r h => by cases h; rfl) rfl rfl h.1 ?_
  replace h := h.2
  exact aw_vret dX4_take_69 rfl h
theorem u_X4_firstByte {Γ : cx_T} {μ : mH} {i0 : Nat} {x1 : Int32} {x2 : Int32} {Q : Int32 → mH → Prop} (h : ((μ 4 i0 8) = 0 → (Q x1 μ)) ∧ (¬ (μ 4 i0 8) = 0 → (Q x2 μ))) : cwi Γ M_X4_firstByte [aR 4 i0, aI x1, aI x2] μ Q := by
  refine cw_ofU (ls := [aR 4 i0, aI x1, aI x2]) (Or.inl (by decide)) rfl (Nat.le_of_ble_eq_true rfl) rfl ?_
  refine aw_aload_n dX4_firstByte_0 rfl ?_
  refine aw_get dX4_firstByte_1 rfl fk_RX4_37 (look_I rfl : look μ 4 i0 8 = aI (μ 4 i0 8)) ?_
  refine aw_if_eq (tgt := 11) dX4_firstByte_4 (by decide) (fun c0 => ?_) (fun c0 => ?_)
  · replace h := h.1 c0
    refine aw_iload_n dX4_firstByte_11 rfl ?_
    exact aw_iret dX4_firstByte_12 rfl rfl ⟨_, rfl, h⟩
  · replace h := h.2 c0
    refine aw_iload_n dX4_firstByte_7 rfl ?_
    refine aw_goto (tgt := 12) dX4_firstByte_8 (by decide) ?_
    exact aw_iret dX4_firstByte_12 rfl rfl ⟨_, rfl, h⟩
theorem u_X4_secondByte {Γ : cx_T} {μ : mH} {i0 : Nat} {x1 : Int32} {x2 : Int32} {Q : Int32 → mH → Prop} (h : ((μ 4 i0 8) = 0 → (Q x2 μ)) ∧ (¬ (μ 4 i0 8) = 0 → (Q x1 μ))) : cwi Γ M_X4_secondByte [aR 4 i0, aI x1, aI x2] μ Q := by
  refine cw_ofU (ls := [aR 4 i0, aI x1, aI x2]) (Or.inl (by decide)) rfl (Nat.le_of_ble_eq_true rfl) rfl ?_
  refine aw_aload_n dX4_secondByte_0 rfl ?_
  refine aw_get dX4_secondByte_1 rfl fk_RX4_37 (look_I rfl : look μ 4 i0 8 = aI (μ 4 i0 8)) ?_
  refine aw_if_eq (tgt := 11) dX4_secondByte_4 (by decide) (fun c0 => ?_) (fun c0 => ?_)
  · replace h := h.1 c0
    refine aw_iload_n dX4_secondByte_11 rfl ?_
    exact aw_iret dX4_secondByte_12 rfl rfl ⟨_, rfl, h⟩
  · replace h := h.2 c0
    refine aw_iload_n dX4_secondByte_7 rfl ?_
    refine aw_goto (tgt := 12) dX4_secondByte_8 (by decide) ?_
    exact aw_iret dX4_secondByte_12 rfl rfl ⟨_, rfl, h⟩
theorem u_X4_sumOfHead {Γ : cx_T} {μ : mH} {i0 : Nat} {x1 : Int32} {x2 : Int32} {Q : Int32 → mH → Prop} (h : (¬ (μ 4 i0 5) = (2 : Int32) → (aw Γ M_X4_sumOfHead 16 [aR 4 i0, aI x1, aI x2, aX] [aI (0 : Int32)] μ (rI Q))) ∧ ((μ 4 i0 5) = (2 : Int32) → (aw Γ M_X4_sumOfHead 16 [aR 4 i0, aI x1, aI x2, aX] [aI (μ 4 i0 7)] μ (rI Q)))) : cwi Γ M_X4_sumOfHead [aR 4 i0, aI x1, aI x2] μ Q := by
  refine cw_ofU (ls := [aR 4 i0, aI x1, aI x2, aX]) (Or.inl (by decide)) rfl (Nat.le_of_ble_eq_true rfl) rfl ?_
  refine aw_aload_n dX4_sumOfHead_0 rfl ?_
  refine aw_get dX4_sumOfHead_1 rfl fk_RX4_28 (look_I rfl : look μ 4 i0 5 = aI (μ 4 i0 5)) ?_
  refine aw_iconst (v := (2 : Int32)) dX4_sumOfHead_4 rfl ?_
  refine aw_icmp_ne (tgt := 15) dX4_sumOfHead_5 (by decide) (fun c0 => ?_) (fun c0 => ?_)
  · replace h := h.1 c0
    refine aw_iconst (v := (0 : Int32)) dX4_sumOfHead_15 rfl ?_
    exact h
  · replace h := h.2 c0
    refine aw_aload_n dX4_sumOfHead_8 rfl ?_
    refine aw_get dX4_sumOfHead_9 rfl fk_RX4_34 (look_I rfl : look μ 4 i0 7 = aI (μ 4 i0 7)) ?_
    refine aw_goto (tgt := 16) dX4_sumOfHead_12 (by decide) ?_
    exact h
theorem u_X4_sumOfHead_16 {Γ : cx_T} {μ : mH} {i0 : Nat} {x1 : Int32} {x2 : Int32} {y0 : Int32} {Q : Int32 → mH → Prop} (h : cwi Γ M_X4_firstByte [aR 4 i0, aI x1, aI x2] μ (fun r2 μ1 => cwi Γ M_X4_sumWith [aR 4 i0, aI y0, aI r2] μ1 (fun r4 μ3 => cwi Γ M_X4_secondByte [aR 4 i0, aI x1, aI x2] μ3 (fun r6 μ5 => cwi Γ M_X4_sumWith [aR 4 i0, aI r4, aI r6] μ5 (fun r8 μ7 => Q r8 μ7))))) : aw Γ M_X4_sumOfHead 16 [aR 4 i0, aI x1, aI x2, aX] [aI y0] μ (rI Q) := by
  refine aw_istore_n (ls' := [aR 4 i0, aI x1, aI x2, aI y0]) dX4_sumOfHead_16 (by decide) rfl rfl ?_
  refine aw_aload_n dX4_sumOfHead_17 rfl ?_
  refine aw_aload_n dX4_sumOfHead_18 rfl ?_
  refine aw_iload_n dX4_sumOfHead_19 rfl ?_
  refine aw_aload_n dX4_sumOfHead_20 rfl ?_
  refine aw_iload_n dX4_sumOfHead_21 rfl ?_
  refine aw_iload_n dX4_sumOfHead_22 rfl ?_
  refine aw_callV (M' := M_X4_firstByte) (K := 4) (i := i0) (vs := [aI x1, aI x2]) (st := [aI y0, aR 4 i0, aR 4 i0]) dX4_sumOfHead_23 mk_X4_firstByte mi_X4_firstByte ml_RX4_40 mp_X4_firstByte rc_4 rm_X4_sumOfHead__X4_firstByte (Nat.le_of_ble_eq_true rfl) rfl (cw_mono h ?_)
  clear h
  rintro _ μ1 ⟨r2, rfl, h⟩
  show aw Γ M_X4_sumOfHead 26 [aR 4 i0, aI x1, aI x2, aI y0] [aI r2, aI y0, aR 4 i0, aR 4 i0] μ1 (rI Q)
  refine aw_callV (M' := M_X4_sumWith) (K := 4) (i := i0) (vs := [aI y0, aI r2]) (st := [aR 4 i0]) dX4_sumOfHead_26 mk_X4_sumWith mi_X4_sumWith ml_RX4_44 mp_X4_sumWith rc_4 rm_X4_sumOfHead__X4_sumWith (Nat.le_of_ble_eq_true rfl) rfl (cw_mono h ?_)
  clear h
  rintro _ μ3 ⟨r4, rfl, h⟩
  show aw Γ M_X4_sumOfHead 29 [aR 4 i0, aI x1, aI x2, aI y0] [aI r4, aR 4 i0] μ3 (rI Q)
  refine aw_aload_n dX4_sumOfHead_29 rfl ?_
  refine aw_iload_n dX4_sumOfHead_30 rfl ?_
  refine aw_iload_n dX4_sumOfHead_31 rfl ?_
  refine aw_callV (M' := M_X4_secondByte) (K := 4) (i := i0) (vs := [aI x1, aI x2]) (st := [aI r4, aR 4 i0]) dX4_sumOfHead_32 mk_X4_secondByte mi_X4_secondByte ml_RX4_47 mp_X4_secondByte rc_4 rm_X4_sumOfHead__X4_secondByte (Nat.le_of_ble_eq_true rfl) rfl (cw_mono h ?_)
  clear h
  rintro _ μ5 ⟨r6, rfl, h⟩
  show aw Γ M_X4_sumOfHead 35 [aR 4 i0, aI x1, aI x2, aI y0] [aI r6, aI r4, aR 4 i0] μ5 (rI Q)
  refine aw_callV (M' := M_X4_sumWith) (K := 4) (i := i0) (vs := [aI r4, aI r6]) (st := []) dX4_sumOfHead_35 mk_X4_sumWith mi_X4_sumWith ml_RX4_44 mp_X4_sumWith rc_4 rm_X4_sumOfHead__X4_sumWith (Nat.le_of_ble_eq_true rfl) rfl (cw_mono h ?_)
  clear h
  rintro _ μ7 ⟨r8, rfl, h⟩
  show aw Γ M_X4_sumOfHead 38 [aR 4 i0, aI x1, aI x2, aI y0] [aI r8] μ7 (rI Q)
  exact aw_iret dX4_sumOfHead_38 rfl rfl ⟨_, rfl, h⟩
theorem u_X4_sumOf {Γ : cx_T} {μ : mH} {i0 : Nat} {x1 : Int32} {x2 : Int32} {d3 : Nat} {Q : Int32 → mH → Prop} (h : cwi Γ M_X4_sumOfHead [aR 4 i0, aI x1, aI x2] μ (fun r2 μ1 => aw Γ M_X4_sumOf 11 [aR 4 i0, aX, aX, aR 24 d3, aI r2, aI (0 : Int32)] [] μ1 (rI Q))) : cwi Γ M_X4_sumOf [aR 4 i0, aI x1, aI x2, aR 24 d3] μ Q := by
  refine cw_ofU (ls := [aR 4 i0, aI x1, aI x2, aR 24 d3, aX, aX]) (Or.inl (by decide)) rfl (Nat.le_of_ble_eq_true rfl) rfl ?_
  refine aw_aload_n dX4_sumOf_0 rfl ?_
  refine aw_iload_n dX4_sumOf_1 rfl ?_
  refine aw_iload_n dX4_sumOf_2 rfl ?_
  refine aw_callV (M' := M_X4_sumOfHead) (K := 4) (i := i0) (vs := [aI x1, aI x2]) (st := []) dX4_sumOf_3 mk_X4_sumOfHead mi_X4_sumOfHead ml_RX4_50 mp_X4_sumOfHead rc_4 rm_X4_sumOf__X4_sumOfHead (Nat.le_of_ble_eq_true rfl) rfl (cw_mono h ?_)
  clear h
  rintro _ μ1 ⟨r2, rfl, h⟩
  show aw Γ M_X4_sumOf 6 [aR 4 i0, aI x1, aI x2, aR 24 d3, aX, aX] [aI r2] μ1 (rI Q)
  refine aw_istore (ls' := [aR 4 i0, aI x1, aI x2, aR 24 d3, aI r2, aX]) dX4_sumOf_6 (by decide) rfl rfl ?_
  refine aw_iconst (v := (0 : Int32)) dX4_sumOf_8 rfl ?_
  refine aw_istore (ls' := [aR 4 i0, aI x1, aI x2, aR 24 d3, aI r2, aI (0 : Int32)]) dX4_sumOf_9 (by decide) rfl rfl ?_
  exact aw_wkk h (wk_e (wk_x (wk_x (wk_e (wk_e (wk_e wk_n))))))
theorem u_X4_sumOf_11 {Γ : cx_T} {μ : mH} {i0 : Nat} {i3 : Nat} {x4 : Int32} {x5 : Int32} {Q : Int32 → mH → Prop} (h : ((μ 4 i0 4) ≤ x5 → (Q x4 μ)) ∧ (¬ (μ 4 i0 4) ≤ x5 → (((8 : Int32) ≤ x5 → (Q x4 μ)) ∧ (¬ (8 : Int32) ≤ x5 → (vp_in x5 8 ∧ (cwi Γ M_X4_sumWith [aR 4 i0, aI x4, aI (μ 24 i3 (tn x5))] μ (fun r2 μ1 => aw Γ M_X4_sumOf 11 [aR 4 i0, aX, aX, aR 24 i3, aI r2, aI (x5 + (1 : Int32))] [] μ1 (rI Q)))))))) : aw Γ M_X4_sumOf 11 [aR 4 i0, aX, aX, aR 24 i3, aI x4, aI x5] [] μ (rI Q) := by
  refine aw_iload dX4_sumOf_11 rfl ?_
  refine aw_aload_n dX4_sumOf_13 rfl ?_
  refine aw_get dX4_sumOf_14 rfl fk_RX4_25 (look_I rfl : look μ 4 i0 4 = aI (μ 4 i0 4)) ?_
  refine aw_icmp_ge (tgt := 45) dX4_sumOf_17 (by decide) (fun c0 => ?_) (fun c0 => ?_)
  · replace h := h.1 c0
    refine aw_iload dX4_sumOf_45 rfl ?_
    exact aw_iret dX4_sumOf_47 rfl rfl ⟨_, rfl, h⟩
  · replace h := h.2 c0
    refine aw_iload dX4_sumOf_20 rfl ?_
    refine aw_aload_n dX4_sumOf_22 rfl ?_
    refine aw_alen (v := (8 : Int32)) dX4_sumOf_23 rfl rfl ?_
    refine aw_icmp_ge (tgt := 45) dX4_sumOf_24 (by decide) (fun c0 => ?_) (fun c0 => ?_)
    · replace h := h.1 c0
      refine aw_iload dX4_sumOf_45 rfl ?_
      exact aw_iret dX4_sumOf_47 rfl rfl ⟨_, rfl, h⟩
    · replace h := h.2 c0
      refine aw_aload_n dX4_sumOf_27 rfl ?_
      refine aw_iload dX4_sumOf_28 rfl ?_
      refine aw_aload_n dX4_sumOf_30 rfl ?_
      refine aw_iload dX4_sumOf_31 rfl ?_
      refine aw_ia (j := tn x5) (y := μ 24 i3 (tn x5)) dX4_sumOf_33 rfl (fun _ => rfl) h.1 rfl (rfl) ?_
      replace h := h.2
      refine aw_callV (M' := M_X4_sumWith) (K := 4) (i := i0) (vs := [aI x4, aI (μ 24 i3 (tn x5))]) (st := []) dX4_sumOf_34 mk_X4_sumWith mi_X4_sumWith ml_RX4_44 mp_X4_sumWith rc_4 rm_X4_sumOf__X4_sumWith (Nat.le_of_ble_eq_true rfl) rfl (cw_mono h ?_)
      clear h
      rintro _ μ1 ⟨r2, rfl, h⟩
      show aw Γ M_X4_sumOf 37 [aR 4 i0, aX, aX, aR 24 i3, aI x4, aI x5] [aI r2] μ1 (rI Q)
      refine aw_istore (ls' := [aR 4 i0, aX, aX, aR 24 i3, aI r2, aI x5]) dX4_sumOf_37 (by decide) rfl rfl ?_
      refine aw_iinc (v := x5 + (1 : Int32)) (ls' := [aR 4 i0, aX, aX, aR 24 i3, aI r2, aI (x5 + (1 : Int32))]) dX4_sumOf_39 rfl rfl (by decide) rfl rfl ?_
      refine aw_goto (tgt := 11) dX4_sumOf_42 (by decide) ?_
      exact h
theorem u_X4_sumWith {Γ : cx_T} {μ : mH} {i0 : Nat} {x1 : Int32} {x2 : Int32} {Q : Int32 → mH → Prop} (h : (¬ (μ 4 i0 5) = 0 → ((¬ (μ 4 i0 5) = (1 : Int32) → (aw Γ M_X4_sumWith 36 [aR 4 i0, aX, aX, aI (x1 ^^^ (x2 <<< ((8 : Int32) &&& 31))), aI (0 : Int32)] [] μ (rI Q))) ∧ ((μ 4 i0 5) = (1 : Int32) → (Q (x1 ^^^ x2) μ)))) ∧ ((μ 4 i0 5) = 0 → (Q ((x1 + x2) &&& (65535 : Int32)) μ))) : cwi Γ M_X4_sumWith [aR 4 i0, aI x1, aI x2] μ Q := by
  refine cw_ofU (ls := [aR 4 i0, aI x1, aI x2, aX, aX]) (Or.inl (by decide)) rfl (Nat.le_of_ble_eq_true rfl) rfl ?_
  refine aw_aload_n dX4_sumWith_0 rfl ?_
  refine aw_get dX4_sumWith_1 rfl fk_RX4_28 (look_I rfl : look μ 4 i0 5 = aI (μ 4 i0 5)) ?_
  refine aw_if_ne (tgt := 14) dX4_sumWith_4 (by decide) (fun c0 => ?_) (fun c0 => ?_)
  · replace h := h.1 c0
    refine aw_aload_n dX4_sumWith_14 rfl ?_
    refine aw_get dX4_sumWith_15 rfl fk_RX4_28 (look_I rfl : look μ 4 i0 5 = aI (μ 4 i0 5)) ?_
    refine aw_iconst (v := (1 : Int32)) dX4_sumWith_18 rfl ?_
    refine aw_icmp_ne (tgt := 26) dX4_sumWith_19 (by decide) (fun c0 => ?_) (fun c0 => ?_)
    · replace h := h.1 c0
      refine aw_iload_n dX4_sumWith_26 rfl ?_
      refine aw_iload_n dX4_sumWith_27 rfl ?_
      refine aw_bipush (v := (8 : Int32)) dX4_sumWith_28 rfl ?_
      refine aw_ishl dX4_sumWith_30 ?_
      refine aw_ixor dX4_sumWith_31 ?_
      refine aw_istore_n (ls' := [aR 4 i0, aI x1, aI x2, aI (x1 ^^^ (x2 <<< ((8 : Int32) &&& 31))), aX]) dX4_sumWith_32 (by decide) rfl rfl ?_
      refine aw_iconst (v := (0 : Int32)) dX4_sumWith_33 rfl ?_
      refine aw_istore (ls' := [aR 4 i0, aI x1, aI x2, aI (x1 ^^^ (x2 <<< ((8 : Int32) &&& 31))), aI (0 : Int32)]) dX4_sumWith_34 (by decide) rfl rfl ?_
      exact aw_wkk h (wk_e (wk_x (wk_x (wk_e (wk_e wk_n)))))
    · replace h := h.2 c0
      refine aw_iload_n dX4_sumWith_22 rfl ?_
      refine aw_iload_n dX4_sumWith_23 rfl ?_
      refine aw_ixor dX4_sumWith_24 ?_
      exact aw_iret dX4_sumWith_25 rfl rfl ⟨_, rfl, h⟩
  · replace h := h.2 c0
    refine aw_iload_n dX4_sumWith_7 rfl ?_
    refine aw_iload_n dX4_sumWith_8 rfl ?_
    refine aw_iadd dX4_sumWith_9 ?_
    refine aw_ldc (v := (65535 : Int32)) dX4_sumWith_10 kc_RX4_53 ?_
    refine aw_iand dX4_sumWith_12 ?_
    exact aw_iret dX4_sumWith_13 rfl rfl ⟨_, rfl, h⟩
theorem u_X4_sumWith_36 {Γ : cx_T} {μ : mH} {i0 : Nat} {x3 : Int32} {x4 : Int32} {Q : Int32 → mH → Prop} (h : ((8 : Int32) ≤ x4 → (Q (x3 &&& (65535 : Int32)) μ)) ∧ (¬ (8 : Int32) ≤ x4 → (((x3 &&& (32768 : Int32)) = 0 → (aw Γ M_X4_sumWith 36 [aR 4 i0, aX, aX, aI (x3 <<< ((1 : Int32) &&& 31)), aI (x4 + (1 : Int32))] [] μ (rI Q))) ∧ (¬ (x3 &&& (32768 : Int32)) = 0 → (aw Γ M_X4_sumWith 36 [aR 4 i0, aX, aX, aI ((x3 <<< ((1 : Int32) &&& 31)) ^^^ (μ 4 i0 6)), aI (x4 + (1 : Int32))] [] μ (rI Q)))))) : aw Γ M_X4_sumWith 36 [aR 4 i0, aX, aX, aI x3, aI x4] [] μ (rI Q) := by
  refine aw_iload dX4_sumWith_36 rfl ?_
  refine aw_bipush (v := (8 : Int32)) dX4_sumWith_38 rfl ?_
  refine aw_icmp_ge (tgt := 71) dX4_sumWith_40 (by decide) (fun c0 => ?_) (fun c0 => ?_)
  · replace h := h.1 c0
    refine aw_iload_n dX4_sumWith_71 rfl ?_
    refine aw_ldc (v := (65535 : Int32)) dX4_sumWith_72 kc_RX4_53 ?_
    refine aw_iand dX4_sumWith_74 ?_
    exact aw_iret dX4_sumWith_75 rfl rfl ⟨_, rfl, h⟩
  · replace h := h.2 c0
    refine aw_iload_n dX4_sumWith_43 rfl ?_
    refine aw_ldc (v := (32768 : Int32)) dX4_sumWith_44 kc_RX4_54 ?_
    refine aw_iand dX4_sumWith_46 ?_
    refine aw_if_eq (tgt := 61) dX4_sumWith_47 (by decide) (fun c0 => ?_) (fun c0 => ?_)
    · replace h := h.1 c0
      refine aw_iload_n dX4_sumWith_61 rfl ?_
      refine aw_iconst (v := (1 : Int32)) dX4_sumWith_62 rfl ?_
      refine aw_ishl dX4_sumWith_63 ?_
      refine aw_istore_n (ls' := [aR 4 i0, aX, aX, aI (x3 <<< ((1 : Int32) &&& 31)), aI x4]) dX4_sumWith_64 (by decide) rfl rfl ?_
      refine aw_iinc (v := x4 + (1 : Int32)) (ls' := [aR 4 i0, aX, aX, aI (x3 <<< ((1 : Int32) &&& 31)), aI (x4 + (1 : Int32))]) dX4_sumWith_65 rfl rfl (by decide) rfl rfl ?_
      refine aw_goto (tgt := 36) dX4_sumWith_68 (by decide) ?_
      exact h
    · replace h := h.2 c0
      refine aw_iload_n dX4_sumWith_50 rfl ?_
      refine aw_iconst (v := (1 : Int32)) dX4_sumWith_51 rfl ?_
      refine aw_ishl dX4_sumWith_52 ?_
      refine aw_aload_n dX4_sumWith_53 rfl ?_
      refine aw_get dX4_sumWith_54 rfl fk_RX4_31 (look_I rfl : look μ 4 i0 6 = aI (μ 4 i0 6)) ?_
      refine aw_ixor dX4_sumWith_57 ?_
      refine aw_goto (tgt := 64) dX4_sumWith_58 (by decide) ?_
      refine aw_istore_n (ls' := [aR 4 i0, aX, aX, aI ((x3 <<< ((1 : Int32) &&& 31)) ^^^ (μ 4 i0 6)), aI x4]) dX4_sumWith_64 (by decide) rfl rfl ?_
      refine aw_iinc (v := x4 + (1 : Int32)) (ls' := [aR 4 i0, aX, aX, aI ((x3 <<< ((1 : Int32) &&& 31)) ^^^ (μ 4 i0 6)), aI (x4 + (1 : Int32))]) dX4_sumWith_65 rfl rfl (by decide) rfl rfl ?_
      refine aw_goto (tgt := 36) dX4_sumWith_68 (by decide) ?_
      exact h
theorem u_X5_fill {Γ : cx_T} {μ : mH} {i1 : Nat} {x2 : Int32} {x3 : Int32} {Q : mH → Prop} (h : cwi Γ M_J9_max_7cf53 [aI ((12 : Int32) * x2), aI (1 : Int32)] (sto μ 5 0 1 (0 : Int32)) (fun r2 μ1 => cwi Γ M_J9_max_7cf53 [aI ((20 : Int32) * x2), aI (1 : Int32)] μ1 (fun r4 μ3 => cwi Γ M_J9_max_7cf53 [aI ((16 : Int32) * x2), aI (1 : Int32)] μ3 (fun r6 μ5 => aw Γ M_X5_fill 38 [aR 5 0, aR 10 i1, aX, aI x3, aI r2, aI r4, aI r6, aI (0 : Int32), aX, aX, aX] [] μ5 (rV Q))))) : cwv Γ M_X5_fill [aR 5 0, aR 10 i1, aI x2, aI x3] μ Q := by
  refine cw_ofU (ls := [aR 5 0, aR 10 i1, aI x2, aI x3, aX, aX, aX, aX, aX, aX, aX]) (Or.inl (by decide)) rfl (Nat.le_of_ble_eq_true rfl) rfl ?_
  refine aw_aload_n dX5_fill_0 rfl ?_
  refine aw_iconst (v := (0 : Int32)) dX5_fill_1 rfl ?_
  refine aw_putI dX5_fill_2 rfl fk_RX5_15 (fun r h => by cases h; rfl) rfl rfl ?_
  refine aw_bipush (v := (12 : Int32)) dX5_fill_5 rfl ?_
  refine aw_iload_n dX5_fill_7 rfl ?_
  refine aw_imul dX5_fill_8 ?_
  refine aw_iconst (v := (1 : Int32)) dX5_fill_9 rfl ?_
  refine aw_callS (M' := M_J9_max_7cf53) (vs := [aI ((12 : Int32) * x2), aI (1 : Int32)]) (st := []) dX5_fill_10 mk_J9_max_7cf53 ms_J9_max_7cf53 ml_RX5_19 mp_J9_max_7cf53 rm_X5_fill__J9_max_7cf53 (Nat.le_of_ble_eq_true rfl) rfl (cw_mono h ?_)
  clear h
  rintro _ μ1 ⟨r2, rfl, h⟩
  show aw Γ M_X5_fill 13 [aR 5 0, aR 10 i1, aI x2, aI x3, aX, aX, aX, aX, aX, aX, aX] [aI r2] μ1 (rV Q)
  refine aw_istore (ls' := [aR 5 0, aR 10 i1, aI x2, aI x3, aI r2, aX, aX, aX, aX, aX, aX]) dX5_fill_13 (by decide) rfl rfl ?_
  refine aw_bipush (v := (20 : Int32)) dX5_fill_15 rfl ?_
  refine aw_iload_n dX5_fill_17 rfl ?_
  refine aw_imul dX5_fill_18 ?_
  refine aw_iconst (v := (1 : Int32)) dX5_fill_19 rfl ?_
  refine aw_callS (M' := M_J9_max_7cf53) (vs := [aI ((20 : Int32) * x2), aI (1 : Int32)]) (st := []) dX5_fill_20 mk_J9_max_7cf53 ms_J9_max_7cf53 ml_RX5_19 mp_J9_max_7cf53 rm_X5_fill__J9_max_7cf53 (Nat.le_of_ble_eq_true rfl) rfl (cw_mono h ?_)
  clear h
  rintro _ μ3 ⟨r4, rfl, h⟩
  show aw Γ M_X5_fill 23 [aR 5 0, aR 10 i1, aI x2, aI x3, aI r2, aX, aX, aX, aX, aX, aX] [aI r4] μ3 (rV Q)
  refine aw_istore (ls' := [aR 5 0, aR 10 i1, aI x2, aI x3, aI r2, aI r4, aX, aX, aX, aX, aX]) dX5_fill_23 (by decide) rfl rfl ?_
  refine aw_bipush (v := (16 : Int32)) dX5_fill_25 rfl ?_
  refine aw_iload_n dX5_fill_27 rfl ?_
  refine aw_imul dX5_fill_28 ?_
  refine aw_iconst (v := (1 : Int32)) dX5_fill_29 rfl ?_
  refine aw_callS (M' := M_J9_max_7cf53) (vs := [aI ((16 : Int32) * x2), aI (1 : Int32)]) (st := []) dX5_fill_30 mk_J9_max_7cf53 ms_J9_max_7cf53 ml_RX5_19 mp_J9_max_7cf53 rm_X5_fill__J9_max_7cf53 (Nat.le_of_ble_eq_true rfl) rfl (cw_mono h ?_)
  clear h
  rintro _ μ5 ⟨r6, rfl, h⟩
  show aw Γ M_X5_fill 33 [aR 5 0, aR 10 i1, aI x2, aI x3, aI r2, aI r4, aX, aX, aX, aX, aX] [aI r6] μ5 (rV Q)
  refine aw_istore (ls' := [aR 5 0, aR 10 i1, aI x2, aI x3, aI r2, aI r4, aI r6, aX, aX, aX, aX]) dX5_fill_33 (by decide) rfl rfl ?_
  refine aw_iconst (v := (0 : Int32)) dX5_fill_35 rfl ?_
  refine aw_istore (ls' := [aR 5 0, aR 10 i1, aI x2, aI x3, aI r2, aI r4, aI r6, aI (0 : Int32), aX, aX, aX]) dX5_fill_36 (by decide) rfl rfl ?_
  exact aw_wkk h (wk_e (wk_e (wk_x (wk_e (wk_e (wk_e (wk_e (wk_e (wk_e (wk_e (wk_e wk_n)))))))))))
theorem u_X5_fill_38 {Γ : cx_T} {μ : mH} {i1 : Nat} {x3 : Int32} {x4 : Int32} {x5 : Int32} {x6 : Int32} {x7 : Int32} {Q : mH → Prop} (h : ((μ 10 i1 1) ≤ x7 → (Q μ)) ∧ (¬ (μ 10 i1 1) ≤ x7 → (vp_in x7 320 ∧ (¬ ((2 : Int32) * x6) = 0 ∧ (cwi Γ M_J9_min_7cf53 [aI (8 : Int32), aI ((((32 : Int32) * (μ 21 i1 (tn x7))) + x6) / ((2 : Int32) * x6))] μ (fun r2 μ1 => cwi Γ M_J9_max_7cf53 [aI (1 : Int32), aI r2] μ1 (fun r4 μ3 => cwv Γ M_X5_push [aR 5 0, aI r4] μ3 (fun μ5 => ¬ r4 = 0 ∧ (cwi Γ M_J9_floorDiv_7cf53 [aI (((((16 : Int32) * (μ 21 i1 (tn x7))) / r4) - x6) * x3), aI (32 : Int32)] μ5 (fun r7 μ6 => cwi Γ M_J9_min_7cf53 [aI x5, aI (x6 + r7)] μ6 (fun r9 μ8 => cwi Γ M_J9_max_7cf53 [aI x4, aI r9] μ8 (fun r11 μ10 => aw Γ M_X5_fill 38 [aR 5 0, aR 10 i1, aX, aI x3, aI x4, aI x5, aI r11, aI (x7 + (1 : Int32)), aX, aX, aX] [] μ10 (rV Q))))))))))))) : aw Γ M_X5_fill 38 [aR 5 0, aR 10 i1, aX, aI x3, aI x4, aI x5, aI x6, aI x7, aX, aX, aX] [] μ (rV Q) := by
  refine aw_iload dX5_fill_38 rfl ?_
  refine aw_aload_n dX5_fill_40 rfl ?_
  refine aw_get dX5_fill_41 rfl fk_RX5_25 (look_I rfl : look μ 10 i1 1 = aI (μ 10 i1 1)) ?_
  refine aw_icmp_ge (tgt := 133) dX5_fill_44 (by decide) (fun c0 => ?_) (fun c0 => ?_)
  · replace h := h.1 c0
    exact aw_vret dX5_fill_133 rfl h
  · replace h := h.2 c0
    refine aw_aload_n dX5_fill_47 rfl ?_
    refine aw_get dX5_fill_48 rfl fk_RX5_28 (look_R rfl rfl : look _ 10 i1 0 = aR 21 i1) ?_
    refine aw_iload dX5_fill_51 rfl ?_
    refine aw_ia (j := tn x7) (y := μ 21 i1 (tn x7)) dX5_fill_53 rfl (fun _ => rfl) h.1 rfl (rfl) ?_
    replace h := h.2
    refine aw_istore (ls' := [aR 5 0, aR 10 i1, aX, aI x3, aI x4, aI x5, aI x6, aI x7, aI (μ 21 i1 (tn x7)), aX, aX]) dX5_fill_54 (by decide) rfl rfl ?_
    refine aw_iconst (v := (1 : Int32)) dX5_fill_56 rfl ?_
    refine aw_bipush (v := (8 : Int32)) dX5_fill_57 rfl ?_
    refine aw_bipush (v := (32 : Int32)) dX5_fill_59 rfl ?_
    refine aw_iload dX5_fill_61 rfl ?_
    refine aw_imul dX5_fill_63 ?_
    refine aw_iload dX5_fill_64 rfl ?_
    refine aw_iadd dX5_fill_66 ?_
    refine aw_iconst (v := (2 : Int32)) dX5_fill_67 rfl ?_
    refine aw_iload dX5_fill_68 rfl ?_
    refine aw_imul dX5_fill_70 ?_
    refine aw_idiv dX5_fill_71 h.1 ?_
    replace h := h.2
    refine aw_callS (M' := M_J9_min_7cf53) (vs := [aI (8 : Int32), aI ((((32 : Int32) * (μ 21 i1 (tn x7))) + x6) / ((2 : Int32) * x6))]) (st := [aI (1 : Int32)]) dX5_fill_72 mk_J9_min_7cf53 ms_J9_min_7cf53 ml_RX5_31 mp_J9_min_7cf53 rm_X5_fill__J9_min_7cf53 (Nat.le_of_ble_eq_true rfl) rfl (cw_mono h ?_)
    clear h
    rintro _ μ1 ⟨r2, rfl, h⟩
    show aw Γ M_X5_fill 75 [aR 5 0, aR 10 i1, aX, aI x3, aI x4, aI x5, aI x6, aI x7, aI (μ 21 i1 (tn x7)), aX, aX] [aI r2, aI (1 : Int32)] μ1 (rV Q)
    refine aw_callS (M' := M_J9_max_7cf53) (vs := [aI (1 : Int32), aI r2]) (st := []) dX5_fill_75 mk_J9_max_7cf53 ms_J9_max_7cf53 ml_RX5_19 mp_J9_max_7cf53 rm_X5_fill__J9_max_7cf53 (Nat.le_of_ble_eq_true rfl) rfl (cw_mono h ?_)
    clear h
    rintro _ μ3 ⟨r4, rfl, h⟩
    show aw Γ M_X5_fill 78 [aR 5 0, aR 10 i1, aX, aI x3, aI x4, aI x5, aI x6, aI x7, aI (μ 21 i1 (tn x7)), aX, aX] [aI r4] μ3 (rV Q)
    refine aw_istore (ls' := [aR 5 0, aR 10 i1, aX, aI x3, aI x4, aI x5, aI x6, aI x7, aI (μ 21 i1 (tn x7)), aI r4, aX]) dX5_fill_78 (by decide) rfl rfl ?_
    refine aw_aload_n dX5_fill_80 rfl ?_
    refine aw_iload dX5_fill_81 rfl ?_
    refine aw_callV (M' := M_X5_push) (K := 5) (i := 0) (vs := [aI r4]) (st := []) dX5_fill_83 mk_X5_push mi_X5_push ml_RX5_34 mp_X5_push rc_5 rm_X5_fill__X5_push (Nat.le_of_ble_eq_true rfl) rfl (cw_mono h ?_)
    clear h
    intro _ μ5 h
    show aw Γ M_X5_fill 86 [aR 5 0, aR 10 i1, aX, aI x3, aI x4, aI x5, aI x6, aI x7, aI (μ 21 i1 (tn x7)), aI r4, aX] [] μ5 (rV Q)
    refine aw_bipush (v := (16 : Int32)) dX5_fill_86 rfl ?_
    refine aw_iload dX5_fill_88 rfl ?_
    refine aw_imul dX5_fill_90 ?_
    refine aw_iload dX5_fill_91 rfl ?_
    refine aw_idiv dX5_fill_93 h.1 ?_
    replace h := h.2
    refine aw_iload dX5_fill_94 rfl ?_
    refine aw_isub dX5_fill_96 ?_
    refine aw_istore (ls' := [aR 5 0, aR 10 i1, aX, aI x3, aI x4, aI x5, aI x6, aI x7, aI (μ 21 i1 (tn x7)), aI r4, aI ((((16 : Int32) * (μ 21 i1 (tn x7))) / r4) - x6)]) dX5_fill_97 (by decide) rfl rfl ?_
    refine aw_iload dX5_fill_99 rfl ?_
    refine aw_iload dX5_fill_101 rfl ?_
    refine aw_iload_n dX5_fill_103 rfl ?_
    refine aw_imul dX5_fill_104 ?_
    refine aw_bipush (v := (32 : Int32)) dX5_fill_105 rfl ?_
    refine aw_callS (M' := M_J9_floorDiv_7cf53) (vs := [aI (((((16 : Int32) * (μ 21 i1 (tn x7))) / r4) - x6) * x3), aI (32 : Int32)]) (st := [aI x6]) dX5_fill_107 mk_J9_floorDiv_7cf53 ms_J9_floorDiv_7cf53 ml_RX5_38 mp_J9_floorDiv_7cf53 rm_X5_fill__J9_floorDiv_7cf53 (Nat.le_of_ble_eq_true rfl) rfl (cw_mono h ?_)
    clear h
    rintro _ μ6 ⟨r7, rfl, h⟩
    show aw Γ M_X5_fill 110 [aR 5 0, aR 10 i1, aX, aI x3, aI x4, aI x5, aI x6, aI x7, aI (μ 21 i1 (tn x7)), aI r4, aI ((((16 : Int32) * (μ 21 i1 (tn x7))) / r4) - x6)] [aI r7, aI x6] μ6 (rV Q)
    refine aw_iadd dX5_fill_110 ?_
    refine aw_istore (ls' := [aR 5 0, aR 10 i1, aX, aI x3, aI x4, aI x5, aI (x6 + r7), aI x7, aI (μ 21 i1 (tn x7)), aI r4, aI ((((16 : Int32) * (μ 21 i1 (tn x7))) / r4) - x6)]) dX5_fill_111 (by decide) rfl rfl ?_
    refine aw_iload dX5_fill_113 rfl ?_
    refine aw_iload dX5_fill_115 rfl ?_
    refine aw_iload dX5_fill_117 rfl ?_
    refine aw_callS (M' := M_J9_min_7cf53) (vs := [aI x5, aI (x6 + r7)]) (st := [aI x4]) dX5_fill_119 mk_J9_min_7cf53 ms_J9_min_7cf53 ml_RX5_31 mp_J9_min_7cf53 rm_X5_fill__J9_min_7cf53 (Nat.le_of_ble_eq_true rfl) rfl (cw_mono h ?_)
    clear h
    rintro _ μ8 ⟨r9, rfl, h⟩
    show aw Γ M_X5_fill 122 [aR 5 0, aR 10 i1, aX, aI x3, aI x4, aI x5, aI (x6 + r7), aI x7, aI (μ 21 i1 (tn x7)), aI r4, aI ((((16 : Int32) * (μ 21 i1 (tn x7))) / r4) - x6)] [aI r9, aI x4] μ8 (rV Q)
    refine aw_callS (M' := M_J9_max_7cf53) (vs := [aI x4, aI r9]) (st := []) dX5_fill_122 mk_J9_max_7cf53 ms_J9_max_7cf53 ml_RX5_19 mp_J9_max_7cf53 rm_X5_fill__J9_max_7cf53 (Nat.le_of_ble_eq_true rfl) rfl (cw_mono h ?_)
    clear h
    rintro _ μ10 ⟨r11, rfl, h⟩
    show aw Γ M_X5_fill 125 [aR 5 0, aR 10 i1, aX, aI x3, aI x4, aI x5, aI (x6 + r7), aI x7, aI (μ 21 i1 (tn x7)), aI r4, aI ((((16 : Int32) * (μ 21 i1 (tn x7))) / r4) - x6)] [aI r11] μ10 (rV Q)
    refine aw_istore (ls' := [aR 5 0, aR 10 i1, aX, aI x3, aI x4, aI x5, aI r11, aI x7, aI (μ 21 i1 (tn x7)), aI r4, aI ((((16 : Int32) * (μ 21 i1 (tn x7))) / r4) - x6)]) dX5_fill_125 (by decide) rfl rfl ?_
    refine aw_iinc (v := x7 + (1 : Int32)) (ls' := [aR 5 0, aR 10 i1, aX, aI x3, aI x4, aI x5, aI r11, aI (x7 + (1 : Int32)), aI (μ 21 i1 (tn x7)), aI r4, aI ((((16 : Int32) * (μ 21 i1 (tn x7))) / r4) - x6)]) dX5_fill_127 rfl rfl (by decide) rfl rfl ?_
    refine aw_goto (tgt := 38) dX5_fill_130 (by decide) ?_
    exact aw_wkk h (wk_e (wk_e (wk_e (wk_e (wk_e (wk_e (wk_e (wk_e (wk_x (wk_x (wk_x wk_n)))))))))))
theorem u_X5_push {Γ : cx_T} {μ : mH} {x1 : Int32} {Q : mH → Prop} (h : (((μ 5 0 1) + x1) ≤ (2560 : Int32) → (aw Γ M_X5_push 17 [aR 5 0, aI x1, aI (1 : Int32)] [] μ (rV Q))) ∧ (¬ ((μ 5 0 1) + x1) ≤ (2560 : Int32) → (Q μ))) : cwv Γ M_X5_push [aR 5 0, aI x1] μ Q := by
  refine cw_ofU (ls := [aR 5 0, aI x1, aX]) (Or.inl (by decide)) rfl (Nat.le_of_ble_eq_true rfl) rfl ?_
  refine aw_aload_n dX5_push_0 rfl ?_
  refine aw_get dX5_push_1 rfl fk_RX5_15 (look_I rfl : look μ 5 0 1 = aI (μ 5 0 1)) ?_
  refine aw_iload_n dX5_push_4 rfl ?_
  refine aw_iadd dX5_push_5 ?_
  refine aw_aload_n dX5_push_6 rfl ?_
  refine aw_get dX5_push_7 rfl fk_RX5_9 (look_R rfl rfl : look _ 5 0 0 = aR 22 0) ?_
  refine aw_alen (v := (2560 : Int32)) dX5_push_10 rfl rfl ?_
  refine aw_icmp_le (tgt := 15) dX5_push_11 (by decide) (fun c0 => ?_) (fun c0 => ?_)
  · replace h := h.1 c0
    refine aw_iconst (v := (1 : Int32)) dX5_push_15 rfl ?_
    refine aw_istore_n (ls' := [aR 5 0, aI x1, aI (1 : Int32)]) dX5_push_16 (by decide) rfl rfl ?_
    exact h
  · replace h := h.2 c0
    exact aw_vret dX5_push_14 rfl h
theorem u_X5_push_17 {Γ : cx_T} {μ : mH} {x1 : Int32} {x2 : Int32} {Q : mH → Prop} (h : (x1 ≤ x2 → (vp_in (μ 5 0 1) 2560 ∧ (Q (sto (sto μ 22 0 (tn (μ 5 0 1)) (1 : Int32)) 5 0 1 ((μ 5 0 1) + (1 : Int32)))))) ∧ (¬ x1 ≤ x2 → (vp_in (μ 5 0 1) 2560 ∧ (aw Γ M_X5_push 17 [aR 5 0, aI x1, aI (x2 + (1 : Int32))] [] (sto (sto μ 22 0 (tn (μ 5 0 1)) (0 : Int32)) 5 0 1 ((μ 5 0 1) + (1 : Int32))) (rV Q))))) : aw Γ M_X5_push 17 [aR 5 0, aI x1, aI x2] [] μ (rV Q) := by
  refine aw_iload_n dX5_push_17 rfl ?_
  refine aw_iload_n dX5_push_18 rfl ?_
  refine aw_icmp_ge (tgt := 48) dX5_push_19 (by decide) (fun c0 => ?_) (fun c0 => ?_)
  · replace h := h.1 c0
    refine aw_aload_n dX5_push_48 rfl ?_
    refine aw_get dX5_push_49 rfl fk_RX5_9 (look_R rfl rfl : look _ 5 0 0 = aR 22 0) ?_
    refine aw_aload_n dX5_push_52 rfl ?_
    refine aw_get dX5_push_53 rfl fk_RX5_15 (look_I rfl : look μ 5 0 1 = aI (μ 5 0 1)) ?_
    refine aw_iconst (v := (1 : Int32)) dX5_push_56 rfl ?_
    refine aw_is (j := tn (μ 5 0 1)) dX5_push_57 rfl (fun _ => rfl) h.1 rfl ?_
    replace h := h.2
    refine aw_aload_n dX5_push_58 rfl ?_
    refine aw_dup dX5_push_59 (fun _ => rfl) ?_
    refine aw_get dX5_push_60 rfl fk_RX5_15 ((look_I rfl).trans (congrArg aI ((sto_K (by decide)).trans (rfl))) : look (sto μ 22 0 (tn (μ 5 0 1)) (1 : Int32)) 5 0 1 = aI (μ 5 0 1)) ?_
    refine aw_iconst (v := (1 : Int32)) dX5_push_63 rfl ?_
    refine aw_iadd dX5_push_64 ?_
    refine aw_putI dX5_push_65 rfl fk_RX5_15 (fun r h => by cases h; rfl) rfl rfl ?_
    exact aw_vret dX5_push_68 rfl h
  · replace h := h.2 c0
    refine aw_aload_n dX5_push_22 rfl ?_
    refine aw_get dX5_push_23 rfl fk_RX5_9 (look_R rfl rfl : look _ 5 0 0 = aR 22 0) ?_
    refine aw_aload_n dX5_push_26 rfl ?_
    refine aw_get dX5_push_27 rfl fk_RX5_15 (look_I rfl : look μ 5 0 1 = aI (μ 5 0 1)) ?_
    refine aw_iconst (v := (0 : Int32)) dX5_push_30 rfl ?_
    refine aw_is (j := tn (μ 5 0 1)) dX5_push_31 rfl (fun _ => rfl) h.1 rfl ?_
    replace h := h.2
    refine aw_aload_n dX5_push_32 rfl ?_
    refine aw_dup dX5_push_33 (fun _ => rfl) ?_
    refine aw_get dX5_push_34 rfl fk_RX5_15 ((look_I rfl).trans (congrArg aI ((sto_K (by decide)).trans (rfl))) : look (sto μ 22 0 (tn (μ 5 0 1)) (0 : Int32)) 5 0 1 = aI (μ 5 0 1)) ?_
    refine aw_iconst (v := (1 : Int32)) dX5_push_37 rfl ?_
    refine aw_iadd dX5_push_38 ?_
    refine aw_putI dX5_push_39 rfl fk_RX5_15 (fun r h => by cases h; rfl) rfl rfl ?_
    refine aw_iinc (v := x2 + (1 : Int32)) (ls' := [aR 5 0, aI x1, aI (x2 + (1 : Int32))]) dX5_push_42 rfl rfl (by decide) rfl rfl ?_
    refine aw_goto (tgt := 17) dX5_push_45 (by decide) ?_
    exact h
theorem u_X10_push {Γ : cx_T} {μ : mH} {i0 : Nat} {x1 : Int32} {Q : mH → Prop} (h : aw Γ M_X10_push 2 [aR 10 i0, aI x1, aI (0 : Int32), aX] [] μ (rV Q)) : cwv Γ M_X10_push [aR 10 i0, aI x1] μ Q := by
  refine cw_ofU (ls := [aR 10 i0, aI x1, aX, aX]) (Or.inl (by decide)) rfl (Nat.le_of_ble_eq_true rfl) rfl ?_
  refine aw_iconst (v := (0 : Int32)) dX10_push_0 rfl ?_
  refine aw_istore_n (ls' := [aR 10 i0, aI x1, aI (0 : Int32), aX]) dX10_push_1 (by decide) rfl rfl ?_
  exact h
theorem u_X10_push_2 {Γ : cx_T} {μ : mH} {i0 : Nat} {x1 : Int32} {x2 : Int32} {Q : mH → Prop} (h : ((4 : Int32) ≤ x2 → (Q μ)) ∧ (¬ (4 : Int32) ≤ x2 → (cwi Γ M_X11_byteOf [aI x1, aI x2] μ (fun r2 μ1 => (r2 = 0 → (aw Γ M_X10_push 2 [aR 10 i0, aI x1, aI (x2 + (1 : Int32)), aX] [] μ1 (rV Q))) ∧ (¬ r2 = 0 → (((320 : Int32) ≤ (μ1 10 i0 1) → (aw Γ M_X10_push 2 [aR 10 i0, aI x1, aI (x2 + (1 : Int32)), aX] [] μ1 (rV Q))) ∧ (¬ (320 : Int32) ≤ (μ1 10 i0 1) → (vp_in (μ1 10 i0 1) 320 ∧ (aw Γ M_X10_push 2 [aR 10 i0, aI x1, aI (x2 + (1 : Int32)), aX] [] (sto (sto μ1 21 i0 (tn (μ1 10 i0 1)) r2) 10 i0 1 ((μ1 10 i0 1) + (1 : Int32))) (rV Q)))))))))) : aw Γ M_X10_push 2 [aR 10 i0, aI x1, aI x2, aX] [] μ (rV Q) := by
  refine aw_iload_n dX10_push_2 rfl ?_
  refine aw_iconst (v := (4 : Int32)) dX10_push_3 rfl ?_
  refine aw_icmp_ge (tgt := 53) dX10_push_4 (by decide) (fun c0 => ?_) (fun c0 => ?_)
  · replace h := h.1 c0
    exact aw_vret dX10_push_53 rfl h
  · replace h := h.2 c0
    refine aw_iload_n dX10_push_7 rfl ?_
    refine aw_iload_n dX10_push_8 rfl ?_
    refine aw_callSN (M' := M_X11_byteOf) (vs := [aI x1, aI x2]) (st := []) dX10_push_9 mk_X11_byteOf ms_X11_byteOf ml_RX10_15 mp_X11_byteOf rm_X10_push__X11_byteOf (Nat.le_of_ble_eq_true rfl) rfl (cw_mono h ?_)
    clear h
    rintro _ μ1 ⟨r2, rfl, h⟩
    show aw Γ M_X10_push 12 [aR 10 i0, aI x1, aI x2, aX] [aI r2] μ1 (rV Q)
    refine aw_istore_n (ls' := [aR 10 i0, aI x1, aI x2, aI r2]) dX10_push_12 (by decide) rfl rfl ?_
    refine aw_iload_n dX10_push_13 rfl ?_
    refine aw_if_eq (tgt := 47) dX10_push_14 (by decide) (fun c0 => ?_) (fun c0 => ?_)
    · replace h := h.1 c0
      refine aw_iinc (v := x2 + (1 : Int32)) (ls' := [aR 10 i0, aI x1, aI (x2 + (1 : Int32)), aI r2]) dX10_push_47 rfl rfl (by decide) rfl rfl ?_
      refine aw_goto (tgt := 2) dX10_push_50 (by decide) ?_
      exact aw_wkk h (wk_e (wk_e (wk_e (wk_x wk_n))))
    · replace h := h.2 c0
      refine aw_aload_n dX10_push_17 rfl ?_
      refine aw_get dX10_push_18 rfl fk_RX10_19 (look_I rfl : look μ1 10 i0 1 = aI (μ1 10 i0 1)) ?_
      refine aw_sipush (v := (320 : Int32)) dX10_push_21 rfl ?_
      refine aw_icmp_ge (tgt := 47) dX10_push_24 (by decide) (fun c0 => ?_) (fun c0 => ?_)
      · replace h := h.1 c0
        refine aw_iinc (v := x2 + (1 : Int32)) (ls' := [aR 10 i0, aI x1, aI (x2 + (1 : Int32)), aI r2]) dX10_push_47 rfl rfl (by decide) rfl rfl ?_
        refine aw_goto (tgt := 2) dX10_push_50 (by decide) ?_
        exact aw_wkk h (wk_e (wk_e (wk_e (wk_x wk_n))))
      · replace h := h.2 c0
        refine aw_aload_n dX10_push_27 rfl ?_
        refine aw_get dX10_push_28 rfl fk_RX10_9 (look_R rfl rfl : look _ 10 i0 0 = aR 21 i0) ?_
        refine aw_aload_n dX10_push_31 rfl ?_
        refine aw_get dX10_push_32 rfl fk_RX10_19 (look_I rfl : look μ1 10 i0 1 = aI (μ1 10 i0 1)) ?_
        refine aw_iload_n dX10_push_35 rfl ?_
        refine aw_is (j := tn (μ1 10 i0 1)) dX10_push_36 rfl (fun _ => rfl) h.1 rfl ?_
        replace h := h.2
        refine aw_aload_n dX10_push_37 rfl ?_
        refine aw_dup dX10_push_38 (fun _ => rfl) ?_
        refine aw_get dX10_push_39 rfl fk_RX10_19 ((look_I rfl).trans (congrArg aI ((sto_K (by decide)).trans (rfl))) : look (sto μ1 21 i0 (tn (μ1 10 i0 1)) r2) 10 i0 1 = aI (μ1 10 i0 1)) ?_
        refine aw_iconst (v := (1 : Int32)) dX10_push_42 rfl ?_
        refine aw_iadd dX10_push_43 ?_
        refine aw_putI dX10_push_44 rfl fk_RX10_19 (fun r h => by cases h; rfl) rfl rfl ?_
        refine aw_iinc (v := x2 + (1 : Int32)) (ls' := [aR 10 i0, aI x1, aI (x2 + (1 : Int32)), aI r2]) dX10_push_47 rfl rfl (by decide) rfl rfl ?_
        refine aw_goto (tgt := 2) dX10_push_50 (by decide) ?_
        exact aw_wkk h (wk_e (wk_e (wk_e (wk_x wk_n))))
theorem u_X10_take {Γ : cx_T} {μ : mH} {i0 : Nat} {i2 : Nat} {Q : mH → Prop} (h : ¬ (μ 10 i2 1) < 0 ∧ tn (μ 10 i2 1) ≤ 320 ∧ (Q (sto (cpy μ 21 i2 21 i0 0 0 (tn (μ 10 i2 1))) 10 i0 1 (μ 10 i2 1)))) : cwv Γ M_X10_take [aR 10 i0, aR 10 i2] μ Q := by
  refine cw_ofU (ls := [aR 10 i0, aR 10 i2]) (Or.inl (by decide)) rfl (Nat.le_of_ble_eq_true rfl) rfl ?_
  refine aw_aload_n dX10_take_0 rfl ?_
  refine aw_get dX10_take_1 rfl fk_RX10_9 (look_R rfl rfl : look _ 10 i2 0 = aR 21 i2) ?_
  refine aw_iconst (v := (0 : Int32)) dX10_take_4 rfl ?_
  refine aw_aload_n dX10_take_5 rfl ?_
  refine aw_get dX10_take_6 rfl fk_RX10_9 (look_R rfl rfl : look _ 10 i0 0 = aR 21 i0) ?_
  refine aw_iconst (v := (0 : Int32)) dX10_take_9 rfl ?_
  refine aw_aload_n dX10_take_10 rfl ?_
  refine aw_get dX10_take_11 rfl fk_RX10_19 (look_I rfl : look μ 10 i2 1 = aI (μ 10 i2 1)) ?_
  refine aw_copy0 dX10_take_14 ml_RX10_23 rfl rfl (fun _ => rfl) (fun _ => rfl) h.1 (le_trans2 h.2.1 (by decide)) (le_trans2 h.2.1 (by decide)) (by decide) (by decide) ?_
  replace h := h.2.2
  refine aw_aload_n dX10_take_17 rfl ?_
  refine aw_aload_n dX10_take_18 rfl ?_
  refine aw_get dX10_take_19 rfl fk_RX10_19 ((look_I rfl).trans (congrArg aI ((if_neg (fun q => absurd q.1 (by decide))).trans (rfl))) : look (cpy μ 21 i2 21 i0 0 0 (tn (μ 10 i2 1))) 10 i2 1 = aI (μ 10 i2 1)) ?_
  refine aw_putI dX10_take_22 rfl fk_RX10_19 (fun r h => by cases h; rfl) rfl rfl ?_
  exact aw_vret dX10_take_25 rfl h
