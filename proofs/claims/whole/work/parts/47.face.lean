theorem u_X11_feed {Γ : cx_T} {μ : mH} {x1 : Int32} {x2 : Int32} {x3 : Int32} {x4 : Int32} {x5 : Int32} {Q : Int32 → mH → Prop} (h : (((μ 2 0 1) + (20 : Int32)) ≤ (200 : Int32) → (cwv Γ M_X2_push [aR 2 0, aI x1] μ (fun μ1 => cwv Γ M_X2_push [aR 2 0, aI x2] μ1 (fun μ2 => cwv Γ M_X2_push [aR 2 0, aI x3] μ2 (fun μ3 => cwv Γ M_X2_push [aR 2 0, aI x4] μ3 (fun μ4 => cwv Γ M_X2_push [aR 2 0, aI x5] μ4 (fun μ5 => Q (μ5 2 0 1) μ5))))))) ∧ (¬ ((μ 2 0 1) + (20 : Int32)) ≤ (200 : Int32) → (Q (-1 : Int32) μ))) : cwi Γ M_X11_feed [aR 11 0, aI x1, aI x2, aI x3, aI x4, aI x5] μ Q := by
  refine cw_ofU (ls := [aR 11 0, aI x1, aI x2, aI x3, aI x4, aI x5]) (Or.inl (by decide)) rfl (Nat.le_of_ble_eq_true rfl) rfl ?_
  refine aw_aload_n dX11_feed_0 rfl ?_
  refine aw_get dX11_feed_1 rfl fk_RX11_10 (look_R rfl rfl : look _ 11 0 0 = aR 2 0) ?_
  refine aw_get dX11_feed_4 rfl fk_RX11_68 (look_I rfl : look μ 2 0 1 = aI (μ 2 0 1)) ?_
  refine aw_bipush (v := (20 : Int32)) dX11_feed_7 rfl ?_
  refine aw_iadd dX11_feed_9 ?_
  refine aw_sipush (v := (200 : Int32)) dX11_feed_10 rfl ?_
  refine aw_icmp_le (tgt := 18) dX11_feed_13 (by decide) (fun c0 => ?_) (fun c0 => ?_)
  · replace h := h.1 c0
    refine aw_aload_n dX11_feed_18 rfl ?_
    refine aw_get dX11_feed_19 rfl fk_RX11_10 (look_R rfl rfl : look _ 11 0 0 = aR 2 0) ?_
    refine aw_iload_n dX11_feed_22 rfl ?_
    refine aw_callV (M' := M_X2_push) (K := 2) (i := 0) (vs := [aI x1]) (st := []) dX11_feed_23 mk_X2_push mi_X2_push ml_RX11_72 mp_X2_push rc_2 rm_X11_feed__X2_push (Nat.le_of_ble_eq_true rfl) rfl (cw_mono h ?_)
    clear h
    intro _ μ1 h
    show aw Γ M_X11_feed 26 [aR 11 0, aI x1, aI x2, aI x3, aI x4, aI x5] [] μ1 (rI Q)
    refine aw_aload_n dX11_feed_26 rfl ?_
    refine aw_get dX11_feed_27 rfl fk_RX11_10 (look_R rfl rfl : look _ 11 0 0 = aR 2 0) ?_
    refine aw_iload_n dX11_feed_30 rfl ?_
    refine aw_callV (M' := M_X2_push) (K := 2) (i := 0) (vs := [aI x2]) (st := []) dX11_feed_31 mk_X2_push mi_X2_push ml_RX11_72 mp_X2_push rc_2 rm_X11_feed__X2_push (Nat.le_of_ble_eq_true rfl) rfl (cw_mono h ?_)
    clear h
    intro _ μ2 h
    show aw Γ M_X11_feed 34 [aR 11 0, aI x1, aI x2, aI x3, aI x4, aI x5] [] μ2 (rI Q)
    refine aw_aload_n dX11_feed_34 rfl ?_
    refine aw_get dX11_feed_35 rfl fk_RX11_10 (look_R rfl rfl : look _ 11 0 0 = aR 2 0) ?_
    refine aw_iload_n dX11_feed_38 rfl ?_
    refine aw_callV (M' := M_X2_push) (K := 2) (i := 0) (vs := [aI x3]) (st := []) dX11_feed_39 mk_X2_push mi_X2_push ml_RX11_72 mp_X2_push rc_2 rm_X11_feed__X2_push (Nat.le_of_ble_eq_true rfl) rfl (cw_mono h ?_)
    clear h
    intro _ μ3 h
    show aw Γ M_X11_feed 42 [aR 11 0, aI x1, aI x2, aI x3, aI x4, aI x5] [] μ3 (rI Q)
    refine aw_aload_n dX11_feed_42 rfl ?_
    refine aw_get dX11_feed_43 rfl fk_RX11_10 (look_R rfl rfl : look _ 11 0 0 = aR 2 0) ?_
    refine aw_iload dX11_feed_46 rfl ?_
    refine aw_callV (M' := M_X2_push) (K := 2) (i := 0) (vs := [aI x4]) (st := []) dX11_feed_48 mk_X2_push mi_X2_push ml_RX11_72 mp_X2_push rc_2 rm_X11_feed__X2_push (Nat.le_of_ble_eq_true rfl) rfl (cw_mono h ?_)
    clear h
    intro _ μ4 h
    show aw Γ M_X11_feed 51 [aR 11 0, aI x1, aI x2, aI x3, aI x4, aI x5] [] μ4 (rI Q)
    refine aw_aload_n dX11_feed_51 rfl ?_
    refine aw_get dX11_feed_52 rfl fk_RX11_10 (look_R rfl rfl : look _ 11 0 0 = aR 2 0) ?_
    refine aw_iload dX11_feed_55 rfl ?_
    refine aw_callV (M' := M_X2_push) (K := 2) (i := 0) (vs := [aI x5]) (st := []) dX11_feed_57 mk_X2_push mi_X2_push ml_RX11_72 mp_X2_push rc_2 rm_X11_feed__X2_push (Nat.le_of_ble_eq_true rfl) rfl (cw_mono h ?_)
    clear h
    intro _ μ5 h
    show aw Γ M_X11_feed 60 [aR 11 0, aI x1, aI x2, aI x3, aI x4, aI x5] [] μ5 (rI Q)
    refine aw_aload_n dX11_feed_60 rfl ?_
    refine aw_get dX11_feed_61 rfl fk_RX11_10 (look_R rfl rfl : look _ 11 0 0 = aR 2 0) ?_
    refine aw_get dX11_feed_64 rfl fk_RX11_68 (look_I rfl : look μ5 2 0 1 = aI (μ5 2 0 1)) ?_
    exact aw_iret dX11_feed_67 rfl rfl ⟨_, rfl, h⟩
  · replace h := h.2 c0
    refine aw_iconst (v := (-1 : Int32)) dX11_feed_16 rfl ?_
    exact aw_iret dX11_feed_17 rfl rfl ⟨_, rfl, h⟩
theorem u_X11_end {Γ : cx_T} {μ : mH} {x1 : Int32} {Q : Int32 → mH → Prop} (h : (x1 < 0 → (Q (0 : Int32) μ)) ∧ (¬ x1 < 0 → ((x1 ≤ (μ 2 0 1) → (Q (1 : Int32) (sto μ 2 0 1 x1))) ∧ (¬ x1 ≤ (μ 2 0 1) → (Q (0 : Int32) μ))))) : cwi Γ M_X11_end [aR 11 0, aI x1] μ Q := by
  refine cw_ofU (ls := [aR 11 0, aI x1]) (Or.inl (by decide)) rfl (Nat.le_of_ble_eq_true rfl) rfl ?_
  refine aw_iload_n dX11_end_0 rfl ?_
  refine aw_if_lt (tgt := 15) dX11_end_1 (by decide) (fun c0 => ?_) (fun c0 => ?_)
  · replace h := h.1 c0
    refine aw_iconst (v := (0 : Int32)) dX11_end_15 rfl ?_
    exact aw_iret (ty := .boolean) dX11_end_16 rfl (by decide) ⟨_, rfl, h⟩
  · replace h := h.2 c0
    refine aw_iload_n dX11_end_4 rfl ?_
    refine aw_aload_n dX11_end_5 rfl ?_
    refine aw_get dX11_end_6 rfl fk_RX11_10 (look_R rfl rfl : look _ 11 0 0 = aR 2 0) ?_
    refine aw_get dX11_end_9 rfl fk_RX11_68 (look_I rfl : look μ 2 0 1 = aI (μ 2 0 1)) ?_
    refine aw_icmp_le (tgt := 17) dX11_end_12 (by decide) (fun c0 => ?_) (fun c0 => ?_)
    · replace h := h.1 c0
      refine aw_aload_n dX11_end_17 rfl ?_
      refine aw_get dX11_end_18 rfl fk_RX11_10 (look_R rfl rfl : look _ 11 0 0 = aR 2 0) ?_
      refine aw_iload_n dX11_end_21 rfl ?_
      refine aw_putI dX11_end_22 rfl fk_RX11_68 (fun r h => by cases h; rfl) rfl rfl ?_
      refine aw_iconst (v := (1 : Int32)) dX11_end_25 rfl ?_
      exact aw_iret (ty := .boolean) dX11_end_26 rfl (by decide) ⟨_, rfl, h⟩
    · replace h := h.2 c0
      refine aw_iconst (v := (0 : Int32)) dX11_end_15 rfl ?_
      exact aw_iret (ty := .boolean) dX11_end_16 rfl (by decide) ⟨_, rfl, h⟩
theorem u_X11_fault {Γ : cx_T} {μ : mH}  {Q : Int32 → mH → Prop} (h : cwi Γ M_X2_parse [aR 2 0, aR 4 0] μ (fun r2 μ1 => Q r2 μ1)) : cwi Γ M_X11_fault [aR 11 0] μ Q := by
  refine cw_ofU (ls := [aR 11 0]) (Or.inl (by decide)) rfl (Nat.le_of_ble_eq_true rfl) rfl ?_
  refine aw_aload_n dX11_fault_0 rfl ?_
  refine aw_get dX11_fault_1 rfl fk_RX11_10 (look_R rfl rfl : look _ 11 0 0 = aR 2 0) ?_
  refine aw_aload_n dX11_fault_4 rfl ?_
  refine aw_get dX11_fault_5 rfl fk_RX11_19 (look_R rfl rfl : look _ 11 0 1 = aR 4 0) ?_
  refine aw_callV (M' := M_X2_parse) (K := 2) (i := 0) (vs := [aR 4 0]) (st := []) dX11_fault_8 mk_X2_parse mi_X2_parse ml_RX11_76 mp_X2_parse rc_2 rm_X11_fault__X2_parse (Nat.le_of_ble_eq_true rfl) rfl (cw_mono h ?_)
  clear h
  rintro _ μ1 ⟨r2, rfl, h⟩
  show aw Γ M_X11_fault 11 [aR 11 0] [aI r2] μ1 (rI Q)
  exact aw_iret dX11_fault_11 rfl rfl ⟨_, rfl, h⟩
theorem u_X11_format {Γ : cx_T} {μ : mH}  {Q : Int32 → mH → Prop} (h : cwi Γ M_X2_parse [aR 2 0, aR 4 0] μ (fun r2 μ1 => (r2 = (-1 : Int32) → (cwv Γ M_X4_take [aR 4 1, aR 4 0] μ1 (fun μ3 => cwv Γ M_X3_forget [aR 3 0] (sto (sto (sto μ3 2 0 1 (0 : Int32)) 10 0 1 (0 : Int32)) 8 0 1 (0 : Int32)) (fun μ4 => Q (μ4 4 1 4) μ4)))) ∧ (¬ r2 = (-1 : Int32) → (Q (-1 : Int32) μ1)))) : cwi Γ M_X11_format [aR 11 0] μ Q := by
  refine cw_ofU (ls := [aR 11 0]) (Or.inl (by decide)) rfl (Nat.le_of_ble_eq_true rfl) rfl ?_
  refine aw_aload_n dX11_format_0 rfl ?_
  refine aw_get dX11_format_1 rfl fk_RX11_10 (look_R rfl rfl : look _ 11 0 0 = aR 2 0) ?_
  refine aw_aload_n dX11_format_4 rfl ?_
  refine aw_get dX11_format_5 rfl fk_RX11_19 (look_R rfl rfl : look _ 11 0 1 = aR 4 0) ?_
  refine aw_callV (M' := M_X2_parse) (K := 2) (i := 0) (vs := [aR 4 0]) (st := []) dX11_format_8 mk_X2_parse mi_X2_parse ml_RX11_76 mp_X2_parse rc_2 rm_X11_format__X2_parse (Nat.le_of_ble_eq_true rfl) rfl (cw_mono h ?_)
  clear h
  rintro _ μ1 ⟨r2, rfl, h⟩
  show aw Γ M_X11_format 11 [aR 11 0] [aI r2] μ1 (rI Q)
  refine aw_iconst (v := (-1 : Int32)) dX11_format_11 rfl ?_
  refine aw_icmp_eq (tgt := 17) dX11_format_12 (by decide) (fun c0 => ?_) (fun c0 => ?_)
  · replace h := h.1 c0
    refine aw_aload_n dX11_format_17 rfl ?_
    refine aw_get dX11_format_18 rfl fk_RX11_23 (look_R rfl rfl : look _ 11 0 2 = aR 4 1) ?_
    refine aw_aload_n dX11_format_21 rfl ?_
    refine aw_get dX11_format_22 rfl fk_RX11_19 (look_R rfl rfl : look _ 11 0 1 = aR 4 0) ?_
    refine aw_callV (M' := M_X4_take) (K := 4) (i := 1) (vs := [aR 4 0]) (st := []) dX11_format_25 mk_X4_take mi_X4_take ml_RX11_80 mp_X4_take rc_4 rm_X11_format__X4_take (Nat.le_of_ble_eq_true rfl) rfl (cw_mono h ?_)
    clear h
    intro _ μ3 h
    show aw Γ M_X11_format 28 [aR 11 0] [] μ3 (rI Q)
    refine aw_aload_n dX11_format_28 rfl ?_
    refine aw_get dX11_format_29 rfl fk_RX11_10 (look_R rfl rfl : look _ 11 0 0 = aR 2 0) ?_
    refine aw_iconst (v := (0 : Int32)) dX11_format_32 rfl ?_
    refine aw_putI dX11_format_33 rfl fk_RX11_68 (fun r h => by cases h; rfl) rfl rfl ?_
    refine aw_aload_n dX11_format_36 rfl ?_
    refine aw_get dX11_format_37 rfl fk_RX11_29 (look_R rfl rfl : look _ 11 0 3 = aR 10 0) ?_
    refine aw_iconst (v := (0 : Int32)) dX11_format_40 rfl ?_
    refine aw_putI dX11_format_41 rfl fk_RX11_84 (fun r h => by cases h; rfl) rfl rfl ?_
    refine aw_aload_n dX11_format_44 rfl ?_
    refine aw_get dX11_format_45 rfl fk_RX11_43 (look_R rfl rfl : look _ 11 0 5 = aR 8 0) ?_
    refine aw_iconst (v := (0 : Int32)) dX11_format_48 rfl ?_
    refine aw_putI dX11_format_49 rfl fk_RX11_85 (fun r h => by cases h; rfl) rfl rfl ?_
    refine aw_aload_n dX11_format_52 rfl ?_
    refine aw_get dX11_format_53 rfl fk_RX11_50 (look_R rfl rfl : look _ 11 0 6 = aR 3 0) ?_
    refine aw_callV (M' := M_X3_forget) (K := 3) (i := 0) (vs := []) (st := []) dX11_format_56 mk_X3_forget mi_X3_forget ml_RX11_86 mp_X3_forget rc_3 rm_X11_format__X3_forget (Nat.le_of_ble_eq_true rfl) rfl (cw_mono h ?_)
    clear h
    intro _ μ4 h
    show aw Γ M_X11_format 59 [aR 11 0] [] μ4 (rI Q)
    refine aw_aload_n dX11_format_59 rfl ?_
    refine aw_get dX11_format_60 rfl fk_RX11_23 (look_R rfl rfl : look _ 11 0 2 = aR 4 1) ?_
    refine aw_get dX11_format_63 rfl fk_RX11_89 (look_I rfl : look μ4 4 1 4 = aI (μ4 4 1 4)) ?_
    exact aw_iret dX11_format_66 rfl rfl ⟨_, rfl, h⟩
  · replace h := h.2 c0
    refine aw_iconst (v := (-1 : Int32)) dX11_format_15 rfl ?_
    exact aw_iret dX11_format_16 rfl rfl ⟨_, rfl, h⟩
theorem u_X11_flux {Γ : cx_T} {μ : mH} {x1 : Int32} {x2 : Int32} {x3 : Int32} {x4 : Int32} {x5 : Int32} {Q : Int32 → mH → Prop} (h : cwi Γ M_X11_stepsIn [aI x1] μ (fun r2 μ1 => cwi Γ M_X11_stepsIn [aI x2] μ1 (fun r4 μ3 => cwi Γ M_X11_stepsIn [aI x3] μ3 (fun r6 μ5 => cwi Γ M_X11_stepsIn [aI x4] μ5 (fun r8 μ7 => cwi Γ M_X11_stepsIn [aI x5] μ7 (fun r10 μ9 => (((μ9 10 0 1) + ((((r2 + r4) + r6) + r8) + r10)) ≤ (320 : Int32) → (cwv Γ M_X10_push [aR 10 0, aI x1] μ9 (fun μ11 => cwv Γ M_X10_push [aR 10 0, aI x2] μ11 (fun μ12 => cwv Γ M_X10_push [aR 10 0, aI x3] μ12 (fun μ13 => cwv Γ M_X10_push [aR 10 0, aI x4] μ13 (fun μ14 => cwv Γ M_X10_push [aR 10 0, aI x5] μ14 (fun μ15 => Q (μ15 10 0 1) μ15))))))) ∧ (¬ ((μ9 10 0 1) + ((((r2 + r4) + r6) + r8) + r10)) ≤ (320 : Int32) → (Q (-1 : Int32) μ9)))))))) : cwi Γ M_X11_flux [aR 11 0, aI x1, aI x2, aI x3, aI x4, aI x5] μ Q := by
  refine cw_ofU (ls := [aR 11 0, aI x1, aI x2, aI x3, aI x4, aI x5, aX]) (Or.inl (by decide)) rfl (Nat.le_of_ble_eq_true rfl) rfl ?_
  refine aw_iload_n dX11_flux_0 rfl ?_
  refine aw_callS (M' := M_X11_stepsIn) (vs := [aI x1]) (st := []) dX11_flux_1 mk_X11_stepsIn ms_X11_stepsIn ml_RX11_90 mp_X11_stepsIn rm_X11_flux__X11_stepsIn (Nat.le_of_ble_eq_true rfl) rfl (cw_mono h ?_)
  clear h
  rintro _ μ1 ⟨r2, rfl, h⟩
  show aw Γ M_X11_flux 4 [aR 11 0, aI x1, aI x2, aI x3, aI x4, aI x5, aX] [aI r2] μ1 (rI Q)
  refine aw_iload_n dX11_flux_4 rfl ?_
  refine aw_callS (M' := M_X11_stepsIn) (vs := [aI x2]) (st := [aI r2]) dX11_flux_5 mk_X11_stepsIn ms_X11_stepsIn ml_RX11_90 mp_X11_stepsIn rm_X11_flux__X11_stepsIn (Nat.le_of_ble_eq_true rfl) rfl (cw_mono h ?_)
  clear h
  rintro _ μ3 ⟨r4, rfl, h⟩
  show aw Γ M_X11_flux 8 [aR 11 0, aI x1, aI x2, aI x3, aI x4, aI x5, aX] [aI r4, aI r2] μ3 (rI Q)
  refine aw_iadd dX11_flux_8 ?_
  refine aw_iload_n dX11_flux_9 rfl ?_
  refine aw_callS (M' := M_X11_stepsIn) (vs := [aI x3]) (st := [aI (r2 + r4)]) dX11_flux_10 mk_X11_stepsIn ms_X11_stepsIn ml_RX11_90 mp_X11_stepsIn rm_X11_flux__X11_stepsIn (Nat.le_of_ble_eq_true rfl) rfl (cw_mono h ?_)
  clear h
  rintro _ μ5 ⟨r6, rfl, h⟩
  show aw Γ M_X11_flux 13 [aR 11 0, aI x1, aI x2, aI x3, aI x4, aI x5, aX] [aI r6, aI (r2 + r4)] μ5 (rI Q)
  refine aw_iadd dX11_flux_13 ?_
  refine aw_iload dX11_flux_14 rfl ?_
  refine aw_callS (M' := M_X11_stepsIn) (vs := [aI x4]) (st := [aI ((r2 + r4) + r6)]) dX11_flux_16 mk_X11_stepsIn ms_X11_stepsIn ml_RX11_90 mp_X11_stepsIn rm_X11_flux__X11_stepsIn (Nat.le_of_ble_eq_true rfl) rfl (cw_mono h ?_)
  clear h
  rintro _ μ7 ⟨r8, rfl, h⟩
  show aw Γ M_X11_flux 19 [aR 11 0, aI x1, aI x2, aI x3, aI x4, aI x5, aX] [aI r8, aI ((r2 + r4) + r6)] μ7 (rI Q)
  refine aw_iadd dX11_flux_19 ?_
  refine aw_iload dX11_flux_20 rfl ?_
  refine aw_callS (M' := M_X11_stepsIn) (vs := [aI x5]) (st := [aI (((r2 + r4) + r6) + r8)]) dX11_flux_22 mk_X11_stepsIn ms_X11_stepsIn ml_RX11_90 mp_X11_stepsIn rm_X11_flux__X11_stepsIn (Nat.le_of_ble_eq_true rfl) rfl (cw_mono h ?_)
  clear h
  rintro _ μ9 ⟨r10, rfl, h⟩
  show aw Γ M_X11_flux 25 [aR 11 0, aI x1, aI x2, aI x3, aI x4, aI x5, aX] [aI r10, aI (((r2 + r4) + r6) + r8)] μ9 (rI Q)
  refine aw_iadd dX11_flux_25 ?_
  refine aw_istore (ls' := [aR 11 0, aI x1, aI x2, aI x3, aI x4, aI x5, aI ((((r2 + r4) + r6) + r8) + r10)]) dX11_flux_26 (by decide) rfl rfl ?_
  refine aw_aload_n dX11_flux_28 rfl ?_
  refine aw_get dX11_flux_29 rfl fk_RX11_29 (look_R rfl rfl : look _ 11 0 3 = aR 10 0) ?_
  refine aw_get dX11_flux_32 rfl fk_RX11_84 (look_I rfl : look μ9 10 0 1 = aI (μ9 10 0 1)) ?_
  refine aw_iload dX11_flux_35 rfl ?_
  refine aw_iadd dX11_flux_37 ?_
  refine aw_sipush (v := (320 : Int32)) dX11_flux_38 rfl ?_
  refine aw_icmp_le (tgt := 46) dX11_flux_41 (by decide) (fun c0 => ?_) (fun c0 => ?_)
  · replace h := h.1 c0
    refine aw_aload_n dX11_flux_46 rfl ?_
    refine aw_get dX11_flux_47 rfl fk_RX11_29 (look_R rfl rfl : look _ 11 0 3 = aR 10 0) ?_
    refine aw_iload_n dX11_flux_50 rfl ?_
    refine aw_callV (M' := M_X10_push) (K := 10) (i := 0) (vs := [aI x1]) (st := []) dX11_flux_51 mk_X10_push mi_X10_push ml_RX11_94 mp_X10_push rc_10 rm_X11_flux__X10_push (Nat.le_of_ble_eq_true rfl) rfl (cw_mono h ?_)
    clear h
    intro _ μ11 h
    show aw Γ M_X11_flux 54 [aR 11 0, aI x1, aI x2, aI x3, aI x4, aI x5, aI ((((r2 + r4) + r6) + r8) + r10)] [] μ11 (rI Q)
    refine aw_aload_n dX11_flux_54 rfl ?_
    refine aw_get dX11_flux_55 rfl fk_RX11_29 (look_R rfl rfl : look _ 11 0 3 = aR 10 0) ?_
    refine aw_iload_n dX11_flux_58 rfl ?_
    refine aw_callV (M' := M_X10_push) (K := 10) (i := 0) (vs := [aI x2]) (st := []) dX11_flux_59 mk_X10_push mi_X10_push ml_RX11_94 mp_X10_push rc_10 rm_X11_flux__X10_push (Nat.le_of_ble_eq_true rfl) rfl (cw_mono h ?_)
    clear h
    intro _ μ12 h
    show aw Γ M_X11_flux 62 [aR 11 0, aI x1, aI x2, aI x3, aI x4, aI x5, aI ((((r2 + r4) + r6) + r8) + r10)] [] μ12 (rI Q)
    refine aw_aload_n dX11_flux_62 rfl ?_
    refine aw_get dX11_flux_63 rfl fk_RX11_29 (look_R rfl rfl : look _ 11 0 3 = aR 10 0) ?_
    refine aw_iload_n dX11_flux_66 rfl ?_
    refine aw_callV (M' := M_X10_push) (K := 10) (i := 0) (vs := [aI x3]) (st := []) dX11_flux_67 mk_X10_push mi_X10_push ml_RX11_94 mp_X10_push rc_10 rm_X11_flux__X10_push (Nat.le_of_ble_eq_true rfl) rfl (cw_mono h ?_)
    clear h
    intro _ μ13 h
    show aw Γ M_X11_flux 70 [aR 11 0, aI x1, aI x2, aI x3, aI x4, aI x5, aI ((((r2 + r4) + r6) + r8) + r10)] [] μ13 (rI Q)
    refine aw_aload_n dX11_flux_70 rfl ?_
    refine aw_get dX11_flux_71 rfl fk_RX11_29 (look_R rfl rfl : look _ 11 0 3 = aR 10 0) ?_
    refine aw_iload dX11_flux_74 rfl ?_
    refine aw_callV (M' := M_X10_push) (K := 10) (i := 0) (vs := [aI x4]) (st := []) dX11_flux_76 mk_X10_push mi_X10_push ml_RX11_94 mp_X10_push rc_10 rm_X11_flux__X10_push (Nat.le_of_ble_eq_true rfl) rfl (cw_mono h ?_)
    clear h
    intro _ μ14 h
    show aw Γ M_X11_flux 79 [aR 11 0, aI x1, aI x2, aI x3, aI x4, aI x5, aI ((((r2 + r4) + r6) + r8) + r10)] [] μ14 (rI Q)
    refine aw_aload_n dX11_flux_79 rfl ?_
    refine aw_get dX11_flux_80 rfl fk_RX11_29 (look_R rfl rfl : look _ 11 0 3 = aR 10 0) ?_
    refine aw_iload dX11_flux_83 rfl ?_
    refine aw_callV (M' := M_X10_push) (K := 10) (i := 0) (vs := [aI x5]) (st := []) dX11_flux_85 mk_X10_push mi_X10_push ml_RX11_94 mp_X10_push rc_10 rm_X11_flux__X10_push (Nat.le_of_ble_eq_true rfl) rfl (cw_mono h ?_)
    clear h
    intro _ μ15 h
    show aw Γ M_X11_flux 88 [aR 11 0, aI x1, aI x2, aI x3, aI x4, aI x5, aI ((((r2 + r4) + r6) + r8) + r10)] [] μ15 (rI Q)
    refine aw_aload_n dX11_flux_88 rfl ?_
    refine aw_get dX11_flux_89 rfl fk_RX11_29 (look_R rfl rfl : look _ 11 0 3 = aR 10 0) ?_
    refine aw_get dX11_flux_92 rfl fk_RX11_84 (look_I rfl : look μ15 10 0 1 = aI (μ15 10 0 1)) ?_
    exact aw_iret dX11_flux_95 rfl rfl ⟨_, rfl, h⟩
  · replace h := h.2 c0
    refine aw_iconst (v := (-1 : Int32)) dX11_flux_44 rfl ?_
    exact aw_iret dX11_flux_45 rfl rfl ⟨_, rfl, h⟩
theorem u_X11_wipe {Γ : cx_T} {μ : mH}  {Q : Int32 → mH → Prop} (h : Q (μ 10 0 1) (sto μ 10 0 1 (0 : Int32))) : cwi Γ M_X11_wipe [aR 11 0] μ Q := by
  refine cw_ofU (ls := [aR 11 0, aX]) (Or.inl (by decide)) rfl (Nat.le_of_ble_eq_true rfl) rfl ?_
  refine aw_aload_n dX11_wipe_0 rfl ?_
  refine aw_get dX11_wipe_1 rfl fk_RX11_29 (look_R rfl rfl : look _ 11 0 3 = aR 10 0) ?_
  refine aw_get dX11_wipe_4 rfl fk_RX11_84 (look_I rfl : look μ 10 0 1 = aI (μ 10 0 1)) ?_
  refine aw_istore_n (ls' := [aR 11 0, aI (μ 10 0 1)]) dX11_wipe_7 (by decide) rfl rfl ?_
  refine aw_aload_n dX11_wipe_8 rfl ?_
  refine aw_get dX11_wipe_9 rfl fk_RX11_29 (look_R rfl rfl : look _ 11 0 3 = aR 10 0) ?_
  refine aw_iconst (v := (0 : Int32)) dX11_wipe_12 rfl ?_
  refine aw_putI dX11_wipe_13 rfl fk_RX11_84 (fun r h => by cases h; rfl) rfl rfl ?_
  refine aw_iload_n dX11_wipe_16 rfl ?_
  exact aw_iret dX11_wipe_17 rfl rfl ⟨_, rfl, h⟩
theorem u_X11_read {Γ : cx_T} {μ : mH} {x1 : Int32} {Q : Int32 → mH → Prop} (h : ((μ 4 1 0) = 0 → (Q (-1 : Int32) μ)) ∧ (¬ (μ 4 1 0) = 0 → (cwi Γ M_X11_isDrive [aI x1] μ (fun r2 μ1 => (r2 = 0 → (Q (-1 : Int32) μ1)) ∧ (¬ r2 = 0 → (((μ1 8 0 1) < (10 : Int32) → (cwv Γ M_X8_put [aR 8 0, aR 10 0, aI x1, aR 4 1, aR 5 0] μ1 (fun μ3 => cwv Γ M_X3_forget [aR 3 0] (sto μ3 10 0 1 (0 : Int32)) (fun μ4 => Q ((μ4 8 0 1) - (1 : Int32)) μ4)))) ∧ (¬ (μ1 8 0 1) < (10 : Int32) → (Q (-1 : Int32) μ1)))))))) : cwi Γ M_X11_read [aR 11 0, aI x1] μ Q := by
  refine cw_ofU (ls := [aR 11 0, aI x1]) (Or.inl (by decide)) rfl (Nat.le_of_ble_eq_true rfl) rfl ?_
  refine aw_aload_n dX11_read_0 rfl ?_
  refine aw_get dX11_read_1 rfl fk_RX11_23 (look_R rfl rfl : look _ 11 0 2 = aR 4 1) ?_
  refine aw_get dX11_read_4 rfl fk_RX11_95 (look_I rfl : look μ 4 1 0 = aI (μ 4 1 0)) ?_
  refine aw_if_eq (tgt := 29) dX11_read_7 (by decide) (fun c0 => ?_) (fun c0 => ?_)
  · replace h := h.1 c0
    refine aw_iconst (v := (-1 : Int32)) dX11_read_29 rfl ?_
    exact aw_iret dX11_read_30 rfl rfl ⟨_, rfl, h⟩
  · replace h := h.2 c0
    refine aw_iload_n dX11_read_10 rfl ?_
    refine aw_callS (M' := M_X11_isDrive) (vs := [aI x1]) (st := []) dX11_read_11 mk_X11_isDrive ms_X11_isDrive ml_RX11_99 mp_X11_isDrive rm_X11_read__X11_isDrive (Nat.le_of_ble_eq_true rfl) rfl (cw_mono h ?_)
    clear h
    rintro _ μ1 ⟨r2, rfl, h⟩
    show aw Γ M_X11_read 14 [aR 11 0, aI x1] [aI r2] μ1 (rI Q)
    refine aw_if_eq (tgt := 29) dX11_read_14 (by decide) (fun c0 => ?_) (fun c0 => ?_)
    · replace h := h.1 c0
      refine aw_iconst (v := (-1 : Int32)) dX11_read_29 rfl ?_
      exact aw_iret dX11_read_30 rfl rfl ⟨_, rfl, h⟩
    · replace h := h.2 c0
      refine aw_aload_n dX11_read_17 rfl ?_
      refine aw_get dX11_read_18 rfl fk_RX11_43 (look_R rfl rfl : look _ 11 0 5 = aR 8 0) ?_
      refine aw_get dX11_read_21 rfl fk_RX11_85 (look_I rfl : look μ1 8 0 1 = aI (μ1 8 0 1)) ?_
      refine aw_bipush (v := (10 : Int32)) dX11_read_24 rfl ?_
      refine aw_icmp_lt (tgt := 31) dX11_read_26 (by decide) (fun c0 => ?_) (fun c0 => ?_)
      · replace h := h.1 c0
        refine aw_aload_n dX11_read_31 rfl ?_
        refine aw_get dX11_read_32 rfl fk_RX11_43 (look_R rfl rfl : look _ 11 0 5 = aR 8 0) ?_
        refine aw_aload_n dX11_read_35 rfl ?_
        refine aw_get dX11_read_36 rfl fk_RX11_29 (look_R rfl rfl : look _ 11 0 3 = aR 10 0) ?_
        refine aw_iload_n dX11_read_39 rfl ?_
        refine aw_aload_n dX11_read_40 rfl ?_
        refine aw_get dX11_read_41 rfl fk_RX11_23 (look_R rfl rfl : look _ 11 0 2 = aR 4 1) ?_
        refine aw_aload_n dX11_read_44 rfl ?_
        refine aw_get dX11_read_45 rfl fk_RX11_36 (look_R rfl rfl : look _ 11 0 4 = aR 5 0) ?_
        refine aw_callV (M' := M_X8_put) (K := 8) (i := 0) (vs := [aR 10 0, aI x1, aR 4 1, aR 5 0]) (st := []) dX11_read_48 mk_X8_put mi_X8_put ml_RX11_103 mp_X8_put rc_8 rm_X11_read__X8_put (Nat.le_of_ble_eq_true rfl) rfl (cw_mono h ?_)
        clear h
        intro _ μ3 h
        show aw Γ M_X11_read 51 [aR 11 0, aI x1] [] μ3 (rI Q)
        refine aw_aload_n dX11_read_51 rfl ?_
        refine aw_get dX11_read_52 rfl fk_RX11_29 (look_R rfl rfl : look _ 11 0 3 = aR 10 0) ?_
        refine aw_iconst (v := (0 : Int32)) dX11_read_55 rfl ?_
        refine aw_putI dX11_read_56 rfl fk_RX11_84 (fun r h => by cases h; rfl) rfl rfl ?_
        refine aw_aload_n dX11_read_59 rfl ?_
        refine aw_get dX11_read_60 rfl fk_RX11_50 (look_R rfl rfl : look _ 11 0 6 = aR 3 0) ?_
        refine aw_callV (M' := M_X3_forget) (K := 3) (i := 0) (vs := []) (st := []) dX11_read_63 mk_X3_forget mi_X3_forget ml_RX11_86 mp_X3_forget rc_3 rm_X11_read__X3_forget (Nat.le_of_ble_eq_true rfl) rfl (cw_mono h ?_)
        clear h
        intro _ μ4 h
        show aw Γ M_X11_read 66 [aR 11 0, aI x1] [] μ4 (rI Q)
        refine aw_aload_n dX11_read_66 rfl ?_
        refine aw_get dX11_read_67 rfl fk_RX11_43 (look_R rfl rfl : look _ 11 0 5 = aR 8 0) ?_
        refine aw_get dX11_read_70 rfl fk_RX11_85 (look_I rfl : look μ4 8 0 1 = aI (μ4 8 0 1)) ?_
        refine aw_iconst (v := (1 : Int32)) dX11_read_73 rfl ?_
        refine aw_isub dX11_read_74 ?_
        exact aw_iret dX11_read_75 rfl rfl ⟨_, rfl, h⟩
      · replace h := h.2 c0
        refine aw_iconst (v := (-1 : Int32)) dX11_read_29 rfl ?_
        exact aw_iret dX11_read_30 rfl rfl ⟨_, rfl, h⟩
theorem u_X11_raw {Γ : cx_T} {μ : mH} {x1 : Int32} {x2 : Int32} {x3 : Int32} {Q : Int32 → mH → Prop} (h : (x1 < (8 : Int32) → (Q (-1 : Int32) μ)) ∧ (¬ x1 < (8 : Int32) → (((60 : Int32) < x1 → (Q (-1 : Int32) μ)) ∧ (¬ (60 : Int32) < x1 → ((x2 < 0 → (Q (-1 : Int32) μ)) ∧ (¬ x2 < 0 → ((x2 ≤ (8 : Int32) → (cwv Γ M_X5_fill [aR 5 0, aR 10 0, aI x1, aI x2] μ (fun μ1 => (¬ x3 = (-1 : Int32) → ((x3 < 0 → (Q (-1 : Int32) μ1)) ∧ (¬ x3 < 0 → (((μ1 5 0 1) ≤ x3 → (Q (-1 : Int32) μ1)) ∧ (¬ (μ1 5 0 1) ≤ x3 → (vp_in x3 2560 ∧ (Q (μ1 22 0 (tn x3)) μ1))))))) ∧ (x3 = (-1 : Int32) → (Q (μ1 5 0 1) μ1))))) ∧ (¬ x2 ≤ (8 : Int32) → (Q (-1 : Int32) μ))))))))) : cwi Γ M_X11_raw [aR 11 0, aI x1, aI x2, aI x3] μ Q := by
  refine cw_ofU (ls := [aR 11 0, aI x1, aI x2, aI x3]) (Or.inl (by decide)) rfl (Nat.le_of_ble_eq_true rfl) rfl ?_
  refine aw_iload_n dX11_raw_0 rfl ?_
  refine aw_bipush (v := (8 : Int32)) dX11_raw_1 rfl ?_
  refine aw_icmp_lt (tgt := 22) dX11_raw_3 (by decide) (fun c0 => ?_) (fun c0 => ?_)
  · replace h := h.1 c0
    refine aw_iconst (v := (-1 : Int32)) dX11_raw_22 rfl ?_
    exact aw_iret dX11_raw_23 rfl rfl ⟨_, rfl, h⟩
  · replace h := h.2 c0
    refine aw_iload_n dX11_raw_6 rfl ?_
    refine aw_bipush (v := (60 : Int32)) dX11_raw_7 rfl ?_
    refine aw_icmp_gt (tgt := 22) dX11_raw_9 (by decide) (fun c0 => ?_) (fun c0 => ?_)
    · replace h := h.1 c0
      refine aw_iconst (v := (-1 : Int32)) dX11_raw_22 rfl ?_
      exact aw_iret dX11_raw_23 rfl rfl ⟨_, rfl, h⟩
    · replace h := h.2 c0
      refine aw_iload_n dX11_raw_12 rfl ?_
      refine aw_if_lt (tgt := 22) dX11_raw_13 (by decide) (fun c0 => ?_) (fun c0 => ?_)
      · replace h := h.1 c0
        refine aw_iconst (v := (-1 : Int32)) dX11_raw_22 rfl ?_
        exact aw_iret dX11_raw_23 rfl rfl ⟨_, rfl, h⟩
      · replace h := h.2 c0
        refine aw_iload_n dX11_raw_16 rfl ?_
        refine aw_bipush (v := (8 : Int32)) dX11_raw_17 rfl ?_
        refine aw_icmp_le (tgt := 24) dX11_raw_19 (by decide) (fun c0 => ?_) (fun c0 => ?_)
        · replace h := h.1 c0
          refine aw_aload_n dX11_raw_24 rfl ?_
          refine aw_get dX11_raw_25 rfl fk_RX11_36 (look_R rfl rfl : look _ 11 0 4 = aR 5 0) ?_
          refine aw_aload_n dX11_raw_28 rfl ?_
          refine aw_get dX11_raw_29 rfl fk_RX11_29 (look_R rfl rfl : look _ 11 0 3 = aR 10 0) ?_
          refine aw_iload_n dX11_raw_32 rfl ?_
          refine aw_iload_n dX11_raw_33 rfl ?_
          refine aw_callV (M' := M_X5_fill) (K := 5) (i := 0) (vs := [aR 10 0, aI x1, aI x2]) (st := []) dX11_raw_34 mk_X5_fill mi_X5_fill ml_RX11_107 mp_X5_fill rc_5 rm_X11_raw__X5_fill (Nat.le_of_ble_eq_true rfl) rfl (cw_mono h ?_)
          clear h
          intro _ μ1 h
          show aw Γ M_X11_raw 37 [aR 11 0, aI x1, aI x2, aI x3] [] μ1 (rI Q)
          refine aw_iload_n dX11_raw_37 rfl ?_
          refine aw_iconst (v := (-1 : Int32)) dX11_raw_38 rfl ?_
          refine aw_icmp_ne (tgt := 50) dX11_raw_39 (by decide) (fun c0 => ?_) (fun c0 => ?_)
          · replace h := h.1 c0
            refine aw_iload_n dX11_raw_50 rfl ?_
            refine aw_if_lt (tgt := 77) dX11_raw_51 (by decide) (fun c0 => ?_) (fun c0 => ?_)
            · replace h := h.1 c0
              refine aw_iconst (v := (-1 : Int32)) dX11_raw_77 rfl ?_
              exact aw_iret dX11_raw_78 rfl rfl ⟨_, rfl, h⟩
            · replace h := h.2 c0
              refine aw_iload_n dX11_raw_54 rfl ?_
              refine aw_aload_n dX11_raw_55 rfl ?_
              refine aw_get dX11_raw_56 rfl fk_RX11_36 (look_R rfl rfl : look _ 11 0 4 = aR 5 0) ?_
              refine aw_get dX11_raw_59 rfl fk_RX11_111 (look_I rfl : look μ1 5 0 1 = aI (μ1 5 0 1)) ?_
              refine aw_icmp_ge (tgt := 77) dX11_raw_62 (by decide) (fun c0 => ?_) (fun c0 => ?_)
              · replace h := h.1 c0
                refine aw_iconst (v := (-1 : Int32)) dX11_raw_77 rfl ?_
                exact aw_iret dX11_raw_78 rfl rfl ⟨_, rfl, h⟩
              · replace h := h.2 c0
                refine aw_aload_n dX11_raw_65 rfl ?_
                refine aw_get dX11_raw_66 rfl fk_RX11_36 (look_R rfl rfl : look _ 11 0 4 = aR 5 0) ?_
                refine aw_get dX11_raw_69 rfl fk_RX11_112 (look_R rfl rfl : look _ 5 0 0 = aR 22 0) ?_
                refine aw_iload_n dX11_raw_72 rfl ?_
                refine aw_ia (j := tn x3) (y := μ1 22 0 (tn x3)) dX11_raw_73 rfl (fun _ => rfl) h.1 rfl (rfl) ?_
                replace h := h.2
                refine aw_goto (tgt := 78) dX11_raw_74 (by decide) ?_
                exact aw_iret dX11_raw_78 rfl rfl ⟨_, rfl, h⟩
          · replace h := h.2 c0
            refine aw_aload_n dX11_raw_42 rfl ?_
            refine aw_get dX11_raw_43 rfl fk_RX11_36 (look_R rfl rfl : look _ 11 0 4 = aR 5 0) ?_
            refine aw_get dX11_raw_46 rfl fk_RX11_111 (look_I rfl : look μ1 5 0 1 = aI (μ1 5 0 1)) ?_
            exact aw_iret dX11_raw_49 rfl rfl ⟨_, rfl, h⟩
        · replace h := h.2 c0
          refine aw_iconst (v := (-1 : Int32)) dX11_raw_22 rfl ?_
          exact aw_iret dX11_raw_23 rfl rfl ⟨_, rfl, h⟩
theorem u_X11_found {Γ : cx_T} {μ : mH} {x1 : Int32} {x2 : Int32} {x3 : Int32} {Q : Int32 → mH → Prop} (h : cwi Γ M_X8_holds [aR 8 0, aI x1] μ (fun r2 μ1 => (¬ r2 = 0 → (vp_in x1 10 ∧ ((¬ x2 = (-1 : Int32) → ((x2 < 0 → (Q (-1 : Int32) μ1)) ∧ (¬ x2 < 0 → ((x2 < (μ1 1 (tn x1) 1) → (vp_in x2 8 ∧ (cwi Γ M_X11_ofSector [aR 11 0, aR 7 (8 * (tn x1) + (tn x2)), aI x3] μ1 (fun r4 μ3 => Q r4 μ3)))) ∧ (¬ x2 < (μ1 1 (tn x1) 1) → (Q (-1 : Int32) μ1)))))) ∧ (x2 = (-1 : Int32) → (Q (μ1 1 (tn x1) 1) μ1))))) ∧ (r2 = 0 → (Q (-1 : Int32) μ1)))) : cwi Γ M_X11_found [aR 11 0, aI x1, aI x2, aI x3] μ Q := by
  refine cw_ofU (ls := [aR 11 0, aI x1, aI x2, aI x3, aX]) (Or.inl (by decide)) rfl (Nat.le_of_ble_eq_true rfl) rfl ?_
  refine aw_aload_n dX11_found_0 rfl ?_
  refine aw_get dX11_found_1 rfl fk_RX11_43 (look_R rfl rfl : look _ 11 0 5 = aR 8 0) ?_
  refine aw_iload_n dX11_found_4 rfl ?_
  refine aw_callV (M' := M_X8_holds) (K := 8) (i := 0) (vs := [aI x1]) (st := []) dX11_found_5 mk_X8_holds mi_X8_holds ml_RX11_116 mp_X8_holds rc_8 rm_X11_found__X8_holds (Nat.le_of_ble_eq_true rfl) rfl (cw_mono h ?_)
  clear h
  rintro _ μ1 ⟨r2, rfl, h⟩
  show aw Γ M_X11_found 8 [aR 11 0, aI x1, aI x2, aI x3, aX] [aI r2] μ1 (rI Q)
  refine aw_if_ne (tgt := 13) dX11_found_8 (by decide) (fun c0 => ?_) (fun c0 => ?_)
  · replace h := h.1 c0
    refine aw_aload_n dX11_found_13 rfl ?_
    refine aw_get dX11_found_14 rfl fk_RX11_43 (look_R rfl rfl : look _ 11 0 5 = aR 8 0) ?_
    refine aw_get dX11_found_17 rfl fk_RX11_119 (look_R rfl rfl : look _ 8 0 0 = aR 25 0) ?_
    refine aw_iload_n dX11_found_20 rfl ?_
    refine aw_aald dX11_found_21 rfl rfl h.1 ((congrArg (look _ 25 0) (show Int32.toNatClampNeg x1 = tn x1 from rfl)).trans (look_R rfl rfl) : look _ 25 0 _ = aR 9 (tn x1)) ?_
    replace h := h.2
    refine aw_get dX11_found_22 rfl fk_RX11_123 (look_R rfl rfl : look _ 9 (tn x1) 1 = aR 1 (tn x1)) ?_
    refine aw_astore (ls' := [aR 11 0, aI x1, aI x2, aI x3, aR 1 (tn x1)]) dX11_found_25 (by decide) rfl rfl ?_
    refine aw_iload_n dX11_found_27 rfl ?_
    refine aw_iconst (v := (-1 : Int32)) dX11_found_28 rfl ?_
    refine aw_icmp_ne (tgt := 38) dX11_found_29 (by decide) (fun c0 => ?_) (fun c0 => ?_)
    · replace h := h.1 c0
      refine aw_iload_n dX11_found_38 rfl ?_
      refine aw_if_lt (tgt := 51) dX11_found_39 (by decide) (fun c0 => ?_) (fun c0 => ?_)
      · replace h := h.1 c0
        refine aw_iconst (v := (-1 : Int32)) dX11_found_51 rfl ?_
        exact aw_iret dX11_found_52 rfl rfl ⟨_, rfl, h⟩
      · replace h := h.2 c0
        refine aw_iload_n dX11_found_42 rfl ?_
        refine aw_aload dX11_found_43 rfl ?_
        refine aw_get dX11_found_45 rfl fk_RX11_129 (look_I rfl : look μ1 1 (tn x1) 1 = aI (μ1 1 (tn x1) 1)) ?_
        refine aw_icmp_lt (tgt := 53) dX11_found_48 (by decide) (fun c0 => ?_) (fun c0 => ?_)
        · replace h := h.1 c0
          refine aw_aload_n dX11_found_53 rfl ?_
          refine aw_aload dX11_found_54 rfl ?_
          refine aw_get dX11_found_56 rfl fk_RX11_132 (look_R rfl rfl : look _ 1 (tn x1) 0 = aR 23 (tn x1)) ?_
          refine aw_iload_n dX11_found_59 rfl ?_
          refine aw_aald dX11_found_60 rfl rfl h.1 ((congrArg (look _ 23 (tn x1)) (show Int32.toNatClampNeg x2 = tn x2 from rfl)).trans (look_R rfl rfl) : look _ 23 (tn x1) _ = aR 7 (8 * (tn x1) + (tn x2))) ?_
          replace h := h.2
          refine aw_iload_n dX11_found_61 rfl ?_
          refine aw_callV (M' := M_X11_ofSector) (K := 11) (i := 0) (vs := [aR 7 (8 * (tn x1) + (tn x2)), aI x3]) (st := []) dX11_found_62 mk_X11_ofSector mi_X11_ofSector ml_RX11_136 mp_X11_ofSector rc_11 rm_X11_found__X11_ofSector (Nat.le_of_ble_eq_true rfl) rfl (cw_mono h ?_)
          clear h
          rintro _ μ3 ⟨r4, rfl, h⟩
          show aw Γ M_X11_found 65 [aR 11 0, aI x1, aI x2, aI x3, aR 1 (tn x1)] [aI r4] μ3 (rI Q)
          exact aw_iret dX11_found_65 rfl rfl ⟨_, rfl, h⟩
        · replace h := h.2 c0
          refine aw_iconst (v := (-1 : Int32)) dX11_found_51 rfl ?_
          exact aw_iret dX11_found_52 rfl rfl ⟨_, rfl, h⟩
    · replace h := h.2 c0
      refine aw_aload dX11_found_32 rfl ?_
      refine aw_get dX11_found_34 rfl fk_RX11_129 (look_I rfl : look μ1 1 (tn x1) 1 = aI (μ1 1 (tn x1) 1)) ?_
      exact aw_iret dX11_found_37 rfl rfl ⟨_, rfl, h⟩
  · replace h := h.2 c0
    refine aw_iconst (v := (-1 : Int32)) dX11_found_11 rfl ?_
    exact aw_iret dX11_found_12 rfl rfl ⟨_, rfl, h⟩
theorem u_X11_tuned {Γ : cx_T} {μ : mH} {x1 : Int32} {x2 : Int32} {Q : Int32 → mH → Prop} (h : cwi Γ M_X8_holds [aR 8 0, aI x1] μ (fun r2 μ1 => (r2 = 0 → (Q (-1 : Int32) μ1)) ∧ (¬ r2 = 0 → ((x2 < 0 → (Q (-1 : Int32) μ1)) ∧ (¬ x2 < 0 → ((x2 ≤ (3 : Int32) → (cwv Γ M_X8_tune [aR 8 0, aI x1, aR 4 1, aR 5 0] μ1 (fun μ3 => vp_in x1 10 ∧ ((x2 = (0 : Int32) → (Q (μ3 9 (tn x1) 4) μ3)) ∧ (x2 = (1 : Int32) → (Q (μ3 9 (tn x1) 5) μ3)) ∧ (x2 = (2 : Int32) → (Q (μ3 9 (tn x1) 6) μ3)) ∧ (¬ x2 = (0 : Int32) → ¬ x2 = (1 : Int32) → ¬ x2 = (2 : Int32) → (Q (μ3 9 (tn x1) 7) μ3)))))) ∧ (¬ x2 ≤ (3 : Int32) → (Q (-1 : Int32) μ1)))))))) : cwi Γ M_X11_tuned [aR 11 0, aI x1, aI x2] μ Q := by
  refine cw_ofU (ls := [aR 11 0, aI x1, aI x2, aX]) (Or.inl (by decide)) rfl (Nat.le_of_ble_eq_true rfl) rfl ?_
  refine aw_aload_n dX11_tuned_0 rfl ?_
  refine aw_get dX11_tuned_1 rfl fk_RX11_43 (look_R rfl rfl : look _ 11 0 5 = aR 8 0) ?_
  refine aw_iload_n dX11_tuned_4 rfl ?_
  refine aw_callV (M' := M_X8_holds) (K := 8) (i := 0) (vs := [aI x1]) (st := []) dX11_tuned_5 mk_X8_holds mi_X8_holds ml_RX11_116 mp_X8_holds rc_8 rm_X11_tuned__X8_holds (Nat.le_of_ble_eq_true rfl) rfl (cw_mono h ?_)
  clear h
  rintro _ μ1 ⟨r2, rfl, h⟩
  show aw Γ M_X11_tuned 8 [aR 11 0, aI x1, aI x2, aX] [aI r2] μ1 (rI Q)
  refine aw_if_eq (tgt := 20) dX11_tuned_8 (by decide) (fun c0 => ?_) (fun c0 => ?_)
  · replace h := h.1 c0
    refine aw_iconst (v := (-1 : Int32)) dX11_tuned_20 rfl ?_
    exact aw_iret dX11_tuned_21 rfl rfl ⟨_, rfl, h⟩
  · replace h := h.2 c0
    refine aw_iload_n dX11_tuned_11 rfl ?_
    refine aw_if_lt (tgt := 20) dX11_tuned_12 (by decide) (fun c0 => ?_) (fun c0 => ?_)
    · replace h := h.1 c0
      refine aw_iconst (v := (-1 : Int32)) dX11_tuned_20 rfl ?_
      exact aw_iret dX11_tuned_21 rfl rfl ⟨_, rfl, h⟩
    · replace h := h.2 c0
      refine aw_iload_n dX11_tuned_15 rfl ?_
      refine aw_iconst (v := (3 : Int32)) dX11_tuned_16 rfl ?_
      refine aw_icmp_le (tgt := 22) dX11_tuned_17 (by decide) (fun c0 => ?_) (fun c0 => ?_)
      · replace h := h.1 c0
        refine aw_aload_n dX11_tuned_22 rfl ?_
        refine aw_get dX11_tuned_23 rfl fk_RX11_43 (look_R rfl rfl : look _ 11 0 5 = aR 8 0) ?_
        refine aw_iload_n dX11_tuned_26 rfl ?_
        refine aw_aload_n dX11_tuned_27 rfl ?_
        refine aw_get dX11_tuned_28 rfl fk_RX11_23 (look_R rfl rfl : look _ 11 0 2 = aR 4 1) ?_
        refine aw_aload_n dX11_tuned_31 rfl ?_
        refine aw_get dX11_tuned_32 rfl fk_RX11_36 (look_R rfl rfl : look _ 11 0 4 = aR 5 0) ?_
        refine aw_callV (M' := M_X8_tune) (K := 8) (i := 0) (vs := [aI x1, aR 4 1, aR 5 0]) (st := []) dX11_tuned_35 mk_X8_tune mi_X8_tune ml_RX11_140 mp_X8_tune rc_8 rm_X11_tuned__X8_tune (Nat.le_of_ble_eq_true rfl) rfl (cw_mono h ?_)
        clear h
        intro _ μ3 h
        show aw Γ M_X11_tuned 38 [aR 11 0, aI x1, aI x2, aX] [] μ3 (rI Q)
        refine aw_aload_n dX11_tuned_38 rfl ?_
        refine aw_get dX11_tuned_39 rfl fk_RX11_43 (look_R rfl rfl : look _ 11 0 5 = aR 8 0) ?_
        refine aw_get dX11_tuned_42 rfl fk_RX11_119 (look_R rfl rfl : look _ 8 0 0 = aR 25 0) ?_
        refine aw_iload_n dX11_tuned_45 rfl ?_
        refine aw_aald dX11_tuned_46 rfl rfl h.1 ((congrArg (look _ 25 0) (show Int32.toNatClampNeg x1 = tn x1 from rfl)).trans (look_R rfl rfl) : look _ 25 0 _ = aR 9 (tn x1)) ?_
        replace h := h.2
        refine aw_astore_n (ls' := [aR 11 0, aI x1, aI x2, aR 9 (tn x1)]) dX11_tuned_47 (by decide) rfl rfl ?_
        refine aw_iload_n dX11_tuned_48 rfl ?_
        by_cases c0 : x2 = (0 : Int32)
        · replace h := h.1 c0
          refine aw_tableIn (off := 27) (tgt := 76) dX11_tuned_49 (by rw [c0]; decide) (by rw [c0]; decide) (by rw [c0]; decide) (by decide) ?_
          refine aw_aload_n dX11_tuned_76 rfl ?_
          refine aw_get dX11_tuned_77 rfl fk_RX11_144 (look_I rfl : look μ3 9 (tn x1) 4 = aI (μ3 9 (tn x1) 4)) ?_
          exact aw_iret dX11_tuned_80 rfl rfl ⟨_, rfl, h⟩
        by_cases c1 : x2 = (1 : Int32)
        · replace h := h.2.1 c1
          refine aw_tableIn (off := 32) (tgt := 81) dX11_tuned_49 (by rw [c1]; decide) (by rw [c1]; decide) (by rw [c1]; decide) (by decide) ?_
          refine aw_aload_n dX11_tuned_81 rfl ?_
          refine aw_get dX11_tuned_82 rfl fk_RX11_147 (look_I rfl : look μ3 9 (tn x1) 5 = aI (μ3 9 (tn x1) 5)) ?_
          exact aw_iret dX11_tuned_85 rfl rfl ⟨_, rfl, h⟩
        by_cases c2 : x2 = (2 : Int32)
        · replace h := h.2.2.1 c2
          refine aw_tableIn (off := 37) (tgt := 86) dX11_tuned_49 (by rw [c2]; decide) (by rw [c2]; decide) (by rw [c2]; decide) (by decide) ?_
          refine aw_aload_n dX11_tuned_86 rfl ?_
          refine aw_get dX11_tuned_87 rfl fk_RX11_150 (look_I rfl : look μ3 9 (tn x1) 6 = aI (μ3 9 (tn x1) 6)) ?_
          exact aw_iret dX11_tuned_90 rfl rfl ⟨_, rfl, h⟩
        replace h := h.2.2.2 c0 c1 c2
        refine aw_tableOut (tgt := 91) dX11_tuned_49 (by have e0 := lv_neT c0 (show (0 : Int32).toInt = (0 : Int) by decide); have e1 := lv_neT c1 (show (1 : Int32).toInt = (1 : Int) by decide); have e2 := lv_neT c2 (show (2 : Int32).toInt = (2 : Int) by decide); omega) (by decide) ?_
        refine aw_aload_n dX11_tuned_91 rfl ?_
        refine aw_get dX11_tuned_92 rfl fk_RX11_153 (look_I rfl : look μ3 9 (tn x1) 7 = aI (μ3 9 (tn x1) 7)) ?_
        exact aw_iret dX11_tuned_95 rfl rfl ⟨_, rfl, h⟩
      · replace h := h.2 c0
        refine aw_iconst (v := (-1 : Int32)) dX11_tuned_20 rfl ?_
        exact aw_iret dX11_tuned_21 rfl rfl ⟨_, rfl, h⟩
theorem u_X11_status {Γ : cx_T} {μ : mH} {x1 : Int32} {x2 : Int32} {x3 : Int32} {Q : Int32 → mH → Prop} (h : (x3 < 0 → (Q (-1 : Int32) μ)) ∧ (¬ x3 < 0 → (((2 : Int32) < x3 → (Q (-1 : Int32) μ)) ∧ (¬ (2 : Int32) < x3 → (cwi Γ M_X11_canJudge [aR 11 0, aI x1, aI x2] μ (fun r2 μ1 => (¬ r2 = 0 → (cwv Γ M_X3_judge [aR 3 0, aI x1, aI x2, aR 8 0, aR 4 1] μ1 (fun μ3 => (x3 = (0 : Int32) → (Q (μ3 3 0 2) μ3)) ∧ (x3 = (1 : Int32) → (Q (μ3 3 0 0) μ3)) ∧ (¬ x3 = (0 : Int32) → ¬ x3 = (1 : Int32) → (Q (μ3 3 0 1) μ3))))) ∧ (r2 = 0 → (Q (-1 : Int32) μ1)))))))) : cwi Γ M_X11_status [aR 11 0, aI x1, aI x2, aI x3] μ Q := by
  refine cw_ofU (ls := [aR 11 0, aI x1, aI x2, aI x3]) (Or.inl (by decide)) rfl (Nat.le_of_ble_eq_true rfl) rfl ?_
  refine aw_iload_n dX11_status_0 rfl ?_
  refine aw_if_lt (tgt := 18) dX11_status_1 (by decide) (fun c0 => ?_) (fun c0 => ?_)
  · replace h := h.1 c0
    refine aw_iconst (v := (-1 : Int32)) dX11_status_18 rfl ?_
    exact aw_iret dX11_status_19 rfl rfl ⟨_, rfl, h⟩
  · replace h := h.2 c0
    refine aw_iload_n dX11_status_4 rfl ?_
    refine aw_iconst (v := (2 : Int32)) dX11_status_5 rfl ?_
    refine aw_icmp_gt (tgt := 18) dX11_status_6 (by decide) (fun c0 => ?_) (fun c0 => ?_)
    · replace h := h.1 c0
      refine aw_iconst (v := (-1 : Int32)) dX11_status_18 rfl ?_
      exact aw_iret dX11_status_19 rfl rfl ⟨_, rfl, h⟩
    · replace h := h.2 c0
      refine aw_aload_n dX11_status_9 rfl ?_
      refine aw_iload_n dX11_status_10 rfl ?_
      refine aw_iload_n dX11_status_11 rfl ?_
      refine aw_callV (M' := M_X11_canJudge) (K := 11) (i := 0) (vs := [aI x1, aI x2]) (st := []) dX11_status_12 mk_X11_canJudge mi_X11_canJudge ml_RX11_156 mp_X11_canJudge rc_11 rm_X11_status__X11_canJudge (Nat.le_of_ble_eq_true rfl) rfl (cw_mono h ?_)
      clear h
      rintro _ μ1 ⟨r2, rfl, h⟩
      show aw Γ M_X11_status 15 [aR 11 0, aI x1, aI x2, aI x3] [aI r2] μ1 (rI Q)
      refine aw_if_ne (tgt := 20) dX11_status_15 (by decide) (fun c0 => ?_) (fun c0 => ?_)
      · replace h := h.1 c0
        refine aw_aload_n dX11_status_20 rfl ?_
        refine aw_get dX11_status_21 rfl fk_RX11_50 (look_R rfl rfl : look _ 11 0 6 = aR 3 0) ?_
        refine aw_iload_n dX11_status_24 rfl ?_
        refine aw_iload_n dX11_status_25 rfl ?_
        refine aw_aload_n dX11_status_26 rfl ?_
        refine aw_get dX11_status_27 rfl fk_RX11_43 (look_R rfl rfl : look _ 11 0 5 = aR 8 0) ?_
        refine aw_aload_n dX11_status_30 rfl ?_
        refine aw_get dX11_status_31 rfl fk_RX11_23 (look_R rfl rfl : look _ 11 0 2 = aR 4 1) ?_
        refine aw_callV (M' := M_X3_judge) (K := 3) (i := 0) (vs := [aI x1, aI x2, aR 8 0, aR 4 1]) (st := []) dX11_status_34 mk_X3_judge mi_X3_judge ml_RX11_160 mp_X3_judge rc_3 rm_X11_status__X3_judge (Nat.le_of_ble_eq_true rfl) rfl (cw_mono h ?_)
        clear h
        intro _ μ3 h
        show aw Γ M_X11_status 37 [aR 11 0, aI x1, aI x2, aI x3] [] μ3 (rI Q)
        refine aw_iload_n dX11_status_37 rfl ?_
        by_cases c0 : x3 = (0 : Int32)
        · replace h := h.1 c0
          refine aw_lookup (off := 26) (tgt := 64) dX11_status_38 (by decide) (by rw [c0]; decide) (by decide) ?_
          refine aw_aload_n dX11_status_64 rfl ?_
          refine aw_get dX11_status_65 rfl fk_RX11_50 (look_R rfl rfl : look _ 11 0 6 = aR 3 0) ?_
          refine aw_get dX11_status_68 rfl fk_RX11_164 (look_I rfl : look μ3 3 0 2 = aI (μ3 3 0 2)) ?_
          exact aw_iret dX11_status_71 rfl rfl ⟨_, rfl, h⟩
        by_cases c1 : x3 = (1 : Int32)
        · replace h := h.2.1 c1
          refine aw_lookup (off := 34) (tgt := 72) dX11_status_38 (by decide) (by rw [c1]; decide) (by decide) ?_
          refine aw_aload_n dX11_status_72 rfl ?_
          refine aw_get dX11_status_73 rfl fk_RX11_50 (look_R rfl rfl : look _ 11 0 6 = aR 3 0) ?_
          refine aw_get dX11_status_76 rfl fk_RX11_167 (look_I rfl : look μ3 3 0 0 = aI (μ3 3 0 0)) ?_
          exact aw_iret dX11_status_79 rfl rfl ⟨_, rfl, h⟩
        replace h := h.2.2 c0 c1
        refine aw_lookup (off := 42) (tgt := 80) dX11_status_38 (by decide) (by show Op.lookupswitch.offset [(0, 26), (1, 34)] 42 _ = 42; rw [lv_osw c0 (show (0 : Int32).toInt = (0 : Int) by decide), lv_osw c1 (show (1 : Int32).toInt = (1 : Int) by decide)]; rfl) (by decide) ?_
        refine aw_aload_n dX11_status_80 rfl ?_
        refine aw_get dX11_status_81 rfl fk_RX11_50 (look_R rfl rfl : look _ 11 0 6 = aR 3 0) ?_
        refine aw_get dX11_status_84 rfl fk_RX11_168 (look_I rfl : look μ3 3 0 1 = aI (μ3 3 0 1)) ?_
        exact aw_iret dX11_status_87 rfl rfl ⟨_, rfl, h⟩
      · replace h := h.2 c0
        refine aw_iconst (v := (-1 : Int32)) dX11_status_18 rfl ?_
        exact aw_iret dX11_status_19 rfl rfl ⟨_, rfl, h⟩
theorem u_X11_value {Γ : cx_T} {μ : mH} {x1 : Int32} {x2 : Int32} {x3 : Int32} {Q : Int32 → mH → Prop} (h : cwi Γ M_X11_canJudge [aR 11 0, aI x1, aI x2] μ (fun r2 μ1 => (r2 = 0 → (Q (-1 : Int32) μ1)) ∧ (¬ r2 = 0 → ((x3 < 0 → (Q (-1 : Int32) μ1)) ∧ (¬ x3 < 0 → ((x3 < (μ1 4 1 4) → (cwv Γ M_X3_judge [aR 3 0, aI x1, aI x2, aR 8 0, aR 4 1] μ1 (fun μ3 => cwi Γ M_X3_vote [aR 3 0, aI x3] μ3 (fun r5 μ4 => Q r5 μ4)))) ∧ (¬ x3 < (μ1 4 1 4) → (Q (-1 : Int32) μ1)))))))) : cwi Γ M_X11_value [aR 11 0, aI x1, aI x2, aI x3] μ Q := by
  refine cw_ofU (ls := [aR 11 0, aI x1, aI x2, aI x3]) (Or.inl (by decide)) rfl (Nat.le_of_ble_eq_true rfl) rfl ?_
  refine aw_aload_n dX11_value_0 rfl ?_
  refine aw_iload_n dX11_value_1 rfl ?_
  refine aw_iload_n dX11_value_2 rfl ?_
  refine aw_callV (M' := M_X11_canJudge) (K := 11) (i := 0) (vs := [aI x1, aI x2]) (st := []) dX11_value_3 mk_X11_canJudge mi_X11_canJudge ml_RX11_156 mp_X11_canJudge rc_11 rm_X11_value__X11_canJudge (Nat.le_of_ble_eq_true rfl) rfl (cw_mono h ?_)
  clear h
  rintro _ μ1 ⟨r2, rfl, h⟩
  show aw Γ M_X11_value 6 [aR 11 0, aI x1, aI x2, aI x3] [aI r2] μ1 (rI Q)
  refine aw_if_eq (tgt := 24) dX11_value_6 (by decide) (fun c0 => ?_) (fun c0 => ?_)
  · replace h := h.1 c0
    refine aw_iconst (v := (-1 : Int32)) dX11_value_24 rfl ?_
    exact aw_iret dX11_value_25 rfl rfl ⟨_, rfl, h⟩
  · replace h := h.2 c0
    refine aw_iload_n dX11_value_9 rfl ?_
    refine aw_if_lt (tgt := 24) dX11_value_10 (by decide) (fun c0 => ?_) (fun c0 => ?_)
    · replace h := h.1 c0
      refine aw_iconst (v := (-1 : Int32)) dX11_value_24 rfl ?_
      exact aw_iret dX11_value_25 rfl rfl ⟨_, rfl, h⟩
    · replace h := h.2 c0
      refine aw_iload_n dX11_value_13 rfl ?_
      refine aw_aload_n dX11_value_14 rfl ?_
      refine aw_get dX11_value_15 rfl fk_RX11_23 (look_R rfl rfl : look _ 11 0 2 = aR 4 1) ?_
      refine aw_get dX11_value_18 rfl fk_RX11_89 (look_I rfl : look μ1 4 1 4 = aI (μ1 4 1 4)) ?_
      refine aw_icmp_lt (tgt := 26) dX11_value_21 (by decide) (fun c0 => ?_) (fun c0 => ?_)
      · replace h := h.1 c0
        refine aw_aload_n dX11_value_26 rfl ?_
        refine aw_get dX11_value_27 rfl fk_RX11_50 (look_R rfl rfl : look _ 11 0 6 = aR 3 0) ?_
        refine aw_iload_n dX11_value_30 rfl ?_
        refine aw_iload_n dX11_value_31 rfl ?_
        refine aw_aload_n dX11_value_32 rfl ?_
        refine aw_get dX11_value_33 rfl fk_RX11_43 (look_R rfl rfl : look _ 11 0 5 = aR 8 0) ?_
        refine aw_aload_n dX11_value_36 rfl ?_
        refine aw_get dX11_value_37 rfl fk_RX11_23 (look_R rfl rfl : look _ 11 0 2 = aR 4 1) ?_
        refine aw_callV (M' := M_X3_judge) (K := 3) (i := 0) (vs := [aI x1, aI x2, aR 8 0, aR 4 1]) (st := []) dX11_value_40 mk_X3_judge mi_X3_judge ml_RX11_160 mp_X3_judge rc_3 rm_X11_value__X3_judge (Nat.le_of_ble_eq_true rfl) rfl (cw_mono h ?_)
        clear h
        intro _ μ3 h
        show aw Γ M_X11_value 43 [aR 11 0, aI x1, aI x2, aI x3] [] μ3 (rI Q)
        refine aw_aload_n dX11_value_43 rfl ?_
        refine aw_get dX11_value_44 rfl fk_RX11_50 (look_R rfl rfl : look _ 11 0 6 = aR 3 0) ?_
        refine aw_iload_n dX11_value_47 rfl ?_
        refine aw_callV (M' := M_X3_vote) (K := 3) (i := 0) (vs := [aI x3]) (st := []) dX11_value_48 mk_X3_vote mi_X3_vote ml_RX11_171 mp_X3_vote rc_3 rm_X11_value__X3_vote (Nat.le_of_ble_eq_true rfl) rfl (cw_mono h ?_)
        clear h
        rintro _ μ4 ⟨r5, rfl, h⟩
        show aw Γ M_X11_value 51 [aR 11 0, aI x1, aI x2, aI x3] [aI r5] μ4 (rI Q)
        exact aw_iret dX11_value_51 rfl rfl ⟨_, rfl, h⟩
      · replace h := h.2 c0
        refine aw_iconst (v := (-1 : Int32)) dX11_value_24 rfl ?_
        exact aw_iret dX11_value_25 rfl rfl ⟨_, rfl, h⟩
theorem u_X11_tell {Γ : cx_T} {μ : mH} {x1 : Int32} {x2 : Int32} {x3 : Int32} {Q : Int32 → mH → Prop} (h : (x1 < 0 → (Q (0 : Int32) μ)) ∧ (¬ x1 < 0 → (((2 : Int32) ≤ x1 → (Q (0 : Int32) μ)) ∧ (¬ (2 : Int32) ≤ x1 → (cwi Γ M_X11_isCluster [aI x2] μ (fun r2 μ1 => (r2 = 0 → (Q (0 : Int32) μ1)) ∧ (¬ r2 = 0 → ((x3 < 0 → (Q (0 : Int32) μ1)) ∧ (¬ x3 < 0 → ((x3 ≤ (26 : Int32) → (cwv Γ M_X0_write [aR 0 0, aI x1, aI x2, aI x3] μ1 (fun μ3 => Q (1 : Int32) μ3))) ∧ (¬ x3 ≤ (26 : Int32) → (Q (0 : Int32) μ1)))))))))))) : cwi Γ M_X11_tell [aR 11 0, aI x1, aI x2, aI x3] μ Q := by
  refine cw_ofU (ls := [aR 11 0, aI x1, aI x2, aI x3]) (Or.inl (by decide)) rfl (Nat.le_of_ble_eq_true rfl) rfl ?_
  refine aw_iload_n dX11_tell_0 rfl ?_
  refine aw_if_lt (tgt := 26) dX11_tell_1 (by decide) (fun c0 => ?_) (fun c0 => ?_)
  · replace h := h.1 c0
    refine aw_iconst (v := (0 : Int32)) dX11_tell_26 rfl ?_
    exact aw_iret (ty := .boolean) dX11_tell_27 rfl (by decide) ⟨_, rfl, h⟩
  · replace h := h.2 c0
    refine aw_iload_n dX11_tell_4 rfl ?_
    refine aw_iconst (v := (2 : Int32)) dX11_tell_5 rfl ?_
    refine aw_icmp_ge (tgt := 26) dX11_tell_6 (by decide) (fun c0 => ?_) (fun c0 => ?_)
    · replace h := h.1 c0
      refine aw_iconst (v := (0 : Int32)) dX11_tell_26 rfl ?_
      exact aw_iret (ty := .boolean) dX11_tell_27 rfl (by decide) ⟨_, rfl, h⟩
    · replace h := h.2 c0
      refine aw_iload_n dX11_tell_9 rfl ?_
      refine aw_callS (M' := M_X11_isCluster) (vs := [aI x2]) (st := []) dX11_tell_10 mk_X11_isCluster ms_X11_isCluster ml_RX11_174 mp_X11_isCluster rm_X11_tell__X11_isCluster (Nat.le_of_ble_eq_true rfl) rfl (cw_mono h ?_)
      clear h
      rintro _ μ1 ⟨r2, rfl, h⟩
      show aw Γ M_X11_tell 13 [aR 11 0, aI x1, aI x2, aI x3] [aI r2] μ1 (rI Q)
      refine aw_if_eq (tgt := 26) dX11_tell_13 (by decide) (fun c0 => ?_) (fun c0 => ?_)
      · replace h := h.1 c0
        refine aw_iconst (v := (0 : Int32)) dX11_tell_26 rfl ?_
        exact aw_iret (ty := .boolean) dX11_tell_27 rfl (by decide) ⟨_, rfl, h⟩
      · replace h := h.2 c0
        refine aw_iload_n dX11_tell_16 rfl ?_
        refine aw_if_lt (tgt := 26) dX11_tell_17 (by decide) (fun c0 => ?_) (fun c0 => ?_)
        · replace h := h.1 c0
          refine aw_iconst (v := (0 : Int32)) dX11_tell_26 rfl ?_
          exact aw_iret (ty := .boolean) dX11_tell_27 rfl (by decide) ⟨_, rfl, h⟩
        · replace h := h.2 c0
          refine aw_iload_n dX11_tell_20 rfl ?_
          refine aw_bipush (v := (26 : Int32)) dX11_tell_21 rfl ?_
          refine aw_icmp_le (tgt := 28) dX11_tell_23 (by decide) (fun c0 => ?_) (fun c0 => ?_)
          · replace h := h.1 c0
            refine aw_aload_n dX11_tell_28 rfl ?_
            refine aw_get dX11_tell_29 rfl fk_RX11_57 (look_R rfl rfl : look _ 11 0 7 = aR 0 0) ?_
            refine aw_iload_n dX11_tell_32 rfl ?_
            refine aw_iload_n dX11_tell_33 rfl ?_
            refine aw_iload_n dX11_tell_34 rfl ?_
            refine aw_callV (M' := M_X0_write) (K := 0) (i := 0) (vs := [aI x1, aI x2, aI x3]) (st := []) dX11_tell_35 mk_X0_write mi_X0_write ml_RX11_177 mp_X0_write rc_0 rm_X11_tell__X0_write (Nat.le_of_ble_eq_true rfl) rfl (cw_mono h ?_)
            clear h
            intro _ μ3 h
            show aw Γ M_X11_tell 38 [aR 11 0, aI x1, aI x2, aI x3] [] μ3 (rI Q)
            refine aw_iconst (v := (1 : Int32)) dX11_tell_38 rfl ?_
            exact aw_iret (ty := .boolean) dX11_tell_39 rfl (by decide) ⟨_, rfl, h⟩
          · replace h := h.2 c0
            refine aw_iconst (v := (0 : Int32)) dX11_tell_26 rfl ?_
            exact aw_iret (ty := .boolean) dX11_tell_27 rfl (by decide) ⟨_, rfl, h⟩
theorem u_X11_file {Γ : cx_T} {μ : mH} {x1 : Int32} {x2 : Int32} {Q : Int32 → mH → Prop} (h : cwi Γ M_X11_isCluster [aI x1] μ (fun r2 μ1 => (r2 = 0 → (Q (-1 : Int32) μ1)) ∧ (¬ r2 = 0 → ((x2 < (1 : Int32) → (Q (-1 : Int32) μ1)) ∧ (¬ x2 < (1 : Int32) → (((24 : Int32) < x2 → (Q (-1 : Int32) μ1)) ∧ (¬ (24 : Int32) < x2 → (((μ1 0 0 0) < (6 : Int32) → (cwv Γ M_X0_add [aR 0 0, aI x1, aI x2] μ1 (fun μ3 => Q ((μ3 0 0 0) - (1 : Int32)) μ3))) ∧ (¬ (μ1 0 0 0) < (6 : Int32) → (Q (-1 : Int32) μ1)))))))))) : cwi Γ M_X11_file [aR 11 0, aI x1, aI x2] μ Q := by
  refine cw_ofU (ls := [aR 11 0, aI x1, aI x2]) (Or.inl (by decide)) rfl (Nat.le_of_ble_eq_true rfl) rfl ?_
  refine aw_iload_n dX11_file_0 rfl ?_
  refine aw_callS (M' := M_X11_isCluster) (vs := [aI x1]) (st := []) dX11_file_1 mk_X11_isCluster ms_X11_isCluster ml_RX11_174 mp_X11_isCluster rm_X11_file__X11_isCluster (Nat.le_of_ble_eq_true rfl) rfl (cw_mono h ?_)
  clear h
  rintro _ μ1 ⟨r2, rfl, h⟩
  show aw Γ M_X11_file 4 [aR 11 0, aI x1, aI x2] [aI r2] μ1 (rI Q)
  refine aw_if_eq (tgt := 30) dX11_file_4 (by decide) (fun c0 => ?_) (fun c0 => ?_)
  · replace h := h.1 c0
    refine aw_iconst (v := (-1 : Int32)) dX11_file_30 rfl ?_
    exact aw_iret dX11_file_31 rfl rfl ⟨_, rfl, h⟩
  · replace h := h.2 c0
    refine aw_iload_n dX11_file_7 rfl ?_
    refine aw_iconst (v := (1 : Int32)) dX11_file_8 rfl ?_
    refine aw_icmp_lt (tgt := 30) dX11_file_9 (by decide) (fun c0 => ?_) (fun c0 => ?_)
    · replace h := h.1 c0
      refine aw_iconst (v := (-1 : Int32)) dX11_file_30 rfl ?_
      exact aw_iret dX11_file_31 rfl rfl ⟨_, rfl, h⟩
    · replace h := h.2 c0
      refine aw_iload_n dX11_file_12 rfl ?_
      refine aw_bipush (v := (24 : Int32)) dX11_file_13 rfl ?_
      refine aw_icmp_gt (tgt := 30) dX11_file_15 (by decide) (fun c0 => ?_) (fun c0 => ?_)
      · replace h := h.1 c0
        refine aw_iconst (v := (-1 : Int32)) dX11_file_30 rfl ?_
        exact aw_iret dX11_file_31 rfl rfl ⟨_, rfl, h⟩
      · replace h := h.2 c0
        refine aw_aload_n dX11_file_18 rfl ?_
        refine aw_get dX11_file_19 rfl fk_RX11_57 (look_R rfl rfl : look _ 11 0 7 = aR 0 0) ?_
        refine aw_get dX11_file_22 rfl fk_RX11_181 (look_I rfl : look μ1 0 0 0 = aI (μ1 0 0 0)) ?_
        refine aw_bipush (v := (6 : Int32)) dX11_file_25 rfl ?_
        refine aw_icmp_lt (tgt := 32) dX11_file_27 (by decide) (fun c0 => ?_) (fun c0 => ?_)
        · replace h := h.1 c0
          refine aw_aload_n dX11_file_32 rfl ?_
          refine aw_get dX11_file_33 rfl fk_RX11_57 (look_R rfl rfl : look _ 11 0 7 = aR 0 0) ?_
          refine aw_iload_n dX11_file_36 rfl ?_
          refine aw_iload_n dX11_file_37 rfl ?_
          refine aw_callV (M' := M_X0_add) (K := 0) (i := 0) (vs := [aI x1, aI x2]) (st := []) dX11_file_38 mk_X0_add mi_X0_add ml_RX11_184 mp_X0_add rc_0 rm_X11_file__X0_add (Nat.le_of_ble_eq_true rfl) rfl (cw_mono h ?_)
          clear h
          intro _ μ3 h
          show aw Γ M_X11_file 41 [aR 11 0, aI x1, aI x2] [] μ3 (rI Q)
          refine aw_aload_n dX11_file_41 rfl ?_
          refine aw_get dX11_file_42 rfl fk_RX11_57 (look_R rfl rfl : look _ 11 0 7 = aR 0 0) ?_
          refine aw_get dX11_file_45 rfl fk_RX11_181 (look_I rfl : look μ3 0 0 0 = aI (μ3 0 0 0)) ?_
          refine aw_iconst (v := (1 : Int32)) dX11_file_48 rfl ?_
          refine aw_isub dX11_file_49 ?_
          exact aw_iret dX11_file_50 rfl rfl ⟨_, rfl, h⟩
        · replace h := h.2 c0
          refine aw_iconst (v := (-1 : Int32)) dX11_file_30 rfl ?_
          exact aw_iret dX11_file_31 rfl rfl ⟨_, rfl, h⟩
theorem u_X11_mishaps {Γ : cx_T} {μ : mH} {x1 : Int32} {Q : Int32 → mH → Prop} (h : cwq 35 Γ M_X0_rowOf [aR 0 0, aI x1] μ (fun o2 μ1 => (o2 = none → (Q (-1 : Int32) μ1)) ∧ (∀ j3, o2 = some j3 → j3 < kn 35 → (cwi Γ M_X0_faultsBy [aR 0 0, aR 35 j3] μ1 (fun r5 μ4 => Q r5 μ4))))) : cwi Γ M_X11_mishaps [aR 11 0, aI x1] μ Q := by
  refine cw_ofU (ls := [aR 11 0, aI x1, aX]) (Or.inl (by decide)) rfl (Nat.le_of_ble_eq_true rfl) rfl ?_
  refine aw_aload_n dX11_mishaps_0 rfl ?_
  refine aw_get dX11_mishaps_1 rfl fk_RX11_57 (look_R rfl rfl : look _ 11 0 7 = aR 0 0) ?_
  refine aw_iload_n dX11_mishaps_4 rfl ?_
  refine aw_callV (M' := M_X0_rowOf) (K := 0) (i := 0) (vs := [aI x1]) (st := []) dX11_mishaps_5 mk_X0_rowOf mi_X0_rowOf ml_RX11_188 mp_X0_rowOf rc_0 rm_X11_mishaps__X0_rowOf (Nat.le_of_ble_eq_true rfl) rfl (cw_mono h ?_)
  clear h
  rintro _ μ1 ⟨o2, rfl, h⟩
  show aw Γ M_X11_mishaps 8 [aR 11 0, aI x1, aX] [aQ 35 o2] μ1 (rI Q)
  refine aw_astore_nQ (K := 35) (o := o2) (ls' := [aR 11 0, aI x1, aQ 35 o2]) dX11_mishaps_8 (by decide) rfl rfl ?_
  refine aw_aload_nQ (K := 35) dX11_mishaps_9 rfl ?_
  refine aw_ifnonnull (tgt := 17) dX11_mishaps_10 (by decide) (fun j3 c0 c1 => ?_) (fun c0 => ?_)
  · replace h := h.2 j3 c0 c1
    subst c0
    refine aw_aload_n dX11_mishaps_17 rfl ?_
    refine aw_get dX11_mishaps_18 rfl fk_RX11_57 (look_R rfl rfl : look _ 11 0 7 = aR 0 0) ?_
    refine aw_aload_n dX11_mishaps_21 rfl ?_
    refine aw_callV (M' := M_X0_faultsBy) (K := 0) (i := 0) (vs := [aR 35 j3]) (st := []) dX11_mishaps_22 mk_X0_faultsBy mi_X0_faultsBy ml_RX11_192 mp_X0_faultsBy rc_0 rm_X11_mishaps__X0_faultsBy (Nat.le_of_ble_eq_true rfl) rfl (cw_mono h ?_)
    clear h
    rintro _ μ4 ⟨r5, rfl, h⟩
    show aw Γ M_X11_mishaps 25 [aR 11 0, aI x1, aR 35 j3] [aI r5] μ4 (rI Q)
    exact aw_iret dX11_mishaps_25 rfl rfl ⟨_, rfl, h⟩
  · replace h := h.1 c0
    subst c0
    refine aw_iconst (v := (-1 : Int32)) dX11_mishaps_13 rfl ?_
    refine aw_goto (tgt := 25) dX11_mishaps_14 (by decide) ?_
    exact aw_iret dX11_mishaps_25 rfl rfl ⟨_, rfl, h⟩
theorem u_X11_next {Γ : cx_T} {μ : mH} {x1 : Int32} {x2 : Int32} {Q : Int32 → mH → Prop} (h : cwq 35 Γ M_X0_rowOf [aR 0 0, aI x1] μ (fun o2 μ1 => (o2 = none → (Q (-1 : Int32) μ1)) ∧ (∀ j3, o2 = some j3 → j3 < kn 35 → (cwi Γ M_X11_isCluster [aI x2] μ1 (fun r5 μ4 => (¬ r5 = 0 → (vp_in x2 24 ∧ (Q (μ4 35 j3 (tn x2)) μ4))) ∧ (r5 = 0 → (Q (-1 : Int32) μ4))))))) : cwi Γ M_X11_next [aR 11 0, aI x1, aI x2] μ Q := by
  refine cw_ofU (ls := [aR 11 0, aI x1, aI x2, aX]) (Or.inl (by decide)) rfl (Nat.le_of_ble_eq_true rfl) rfl ?_
  refine aw_aload_n dX11_next_0 rfl ?_
  refine aw_get dX11_next_1 rfl fk_RX11_57 (look_R rfl rfl : look _ 11 0 7 = aR 0 0) ?_
  refine aw_iload_n dX11_next_4 rfl ?_
  refine aw_callV (M' := M_X0_rowOf) (K := 0) (i := 0) (vs := [aI x1]) (st := []) dX11_next_5 mk_X0_rowOf mi_X0_rowOf ml_RX11_188 mp_X0_rowOf rc_0 rm_X11_next__X0_rowOf (Nat.le_of_ble_eq_true rfl) rfl (cw_mono h ?_)
  clear h
  rintro _ μ1 ⟨o2, rfl, h⟩
  show aw Γ M_X11_next 8 [aR 11 0, aI x1, aI x2, aX] [aQ 35 o2] μ1 (rI Q)
  refine aw_astore_nQ (K := 35) (o := o2) (ls' := [aR 11 0, aI x1, aI x2, aQ 35 o2]) dX11_next_8 (by decide) rfl rfl ?_
  refine aw_aload_nQ (K := 35) dX11_next_9 rfl ?_
  refine aw_ifnull (tgt := 20) dX11_next_10 (by decide) (fun c0 => ?_) (fun j3 c0 c1 => ?_)
  · replace h := h.1 c0
    subst c0
    refine aw_iconst (v := (-1 : Int32)) dX11_next_20 rfl ?_
    refine aw_goto (tgt := 27) dX11_next_21 (by decide) ?_
    exact aw_iret dX11_next_27 rfl rfl ⟨_, rfl, h⟩
  · replace h := h.2 j3 c0 c1
    subst c0
    refine aw_iload_n dX11_next_13 rfl ?_
    refine aw_callS (M' := M_X11_isCluster) (vs := [aI x2]) (st := []) dX11_next_14 mk_X11_isCluster ms_X11_isCluster ml_RX11_174 mp_X11_isCluster rm_X11_next__X11_isCluster (Nat.le_of_ble_eq_true rfl) rfl (cw_mono h ?_)
    clear h
    rintro _ μ4 ⟨r5, rfl, h⟩
    show aw Γ M_X11_next 17 [aR 11 0, aI x1, aI x2, aR 35 j3] [aI r5] μ4 (rI Q)
    refine aw_if_ne (tgt := 24) dX11_next_17 (by decide) (fun c0 => ?_) (fun c0 => ?_)
    · replace h := h.1 c0
      refine aw_aload_n dX11_next_24 rfl ?_
      refine aw_iload_n dX11_next_25 rfl ?_
      refine aw_ia (j := tn x2) (y := μ4 35 j3 (tn x2)) dX11_next_26 rfl (fun _ => rfl) h.1 rfl (rfl) ?_
      replace h := h.2
      exact aw_iret dX11_next_27 rfl rfl ⟨_, rfl, h⟩
    · replace h := h.2 c0
      refine aw_iconst (v := (-1 : Int32)) dX11_next_20 rfl ?_
      refine aw_goto (tgt := 27) dX11_next_21 (by decide) ?_
      exact aw_iret dX11_next_27 rfl rfl ⟨_, rfl, h⟩
theorem u_X11_chain {Γ : cx_T} {μ : mH} {x1 : Int32} {x2 : Int32} {x3 : Int32} {Q : Int32 → mH → Prop} (h : cwq 35 Γ M_X0_rowOf [aR 0 0, aI x1] μ (fun o2 μ1 => (o2 = none → (Q (-1 : Int32) μ1)) ∧ (∀ j3, o2 = some j3 → j3 < kn 35 → (cwi Γ M_X0_holds [aR 0 0, aI x2] μ1 (fun r5 μ4 => (¬ r5 = 0 → (cwv Γ M_X0_walk [aR 0 0, aR 35 j3, aI x2] μ4 (fun μ6 => (¬ x3 = (-1 : Int32) → ((x3 < 0 → (Q (-1 : Int32) μ6)) ∧ (¬ x3 < 0 → (((μ6 0 0 1) ≤ x3 → (Q (-1 : Int32) μ6)) ∧ (¬ (μ6 0 0 1) ≤ x3 → (vp_in x3 24 ∧ (Q (μ6 34 0 (tn x3)) μ6))))))) ∧ (x3 = (-1 : Int32) → (Q (μ6 0 0 1) μ6))))) ∧ (r5 = 0 → (Q (-1 : Int32) μ4))))))) : cwi Γ M_X11_chain [aR 11 0, aI x1, aI x2, aI x3] μ Q := by
  refine cw_ofU (ls := [aR 11 0, aI x1, aI x2, aI x3, aX]) (Or.inl (by decide)) rfl (Nat.le_of_ble_eq_true rfl) rfl ?_
  refine aw_aload_n dX11_chain_0 rfl ?_
  refine aw_get dX11_chain_1 rfl fk_RX11_57 (look_R rfl rfl : look _ 11 0 7 = aR 0 0) ?_
  refine aw_iload_n dX11_chain_4 rfl ?_
  refine aw_callV (M' := M_X0_rowOf) (K := 0) (i := 0) (vs := [aI x1]) (st := []) dX11_chain_5 mk_X0_rowOf mi_X0_rowOf ml_RX11_188 mp_X0_rowOf rc_0 rm_X11_chain__X0_rowOf (Nat.le_of_ble_eq_true rfl) rfl (cw_mono h ?_)
  clear h
  rintro _ μ1 ⟨o2, rfl, h⟩
  show aw Γ M_X11_chain 8 [aR 11 0, aI x1, aI x2, aI x3, aX] [aQ 35 o2] μ1 (rI Q)
  refine aw_astoreQ (K := 35) (o := o2) (ls' := [aR 11 0, aI x1, aI x2, aI x3, aQ 35 o2]) dX11_chain_8 (by decide) rfl rfl ?_
  refine aw_aloadQ (K := 35) dX11_chain_10 rfl ?_
  refine aw_ifnull (tgt := 26) dX11_chain_12 (by decide) (fun c0 => ?_) (fun j3 c0 c1 => ?_)
  · replace h := h.1 c0
    subst c0
    refine aw_iconst (v := (-1 : Int32)) dX11_chain_26 rfl ?_
    exact aw_iret dX11_chain_27 rfl rfl ⟨_, rfl, h⟩
  · replace h := h.2 j3 c0 c1
    subst c0
    refine aw_aload_n dX11_chain_15 rfl ?_
    refine aw_get dX11_chain_16 rfl fk_RX11_57 (look_R rfl rfl : look _ 11 0 7 = aR 0 0) ?_
    refine aw_iload_n dX11_chain_19 rfl ?_
    refine aw_callV (M' := M_X0_holds) (K := 0) (i := 0) (vs := [aI x2]) (st := []) dX11_chain_20 mk_X0_holds mi_X0_holds ml_RX11_196 mp_X0_holds rc_0 rm_X11_chain__X0_holds (Nat.le_of_ble_eq_true rfl) rfl (cw_mono h ?_)
    clear h
    rintro _ μ4 ⟨r5, rfl, h⟩
    show aw Γ M_X11_chain 23 [aR 11 0, aI x1, aI x2, aI x3, aR 35 j3] [aI r5] μ4 (rI Q)
    refine aw_if_ne (tgt := 28) dX11_chain_23 (by decide) (fun c0 => ?_) (fun c0 => ?_)
    · replace h := h.1 c0
      refine aw_aload_n dX11_chain_28 rfl ?_
      refine aw_get dX11_chain_29 rfl fk_RX11_57 (look_R rfl rfl : look _ 11 0 7 = aR 0 0) ?_
      refine aw_aload dX11_chain_32 rfl ?_
      refine aw_iload_n dX11_chain_34 rfl ?_
      refine aw_callV (M' := M_X0_walk) (K := 0) (i := 0) (vs := [aR 35 j3, aI x2]) (st := []) dX11_chain_35 mk_X0_walk mi_X0_walk ml_RX11_197 mp_X0_walk rc_0 rm_X11_chain__X0_walk (Nat.le_of_ble_eq_true rfl) rfl (cw_mono h ?_)
      clear h
      intro _ μ6 h
      show aw Γ M_X11_chain 38 [aR 11 0, aI x1, aI x2, aI x3, aR 35 j3] [] μ6 (rI Q)
      refine aw_iload_n dX11_chain_38 rfl ?_
      refine aw_iconst (v := (-1 : Int32)) dX11_chain_39 rfl ?_
      refine aw_icmp_ne (tgt := 51) dX11_chain_40 (by decide) (fun c0 => ?_) (fun c0 => ?_)
      · replace h := h.1 c0
        refine aw_iload_n dX11_chain_51 rfl ?_
        refine aw_if_lt (tgt := 78) dX11_chain_52 (by decide) (fun c0 => ?_) (fun c0 => ?_)
        · replace h := h.1 c0
          refine aw_iconst (v := (-1 : Int32)) dX11_chain_78 rfl ?_
          exact aw_iret dX11_chain_79 rfl rfl ⟨_, rfl, h⟩
        · replace h := h.2 c0
          refine aw_iload_n dX11_chain_55 rfl ?_
          refine aw_aload_n dX11_chain_56 rfl ?_
          refine aw_get dX11_chain_57 rfl fk_RX11_57 (look_R rfl rfl : look _ 11 0 7 = aR 0 0) ?_
          refine aw_get dX11_chain_60 rfl fk_RX11_201 (look_I rfl : look μ6 0 0 1 = aI (μ6 0 0 1)) ?_
          refine aw_icmp_ge (tgt := 78) dX11_chain_63 (by decide) (fun c0 => ?_) (fun c0 => ?_)
          · replace h := h.1 c0
            refine aw_iconst (v := (-1 : Int32)) dX11_chain_78 rfl ?_
            exact aw_iret dX11_chain_79 rfl rfl ⟨_, rfl, h⟩
          · replace h := h.2 c0
            refine aw_aload_n dX11_chain_66 rfl ?_
            refine aw_get dX11_chain_67 rfl fk_RX11_57 (look_R rfl rfl : look _ 11 0 7 = aR 0 0) ?_
            refine aw_get dX11_chain_70 rfl fk_RX11_204 (look_R rfl rfl : look _ 0 0 2 = aR 34 0) ?_
            refine aw_iload_n dX11_chain_73 rfl ?_
            refine aw_ia (j := tn x3) (y := μ6 34 0 (tn x3)) dX11_chain_74 rfl (fun _ => rfl) h.1 rfl (rfl) ?_
            replace h := h.2
            refine aw_goto (tgt := 79) dX11_chain_75 (by decide) ?_
            exact aw_iret dX11_chain_79 rfl rfl ⟨_, rfl, h⟩
      · replace h := h.2 c0
        refine aw_aload_n dX11_chain_43 rfl ?_
        refine aw_get dX11_chain_44 rfl fk_RX11_57 (look_R rfl rfl : look _ 11 0 7 = aR 0 0) ?_
        refine aw_get dX11_chain_47 rfl fk_RX11_201 (look_I rfl : look μ6 0 0 1 = aI (μ6 0 0 1)) ?_
        exact aw_iret dX11_chain_50 rfl rfl ⟨_, rfl, h⟩
    · replace h := h.2 c0
      refine aw_iconst (v := (-1 : Int32)) dX11_chain_26 rfl ?_
      exact aw_iret dX11_chain_27 rfl rfl ⟨_, rfl, h⟩
theorem u_X11_gaps {Γ : cx_T} {μ : mH} {x1 : Int32} {Q : Int32 → mH → Prop} (h : cwq 35 Γ M_X0_rowOf [aR 0 0, aI (2 : Int32)] μ (fun o2 μ1 => ((μ1 4 1 0) = 0 → (Q (-1 : Int32) μ1)) ∧ (¬ (μ1 4 1 0) = 0 → ((o2 = none → (Q (-1 : Int32) μ1)) ∧ (∀ j3, o2 = some j3 → j3 < kn 35 → (cwi Γ M_X0_holds [aR 0 0, aI x1] μ1 (fun r5 μ4 => (¬ r5 = 0 → (cwv Γ M_X0_walk [aR 0 0, aR 35 j3, aI x1] μ4 (fun μ6 => aw Γ M_X11_gaps 50 [aR 11 0, aX, aX, aI (0 : Int32), aI (0 : Int32)] [] μ6 (rI Q)))) ∧ (r5 = 0 → (Q (-1 : Int32) μ4))))))))) : cwi Γ M_X11_gaps [aR 11 0, aI x1] μ Q := by
  refine cw_ofU (ls := [aR 11 0, aI x1, aX, aX, aX]) (Or.inl (by decide)) rfl (Nat.le_of_ble_eq_true rfl) rfl ?_
  refine aw_aload_n dX11_gaps_0 rfl ?_
  refine aw_get dX11_gaps_1 rfl fk_RX11_57 (look_R rfl rfl : look _ 11 0 7 = aR 0 0) ?_
  refine aw_iconst (v := (2 : Int32)) dX11_gaps_4 rfl ?_
  refine aw_callV (M' := M_X0_rowOf) (K := 0) (i := 0) (vs := [aI (2 : Int32)]) (st := []) dX11_gaps_5 mk_X0_rowOf mi_X0_rowOf ml_RX11_188 mp_X0_rowOf rc_0 rm_X11_gaps__X0_rowOf (Nat.le_of_ble_eq_true rfl) rfl (cw_mono h ?_)
  clear h
  rintro _ μ1 ⟨o2, rfl, h⟩
  show aw Γ M_X11_gaps 8 [aR 11 0, aI x1, aX, aX, aX] [aQ 35 o2] μ1 (rI Q)
  refine aw_astore_nQ (K := 35) (o := o2) (ls' := [aR 11 0, aI x1, aQ 35 o2, aX, aX]) dX11_gaps_8 (by decide) rfl rfl ?_
  refine aw_aload_n dX11_gaps_9 rfl ?_
  refine aw_get dX11_gaps_10 rfl fk_RX11_23 (look_R rfl rfl : look _ 11 0 2 = aR 4 1) ?_
  refine aw_get dX11_gaps_13 rfl fk_RX11_95 (look_I rfl : look μ1 4 1 0 = aI (μ1 4 1 0)) ?_
  refine aw_if_eq (tgt := 34) dX11_gaps_16 (by decide) (fun c0 => ?_) (fun c0 => ?_)
  · replace h := h.1 c0
    refine aw_iconst (v := (-1 : Int32)) dX11_gaps_34 rfl ?_
    exact aw_iret dX11_gaps_35 rfl rfl ⟨_, rfl, h⟩
  · replace h := h.2 c0
    refine aw_aload_nQ (K := 35) dX11_gaps_19 rfl ?_
    refine aw_ifnull (tgt := 34) dX11_gaps_20 (by decide) (fun c0 => ?_) (fun j3 c0 c1 => ?_)
    · replace h := h.1 c0
      subst c0
      refine aw_iconst (v := (-1 : Int32)) dX11_gaps_34 rfl ?_
      exact aw_iret dX11_gaps_35 rfl rfl ⟨_, rfl, h⟩
    · replace h := h.2 j3 c0 c1
      subst c0
      refine aw_aload_n dX11_gaps_23 rfl ?_
      refine aw_get dX11_gaps_24 rfl fk_RX11_57 (look_R rfl rfl : look _ 11 0 7 = aR 0 0) ?_
      refine aw_iload_n dX11_gaps_27 rfl ?_
      refine aw_callV (M' := M_X0_holds) (K := 0) (i := 0) (vs := [aI x1]) (st := []) dX11_gaps_28 mk_X0_holds mi_X0_holds ml_RX11_196 mp_X0_holds rc_0 rm_X11_gaps__X0_holds (Nat.le_of_ble_eq_true rfl) rfl (cw_mono h ?_)
      clear h
      rintro _ μ4 ⟨r5, rfl, h⟩
      show aw Γ M_X11_gaps 31 [aR 11 0, aI x1, aR 35 j3, aX, aX] [aI r5] μ4 (rI Q)
      refine aw_if_ne (tgt := 36) dX11_gaps_31 (by decide) (fun c0 => ?_) (fun c0 => ?_)
      · replace h := h.1 c0
        refine aw_aload_n dX11_gaps_36 rfl ?_
        refine aw_get dX11_gaps_37 rfl fk_RX11_57 (look_R rfl rfl : look _ 11 0 7 = aR 0 0) ?_
        refine aw_aload_n dX11_gaps_40 rfl ?_
        refine aw_iload_n dX11_gaps_41 rfl ?_
        refine aw_callV (M' := M_X0_walk) (K := 0) (i := 0) (vs := [aR 35 j3, aI x1]) (st := []) dX11_gaps_42 mk_X0_walk mi_X0_walk ml_RX11_197 mp_X0_walk rc_0 rm_X11_gaps__X0_walk (Nat.le_of_ble_eq_true rfl) rfl (cw_mono h ?_)
        clear h
        intro _ μ6 h
        show aw Γ M_X11_gaps 45 [aR 11 0, aI x1, aR 35 j3, aX, aX] [] μ6 (rI Q)
        refine aw_iconst (v := (0 : Int32)) dX11_gaps_45 rfl ?_
        refine aw_istore_n (ls' := [aR 11 0, aI x1, aR 35 j3, aI (0 : Int32), aX]) dX11_gaps_46 (by decide) rfl rfl ?_
        refine aw_iconst (v := (0 : Int32)) dX11_gaps_47 rfl ?_
        refine aw_istore (ls' := [aR 11 0, aI x1, aR 35 j3, aI (0 : Int32), aI (0 : Int32)]) dX11_gaps_48 (by decide) rfl rfl ?_
        exact aw_wkk h (wk_e (wk_x (wk_x (wk_e (wk_e wk_n)))))
      · replace h := h.2 c0
        refine aw_iconst (v := (-1 : Int32)) dX11_gaps_34 rfl ?_
        exact aw_iret dX11_gaps_35 rfl rfl ⟨_, rfl, h⟩
theorem u_X11_gaps_50 {Γ : cx_T} {μ : mH} {x3 : Int32} {x4 : Int32} {Q : Int32 → mH → Prop} (h : ((μ 0 0 1) ≤ x4 → (Q x3 μ)) ∧ (¬ (μ 0 0 1) ≤ x4 → (vp_in x4 24 ∧ (cwi Γ M_X3_judgeCluster [aR 3 0, aI (μ 34 0 (tn x4)), aR 8 0, aR 4 1] μ (fun r2 μ1 => cwi Γ M_X11_soundStatus [aI r2] μ1 (fun r4 μ3 => (¬ r4 = 0 → (aw Γ M_X11_gaps 50 [aR 11 0, aX, aX, aI x3, aI (x4 + (1 : Int32))] [] μ3 (rI Q))) ∧ (r4 = 0 → (aw Γ M_X11_gaps 50 [aR 11 0, aX, aX, aI (x3 + (1 : Int32)), aI (x4 + (1 : Int32))] [] μ3 (rI Q))))))))) : aw Γ M_X11_gaps 50 [aR 11 0, aX, aX, aI x3, aI x4] [] μ (rI Q) := by
  refine aw_iload dX11_gaps_50 rfl ?_
  refine aw_aload_n dX11_gaps_52 rfl ?_
  refine aw_get dX11_gaps_53 rfl fk_RX11_57 (look_R rfl rfl : look _ 11 0 7 = aR 0 0) ?_
  refine aw_get dX11_gaps_56 rfl fk_RX11_201 (look_I rfl : look μ 0 0 1 = aI (μ 0 0 1)) ?_
  refine aw_icmp_ge (tgt := 102) dX11_gaps_59 (by decide) (fun c0 => ?_) (fun c0 => ?_)
  · replace h := h.1 c0
    refine aw_iload_n dX11_gaps_102 rfl ?_
    exact aw_iret dX11_gaps_103 rfl rfl ⟨_, rfl, h⟩
  · replace h := h.2 c0
    refine aw_aload_n dX11_gaps_62 rfl ?_
    refine aw_get dX11_gaps_63 rfl fk_RX11_50 (look_R rfl rfl : look _ 11 0 6 = aR 3 0) ?_
    refine aw_aload_n dX11_gaps_66 rfl ?_
    refine aw_get dX11_gaps_67 rfl fk_RX11_57 (look_R rfl rfl : look _ 11 0 7 = aR 0 0) ?_
    refine aw_get dX11_gaps_70 rfl fk_RX11_204 (look_R rfl rfl : look _ 0 0 2 = aR 34 0) ?_
    refine aw_iload dX11_gaps_73 rfl ?_
    refine aw_ia (j := tn x4) (y := μ 34 0 (tn x4)) dX11_gaps_75 rfl (fun _ => rfl) h.1 rfl (rfl) ?_
    replace h := h.2
    refine aw_aload_n dX11_gaps_76 rfl ?_
    refine aw_get dX11_gaps_77 rfl fk_RX11_43 (look_R rfl rfl : look _ 11 0 5 = aR 8 0) ?_
    refine aw_aload_n dX11_gaps_80 rfl ?_
    refine aw_get dX11_gaps_81 rfl fk_RX11_23 (look_R rfl rfl : look _ 11 0 2 = aR 4 1) ?_
    refine aw_callV (M' := M_X3_judgeCluster) (K := 3) (i := 0) (vs := [aI (μ 34 0 (tn x4)), aR 8 0, aR 4 1]) (st := []) dX11_gaps_84 mk_X3_judgeCluster mi_X3_judgeCluster ml_RX11_207 mp_X3_judgeCluster rc_3 rm_X11_gaps__X3_judgeCluster (Nat.le_of_ble_eq_true rfl) rfl (cw_mono h ?_)
    clear h
    rintro _ μ1 ⟨r2, rfl, h⟩
    show aw Γ M_X11_gaps 87 [aR 11 0, aX, aX, aI x3, aI x4] [aI r2] μ1 (rI Q)
    refine aw_callS (M' := M_X11_soundStatus) (vs := [aI r2]) (st := []) dX11_gaps_87 mk_X11_soundStatus ms_X11_soundStatus ml_RX11_211 mp_X11_soundStatus rm_X11_gaps__X11_soundStatus (Nat.le_of_ble_eq_true rfl) rfl (cw_mono h ?_)
    clear h
    rintro _ μ3 ⟨r4, rfl, h⟩
    show aw Γ M_X11_gaps 90 [aR 11 0, aX, aX, aI x3, aI x4] [aI r4] μ3 (rI Q)
    refine aw_if_ne (tgt := 96) dX11_gaps_90 (by decide) (fun c0 => ?_) (fun c0 => ?_)
    · replace h := h.1 c0
      refine aw_iinc (v := x4 + (1 : Int32)) (ls' := [aR 11 0, aX, aX, aI x3, aI (x4 + (1 : Int32))]) dX11_gaps_96 rfl rfl (by decide) rfl rfl ?_
      refine aw_goto (tgt := 50) dX11_gaps_99 (by decide) ?_
      exact h
    · replace h := h.2 c0
      refine aw_iinc (v := x3 + (1 : Int32)) (ls' := [aR 11 0, aX, aX, aI (x3 + (1 : Int32)), aI x4]) dX11_gaps_93 rfl rfl (by decide) rfl rfl ?_
      refine aw_iinc (v := x4 + (1 : Int32)) (ls' := [aR 11 0, aX, aX, aI (x3 + (1 : Int32)), aI (x4 + (1 : Int32))]) dX11_gaps_96 rfl rfl (by decide) rfl rfl ?_
      refine aw_goto (tgt := 50) dX11_gaps_99 (by decide) ?_
      exact h
theorem u_X11_hope {Γ : cx_T} {μ : mH} {x1 : Int32} {Q : Int32 → mH → Prop} (h : ((μ 4 1 0) = 0 → (Q (-999 : Int32) μ)) ∧ (¬ (μ 4 1 0) = 0 → (cwi Γ M_X11_isDrive [aI x1] μ (fun r2 μ1 => (¬ r2 = 0 → (cwi Γ M_X8_hopeOf [aR 8 0, aI x1] μ1 (fun r4 μ3 => Q r4 μ3))) ∧ (r2 = 0 → (Q (-999 : Int32) μ1)))))) : cwi Γ M_X11_hope [aR 11 0, aI x1] μ Q := by
  refine cw_ofU (ls := [aR 11 0, aI x1]) (Or.inl (by decide)) rfl (Nat.le_of_ble_eq_true rfl) rfl ?_
  refine aw_aload_n dX11_hope_0 rfl ?_
  refine aw_get dX11_hope_1 rfl fk_RX11_23 (look_R rfl rfl : look _ 11 0 2 = aR 4 1) ?_
  refine aw_get dX11_hope_4 rfl fk_RX11_95 (look_I rfl : look μ 4 1 0 = aI (μ 4 1 0)) ?_
  refine aw_if_eq (tgt := 17) dX11_hope_7 (by decide) (fun c0 => ?_) (fun c0 => ?_)
  · replace h := h.1 c0
    refine aw_sipush (v := (-999 : Int32)) dX11_hope_17 rfl ?_
    exact aw_iret dX11_hope_20 rfl rfl ⟨_, rfl, h⟩
  · replace h := h.2 c0
    refine aw_iload_n dX11_hope_10 rfl ?_
    refine aw_callS (M' := M_X11_isDrive) (vs := [aI x1]) (st := []) dX11_hope_11 mk_X11_isDrive ms_X11_isDrive ml_RX11_99 mp_X11_isDrive rm_X11_hope__X11_isDrive (Nat.le_of_ble_eq_true rfl) rfl (cw_mono h ?_)
    clear h
    rintro _ μ1 ⟨r2, rfl, h⟩
    show aw Γ M_X11_hope 14 [aR 11 0, aI x1] [aI r2] μ1 (rI Q)
    refine aw_if_ne (tgt := 21) dX11_hope_14 (by decide) (fun c0 => ?_) (fun c0 => ?_)
    · replace h := h.1 c0
      refine aw_aload_n dX11_hope_21 rfl ?_
      refine aw_get dX11_hope_22 rfl fk_RX11_43 (look_R rfl rfl : look _ 11 0 5 = aR 8 0) ?_
      refine aw_iload_n dX11_hope_25 rfl ?_
      refine aw_callV (M' := M_X8_hopeOf) (K := 8) (i := 0) (vs := [aI x1]) (st := []) dX11_hope_26 mk_X8_hopeOf mi_X8_hopeOf ml_RX11_214 mp_X8_hopeOf rc_8 rm_X11_hope__X8_hopeOf (Nat.le_of_ble_eq_true rfl) rfl (cw_mono h ?_)
      clear h
      rintro _ μ3 ⟨r4, rfl, h⟩
      show aw Γ M_X11_hope 29 [aR 11 0, aI x1] [aI r4] μ3 (rI Q)
      exact aw_iret dX11_hope_29 rfl rfl ⟨_, rfl, h⟩
    · replace h := h.2 c0
      refine aw_sipush (v := (-999 : Int32)) dX11_hope_17 rfl ?_
      exact aw_iret dX11_hope_20 rfl rfl ⟨_, rfl, h⟩
theorem u_X11_ask {Γ : cx_T} {μ : mH} {x1 : Int32} {Q : Int32 → mH → Prop} (h : ((μ 4 1 0) = 0 → (Q (-1 : Int32) μ)) ∧ (¬ (μ 4 1 0) = 0 → ((x1 < 0 → (Q (-1 : Int32) μ)) ∧ (¬ x1 < 0 → ((x1 ≤ (1 : Int32) → ((¬ x1 = 0 → (cwi Γ M_X11_worstTrack [aR 11 0] μ (fun r2 μ1 => Q r2 μ1))) ∧ (x1 = 0 → (cwi Γ M_X11_bestDrive [aR 11 0] μ (fun r4 μ3 => Q r4 μ3))))) ∧ (¬ x1 ≤ (1 : Int32) → (Q (-1 : Int32) μ))))))) : cwi Γ M_X11_ask [aR 11 0, aI x1] μ Q := by
  refine cw_ofU (ls := [aR 11 0, aI x1]) (Or.inl (by decide)) rfl (Nat.le_of_ble_eq_true rfl) rfl ?_
  refine aw_aload_n dX11_ask_0 rfl ?_
  refine aw_get dX11_ask_1 rfl fk_RX11_23 (look_R rfl rfl : look _ 11 0 2 = aR 4 1) ?_
  refine aw_get dX11_ask_4 rfl fk_RX11_95 (look_I rfl : look μ 4 1 0 = aI (μ 4 1 0)) ?_
  refine aw_if_eq (tgt := 19) dX11_ask_7 (by decide) (fun c0 => ?_) (fun c0 => ?_)
  · replace h := h.1 c0
    refine aw_iconst (v := (-1 : Int32)) dX11_ask_19 rfl ?_
    exact aw_iret dX11_ask_20 rfl rfl ⟨_, rfl, h⟩
  · replace h := h.2 c0
    refine aw_iload_n dX11_ask_10 rfl ?_
    refine aw_if_lt (tgt := 19) dX11_ask_11 (by decide) (fun c0 => ?_) (fun c0 => ?_)
    · replace h := h.1 c0
      refine aw_iconst (v := (-1 : Int32)) dX11_ask_19 rfl ?_
      exact aw_iret dX11_ask_20 rfl rfl ⟨_, rfl, h⟩
    · replace h := h.2 c0
      refine aw_iload_n dX11_ask_14 rfl ?_
      refine aw_iconst (v := (1 : Int32)) dX11_ask_15 rfl ?_
      refine aw_icmp_le (tgt := 21) dX11_ask_16 (by decide) (fun c0 => ?_) (fun c0 => ?_)
      · replace h := h.1 c0
        refine aw_iload_n dX11_ask_21 rfl ?_
        refine aw_if_ne (tgt := 32) dX11_ask_22 (by decide) (fun c0 => ?_) (fun c0 => ?_)
        · replace h := h.1 c0
          refine aw_aload_n dX11_ask_32 rfl ?_
          refine aw_callV (M' := M_X11_worstTrack) (K := 11) (i := 0) (vs := []) (st := []) dX11_ask_33 mk_X11_worstTrack mi_X11_worstTrack ml_RX11_221 mp_X11_worstTrack rc_11 rm_X11_ask__X11_worstTrack (Nat.le_of_ble_eq_true rfl) rfl (cw_mono h ?_)
          clear h
          rintro _ μ1 ⟨r2, rfl, h⟩
          show aw Γ M_X11_ask 36 [aR 11 0, aI x1] [aI r2] μ1 (rI Q)
          exact aw_iret dX11_ask_36 rfl rfl ⟨_, rfl, h⟩
        · replace h := h.2 c0
          refine aw_aload_n dX11_ask_25 rfl ?_
          refine aw_callV (M' := M_X11_bestDrive) (K := 11) (i := 0) (vs := []) (st := []) dX11_ask_26 mk_X11_bestDrive mi_X11_bestDrive ml_RX11_217 mp_X11_bestDrive rc_11 rm_X11_ask__X11_bestDrive (Nat.le_of_ble_eq_true rfl) rfl (cw_mono h ?_)
          clear h
          rintro _ μ3 ⟨r4, rfl, h⟩
          show aw Γ M_X11_ask 29 [aR 11 0, aI x1] [aI r4] μ3 (rI Q)
          refine aw_goto (tgt := 36) dX11_ask_29 (by decide) ?_
          exact aw_iret dX11_ask_36 rfl rfl ⟨_, rfl, h⟩
      · replace h := h.2 c0
        refine aw_iconst (v := (-1 : Int32)) dX11_ask_19 rfl ?_
        exact aw_iret dX11_ask_20 rfl rfl ⟨_, rfl, h⟩
theorem u_X11_written {Γ : cx_T} {μ : mH} {x1 : Int32} {x2 : Int32} {x3 : Int32} {Q : Int32 → mH → Prop} (h : cwi Γ M_X11_canJudge [aR 11 0, aI x1, aI x2] μ (fun r2 μ1 => (¬ r2 = 0 → (cwv Γ M_X3_judge [aR 3 0, aI x1, aI x2, aR 8 0, aR 4 1] μ1 (fun μ3 => cwi Γ M_X11_soundStatus [aI (μ3 3 0 2)] μ3 (fun r5 μ4 => (r5 = 0 → (Q (-1 : Int32) μ4)) ∧ (¬ r5 = 0 → (cwi Γ M_X6_write [aR 6 0, aR 4 1, aI x1, aI x2, aR 24 88] μ4 (fun r7 μ6 => (¬ r7 = 0 → ((¬ x3 = (-1 : Int32) → ((x3 < 0 → (Q (-1 : Int32) μ6)) ∧ (¬ x3 < 0 → (((μ6 6 0 1) ≤ x3 → (Q (-1 : Int32) μ6)) ∧ (¬ (μ6 6 0 1) ≤ x3 → (vp_in x3 225 ∧ (Q (μ6 39 0 (tn x3)) μ6))))))) ∧ (x3 = (-1 : Int32) → (Q (μ6 6 0 1) μ6)))) ∧ (r7 = 0 → (Q (-1 : Int32) μ6))))))))) ∧ (r2 = 0 → (Q (-1 : Int32) μ1)))) : cwi Γ M_X11_written [aR 11 0, aI x1, aI x2, aI x3] μ Q := by
  refine cw_ofU (ls := [aR 11 0, aI x1, aI x2, aI x3]) (Or.inl (by decide)) rfl (Nat.le_of_ble_eq_true rfl) rfl ?_
  refine aw_aload_n dX11_written_0 rfl ?_
  refine aw_iload_n dX11_written_1 rfl ?_
  refine aw_iload_n dX11_written_2 rfl ?_
  refine aw_callV (M' := M_X11_canJudge) (K := 11) (i := 0) (vs := [aI x1, aI x2]) (st := []) dX11_written_3 mk_X11_canJudge mi_X11_canJudge ml_RX11_156 mp_X11_canJudge rc_11 rm_X11_written__X11_canJudge (Nat.le_of_ble_eq_true rfl) rfl (cw_mono h ?_)
  clear h
  rintro _ μ1 ⟨r2, rfl, h⟩
  show aw Γ M_X11_written 6 [aR 11 0, aI x1, aI x2, aI x3] [aI r2] μ1 (rI Q)
  refine aw_if_ne (tgt := 11) dX11_written_6 (by decide) (fun c0 => ?_) (fun c0 => ?_)
  · replace h := h.1 c0
    refine aw_aload_n dX11_written_11 rfl ?_
    refine aw_get dX11_written_12 rfl fk_RX11_50 (look_R rfl rfl : look _ 11 0 6 = aR 3 0) ?_
    refine aw_iload_n dX11_written_15 rfl ?_
    refine aw_iload_n dX11_written_16 rfl ?_
    refine aw_aload_n dX11_written_17 rfl ?_
    refine aw_get dX11_written_18 rfl fk_RX11_43 (look_R rfl rfl : look _ 11 0 5 = aR 8 0) ?_
    refine aw_aload_n dX11_written_21 rfl ?_
    refine aw_get dX11_written_22 rfl fk_RX11_23 (look_R rfl rfl : look _ 11 0 2 = aR 4 1) ?_
    refine aw_callV (M' := M_X3_judge) (K := 3) (i := 0) (vs := [aI x1, aI x2, aR 8 0, aR 4 1]) (st := []) dX11_written_25 mk_X3_judge mi_X3_judge ml_RX11_160 mp_X3_judge rc_3 rm_X11_written__X3_judge (Nat.le_of_ble_eq_true rfl) rfl (cw_mono h ?_)
    clear h
    intro _ μ3 h
    show aw Γ M_X11_written 28 [aR 11 0, aI x1, aI x2, aI x3] [] μ3 (rI Q)
    refine aw_aload_n dX11_written_28 rfl ?_
    refine aw_get dX11_written_29 rfl fk_RX11_50 (look_R rfl rfl : look _ 11 0 6 = aR 3 0) ?_
    refine aw_get dX11_written_32 rfl fk_RX11_164 (look_I rfl : look μ3 3 0 2 = aI (μ3 3 0 2)) ?_
    refine aw_callS (M' := M_X11_soundStatus) (vs := [aI (μ3 3 0 2)]) (st := []) dX11_written_35 mk_X11_soundStatus ms_X11_soundStatus ml_RX11_211 mp_X11_soundStatus rm_X11_written__X11_soundStatus (Nat.le_of_ble_eq_true rfl) rfl (cw_mono h ?_)
    clear h
    rintro _ μ4 ⟨r5, rfl, h⟩
    show aw Γ M_X11_written 38 [aR 11 0, aI x1, aI x2, aI x3] [aI r5] μ4 (rI Q)
    refine aw_if_eq (tgt := 64) dX11_written_38 (by decide) (fun c0 => ?_) (fun c0 => ?_)
    · replace h := h.1 c0
      refine aw_iconst (v := (-1 : Int32)) dX11_written_64 rfl ?_
      exact aw_iret dX11_written_65 rfl rfl ⟨_, rfl, h⟩
    · replace h := h.2 c0
      refine aw_aload_n dX11_written_41 rfl ?_
      refine aw_get dX11_written_42 rfl fk_RX11_64 (look_R rfl rfl : look _ 11 0 8 = aR 6 0) ?_
      refine aw_aload_n dX11_written_45 rfl ?_
      refine aw_get dX11_written_46 rfl fk_RX11_23 (look_R rfl rfl : look _ 11 0 2 = aR 4 1) ?_
      refine aw_iload_n dX11_written_49 rfl ?_
      refine aw_iload_n dX11_written_50 rfl ?_
      refine aw_aload_n dX11_written_51 rfl ?_
      refine aw_get dX11_written_52 rfl fk_RX11_50 (look_R rfl rfl : look _ 11 0 6 = aR 3 0) ?_
      refine aw_get dX11_written_55 rfl fk_RX11_224 (look_R rfl rfl : look _ 3 0 3 = aR 24 88) ?_
      refine aw_callV (M' := M_X6_write) (K := 6) (i := 0) (vs := [aR 4 1, aI x1, aI x2, aR 24 88]) (st := []) dX11_written_58 mk_X6_write mi_X6_write ml_RX11_227 mp_X6_write rc_6 rm_X11_written__X6_write (Nat.le_of_ble_eq_true rfl) rfl (cw_mono h ?_)
      clear h
      rintro _ μ6 ⟨r7, rfl, h⟩
      show aw Γ M_X11_written 61 [aR 11 0, aI x1, aI x2, aI x3] [aI r7] μ6 (rI Q)
      refine aw_if_ne (tgt := 66) dX11_written_61 (by decide) (fun c0 => ?_) (fun c0 => ?_)
      · replace h := h.1 c0
        refine aw_iload_n dX11_written_66 rfl ?_
        refine aw_iconst (v := (-1 : Int32)) dX11_written_67 rfl ?_
        refine aw_icmp_ne (tgt := 79) dX11_written_68 (by decide) (fun c0 => ?_) (fun c0 => ?_)
        · replace h := h.1 c0
          refine aw_iload_n dX11_written_79 rfl ?_
          refine aw_if_lt (tgt := 106) dX11_written_80 (by decide) (fun c0 => ?_) (fun c0 => ?_)
          · replace h := h.1 c0
            refine aw_iconst (v := (-1 : Int32)) dX11_written_106 rfl ?_
            exact aw_iret dX11_written_107 rfl rfl ⟨_, rfl, h⟩
          · replace h := h.2 c0
            refine aw_iload_n dX11_written_83 rfl ?_
            refine aw_aload_n dX11_written_84 rfl ?_
            refine aw_get dX11_written_85 rfl fk_RX11_64 (look_R rfl rfl : look _ 11 0 8 = aR 6 0) ?_
            refine aw_get dX11_written_88 rfl fk_RX11_230 (look_I rfl : look μ6 6 0 1 = aI (μ6 6 0 1)) ?_
            refine aw_icmp_ge (tgt := 106) dX11_written_91 (by decide) (fun c0 => ?_) (fun c0 => ?_)
            · replace h := h.1 c0
              refine aw_iconst (v := (-1 : Int32)) dX11_written_106 rfl ?_
              exact aw_iret dX11_written_107 rfl rfl ⟨_, rfl, h⟩
            · replace h := h.2 c0
              refine aw_aload_n dX11_written_94 rfl ?_
              refine aw_get dX11_written_95 rfl fk_RX11_64 (look_R rfl rfl : look _ 11 0 8 = aR 6 0) ?_
              refine aw_get dX11_written_98 rfl fk_RX11_231 (look_R rfl rfl : look _ 6 0 0 = aR 39 0) ?_
              refine aw_iload_n dX11_written_101 rfl ?_
              refine aw_ia (j := tn x3) (y := μ6 39 0 (tn x3)) dX11_written_102 rfl (fun _ => rfl) h.1 rfl (rfl) ?_
              replace h := h.2
              refine aw_goto (tgt := 107) dX11_written_103 (by decide) ?_
              exact aw_iret dX11_written_107 rfl rfl ⟨_, rfl, h⟩
        · replace h := h.2 c0
          refine aw_aload_n dX11_written_71 rfl ?_
          refine aw_get dX11_written_72 rfl fk_RX11_64 (look_R rfl rfl : look _ 11 0 8 = aR 6 0) ?_
          refine aw_get dX11_written_75 rfl fk_RX11_230 (look_I rfl : look μ6 6 0 1 = aI (μ6 6 0 1)) ?_
          exact aw_iret dX11_written_78 rfl rfl ⟨_, rfl, h⟩
      · replace h := h.2 c0
        refine aw_iconst (v := (-1 : Int32)) dX11_written_64 rfl ?_
        exact aw_iret dX11_written_65 rfl rfl ⟨_, rfl, h⟩
  · replace h := h.2 c0
    refine aw_iconst (v := (-1 : Int32)) dX11_written_9 rfl ?_
    exact aw_iret dX11_written_10 rfl rfl ⟨_, rfl, h⟩
theorem u_X11_count {Γ : cx_T} {μ : mH} {x1 : Int32} {Q : Int32 → mH → Prop} (h : (x1 = (0 : Int32) → (Q (μ 4 1 4) μ)) ∧ (x1 = (1 : Int32) → (Q (μ 4 1 1) μ)) ∧ (x1 = (2 : Int32) → (Q (μ 4 1 2) μ)) ∧ (x1 = (3 : Int32) → (Q (μ 8 0 1) μ)) ∧ (x1 = (4 : Int32) → (Q (μ 10 0 1) μ)) ∧ (x1 = (5 : Int32) → (Q (μ 0 0 0) μ)) ∧ (x1 = (6 : Int32) → (Q (μ 2 0 1) μ)) ∧ (¬ x1 = (0 : Int32) → ¬ x1 = (1 : Int32) → ¬ x1 = (2 : Int32) → ¬ x1 = (3 : Int32) → ¬ x1 = (4 : Int32) → ¬ x1 = (5 : Int32) → ¬ x1 = (6 : Int32) → (Q (-1 : Int32) μ))) : cwi Γ M_X11_count [aR 11 0, aI x1] μ Q := by
  refine cw_ofU (ls := [aR 11 0, aI x1]) (Or.inl (by decide)) rfl (Nat.le_of_ble_eq_true rfl) rfl ?_
  refine aw_iload_n dX11_count_0 rfl ?_
  by_cases c0 : x1 = (0 : Int32)
  · replace h := h.1 c0
    refine aw_tableIn (off := 43) (tgt := 44) dX11_count_1 (by rw [c0]; decide) (by rw [c0]; decide) (by rw [c0]; decide) (by decide) ?_
    refine aw_aload_n dX11_count_44 rfl ?_
    refine aw_get dX11_count_45 rfl fk_RX11_23 (look_R rfl rfl : look _ 11 0 2 = aR 4 1) ?_
    refine aw_get dX11_count_48 rfl fk_RX11_89 (look_I rfl : look μ 4 1 4 = aI (μ 4 1 4)) ?_
    exact aw_iret dX11_count_51 rfl rfl ⟨_, rfl, h⟩
  by_cases c1 : x1 = (1 : Int32)
  · replace h := h.2.1 c1
    refine aw_tableIn (off := 51) (tgt := 52) dX11_count_1 (by rw [c1]; decide) (by rw [c1]; decide) (by rw [c1]; decide) (by decide) ?_
    refine aw_aload_n dX11_count_52 rfl ?_
    refine aw_get dX11_count_53 rfl fk_RX11_23 (look_R rfl rfl : look _ 11 0 2 = aR 4 1) ?_
    refine aw_get dX11_count_56 rfl fk_RX11_234 (look_I rfl : look μ 4 1 1 = aI (μ 4 1 1)) ?_
    exact aw_iret dX11_count_59 rfl rfl ⟨_, rfl, h⟩
  by_cases c2 : x1 = (2 : Int32)
  · replace h := h.2.2.1 c2
    refine aw_tableIn (off := 59) (tgt := 60) dX11_count_1 (by rw [c2]; decide) (by rw [c2]; decide) (by rw [c2]; decide) (by decide) ?_
    refine aw_aload_n dX11_count_60 rfl ?_
    refine aw_get dX11_count_61 rfl fk_RX11_23 (look_R rfl rfl : look _ 11 0 2 = aR 4 1) ?_
    refine aw_get dX11_count_64 rfl fk_RX11_237 (look_I rfl : look μ 4 1 2 = aI (μ 4 1 2)) ?_
    exact aw_iret dX11_count_67 rfl rfl ⟨_, rfl, h⟩
  by_cases c3 : x1 = (3 : Int32)
  · replace h := h.2.2.2.1 c3
    refine aw_tableIn (off := 67) (tgt := 68) dX11_count_1 (by rw [c3]; decide) (by rw [c3]; decide) (by rw [c3]; decide) (by decide) ?_
    refine aw_aload_n dX11_count_68 rfl ?_
    refine aw_get dX11_count_69 rfl fk_RX11_43 (look_R rfl rfl : look _ 11 0 5 = aR 8 0) ?_
    refine aw_get dX11_count_72 rfl fk_RX11_85 (look_I rfl : look μ 8 0 1 = aI (μ 8 0 1)) ?_
    exact aw_iret dX11_count_75 rfl rfl ⟨_, rfl, h⟩
  by_cases c4 : x1 = (4 : Int32)
  · replace h := h.2.2.2.2.1 c4
    refine aw_tableIn (off := 75) (tgt := 76) dX11_count_1 (by rw [c4]; decide) (by rw [c4]; decide) (by rw [c4]; decide) (by decide) ?_
    refine aw_aload_n dX11_count_76 rfl ?_
    refine aw_get dX11_count_77 rfl fk_RX11_29 (look_R rfl rfl : look _ 11 0 3 = aR 10 0) ?_
    refine aw_get dX11_count_80 rfl fk_RX11_84 (look_I rfl : look μ 10 0 1 = aI (μ 10 0 1)) ?_
    exact aw_iret dX11_count_83 rfl rfl ⟨_, rfl, h⟩
  by_cases c5 : x1 = (5 : Int32)
  · replace h := h.2.2.2.2.2.1 c5
    refine aw_tableIn (off := 83) (tgt := 84) dX11_count_1 (by rw [c5]; decide) (by rw [c5]; decide) (by rw [c5]; decide) (by decide) ?_
    refine aw_aload_n dX11_count_84 rfl ?_
    refine aw_get dX11_count_85 rfl fk_RX11_57 (look_R rfl rfl : look _ 11 0 7 = aR 0 0) ?_
    refine aw_get dX11_count_88 rfl fk_RX11_181 (look_I rfl : look μ 0 0 0 = aI (μ 0 0 0)) ?_
    exact aw_iret dX11_count_91 rfl rfl ⟨_, rfl, h⟩
  by_cases c6 : x1 = (6 : Int32)
  · replace h := h.2.2.2.2.2.2.1 c6
    refine aw_tableIn (off := 91) (tgt := 92) dX11_count_1 (by rw [c6]; decide) (by rw [c6]; decide) (by rw [c6]; decide) (by decide) ?_
    refine aw_aload_n dX11_count_92 rfl ?_
    refine aw_get dX11_count_93 rfl fk_RX11_10 (look_R rfl rfl : look _ 11 0 0 = aR 2 0) ?_
    refine aw_get dX11_count_96 rfl fk_RX11_68 (look_I rfl : look μ 2 0 1 = aI (μ 2 0 1)) ?_
    exact aw_iret dX11_count_99 rfl rfl ⟨_, rfl, h⟩
  replace h := h.2.2.2.2.2.2.2 c0 c1 c2 c3 c4 c5 c6
  refine aw_tableOut (tgt := 100) dX11_count_1 (by have e0 := lv_neT c0 (show (0 : Int32).toInt = (0 : Int) by decide); have e1 := lv_neT c1 (show (1 : Int32).toInt = (1 : Int) by decide); have e2 := lv_neT c2 (show (2 : Int32).toInt = (2 : Int) by decide); have e3 := lv_neT c3 (show (3 : Int32).toInt = (3 : Int) by decide); have e4 := lv_neT c4 (show (4 : Int32).toInt = (4 : Int) by decide); have e5 := lv_neT c5 (show (5 : Int32).toInt = (5 : Int) by decide); have e6 := lv_neT c6 (show (6 : Int32).toInt = (6 : Int) by decide); omega) (by decide) ?_
  refine aw_iconst (v := (-1 : Int32)) dX11_count_100 rfl ?_
  exact aw_iret dX11_count_101 rfl rfl ⟨_, rfl, h⟩
theorem u_X11_ofSector {Γ : cx_T} {μ : mH} {j1 : Nat} {x2 : Int32} {Q : Int32 → mH → Prop} (h : (x2 = (0 : Int32) → (Q (μ 7 j1 0) μ)) ∧ (x2 = (1 : Int32) → (Q (μ 7 j1 1) μ)) ∧ (x2 = (2 : Int32) → (Q (μ 7 j1 2) μ)) ∧ (x2 = (3 : Int32) → (Q (μ 7 j1 3) μ)) ∧ (x2 = (4 : Int32) → (Q (μ 7 j1 4) μ)) ∧ (x2 = (5 : Int32) → (Q (μ 7 j1 5) μ)) ∧ (¬ x2 = (0 : Int32) → ¬ x2 = (1 : Int32) → ¬ x2 = (2 : Int32) → ¬ x2 = (3 : Int32) → ¬ x2 = (4 : Int32) → ¬ x2 = (5 : Int32) → ((x2 < (10 : Int32) → (Q (-1 : Int32) μ)) ∧ (¬ x2 < (10 : Int32) → ((((10 : Int32) + (μ 4 1 4)) ≤ x2 → (Q (-1 : Int32) μ)) ∧ (¬ ((10 : Int32) + (μ 4 1 4)) ≤ x2 → (vp_in (x2 - (10 : Int32)) 8 ∧ (Q (μ 24 j1 (tn (x2 - (10 : Int32)))) μ)))))))) : cwi Γ M_X11_ofSector [aR 11 0, aR 7 j1, aI x2] μ Q := by
  refine cw_ofU (ls := [aR 11 0, aR 7 j1, aI x2]) (Or.inl (by decide)) rfl (Nat.le_of_ble_eq_true rfl) rfl ?_
  refine aw_iload_n dX11_ofSector_0 rfl ?_
  by_cases c0 : x2 = (0 : Int32)
  · replace h := h.1 c0
    refine aw_tableIn (off := 39) (tgt := 40) dX11_ofSector_1 (by rw [c0]; decide) (by rw [c0]; decide) (by rw [c0]; decide) (by decide) ?_
    refine aw_aload_n dX11_ofSector_40 rfl ?_
    refine aw_get dX11_ofSector_41 rfl fk_RX11_240 (look_I rfl : look μ 7 j1 0 = aI (μ 7 j1 0)) ?_
    exact aw_iret dX11_ofSector_44 rfl rfl ⟨_, rfl, h⟩
  by_cases c1 : x2 = (1 : Int32)
  · replace h := h.2.1 c1
    refine aw_tableIn (off := 44) (tgt := 45) dX11_ofSector_1 (by rw [c1]; decide) (by rw [c1]; decide) (by rw [c1]; decide) (by decide) ?_
    refine aw_aload_n dX11_ofSector_45 rfl ?_
    refine aw_get dX11_ofSector_46 rfl fk_RX11_245 (look_I rfl : look μ 7 j1 1 = aI (μ 7 j1 1)) ?_
    exact aw_iret dX11_ofSector_49 rfl rfl ⟨_, rfl, h⟩
  by_cases c2 : x2 = (2 : Int32)
  · replace h := h.2.2.1 c2
    refine aw_tableIn (off := 49) (tgt := 50) dX11_ofSector_1 (by rw [c2]; decide) (by rw [c2]; decide) (by rw [c2]; decide) (by decide) ?_
    refine aw_aload_n dX11_ofSector_50 rfl ?_
    refine aw_get dX11_ofSector_51 rfl fk_RX11_248 (look_I rfl : look μ 7 j1 2 = aI (μ 7 j1 2)) ?_
    exact aw_iret dX11_ofSector_54 rfl rfl ⟨_, rfl, h⟩
  by_cases c3 : x2 = (3 : Int32)
  · replace h := h.2.2.2.1 c3
    refine aw_tableIn (off := 54) (tgt := 55) dX11_ofSector_1 (by rw [c3]; decide) (by rw [c3]; decide) (by rw [c3]; decide) (by decide) ?_
    refine aw_aload_n dX11_ofSector_55 rfl ?_
    refine aw_get dX11_ofSector_56 rfl fk_RX11_251 (look_I rfl : look μ 7 j1 3 = aI (μ 7 j1 3)) ?_
    exact aw_iret dX11_ofSector_59 rfl rfl ⟨_, rfl, h⟩
  by_cases c4 : x2 = (4 : Int32)
  · replace h := h.2.2.2.2.1 c4
    refine aw_tableIn (off := 59) (tgt := 60) dX11_ofSector_1 (by rw [c4]; decide) (by rw [c4]; decide) (by rw [c4]; decide) (by decide) ?_
    refine aw_aload_n dX11_ofSector_60 rfl ?_
    refine aw_get dX11_ofSector_61 rfl fk_RX11_254 (look_I rfl : look μ 7 j1 4 = aI (μ 7 j1 4)) ?_
    exact aw_iret dX11_ofSector_64 rfl rfl ⟨_, rfl, h⟩
  by_cases c5 : x2 = (5 : Int32)
  · replace h := h.2.2.2.2.2.1 c5
    refine aw_tableIn (off := 64) (tgt := 65) dX11_ofSector_1 (by rw [c5]; decide) (by rw [c5]; decide) (by rw [c5]; decide) (by decide) ?_
    refine aw_aload_n dX11_ofSector_65 rfl ?_
    refine aw_get dX11_ofSector_66 rfl fk_RX11_257 (look_I rfl : look μ 7 j1 5 = aI (μ 7 j1 5)) ?_
    exact aw_iret dX11_ofSector_69 rfl rfl ⟨_, rfl, h⟩
  replace h := h.2.2.2.2.2.2 c0 c1 c2 c3 c4 c5
  refine aw_tableOut (tgt := 70) dX11_ofSector_1 (by have e0 := lv_neT c0 (show (0 : Int32).toInt = (0 : Int) by decide); have e1 := lv_neT c1 (show (1 : Int32).toInt = (1 : Int) by decide); have e2 := lv_neT c2 (show (2 : Int32).toInt = (2 : Int) by decide); have e3 := lv_neT c3 (show (3 : Int32).toInt = (3 : Int) by decide); have e4 := lv_neT c4 (show (4 : Int32).toInt = (4 : Int) by decide); have e5 := lv_neT c5 (show (5 : Int32).toInt = (5 : Int) by decide); omega) (by decide) ?_
  refine aw_iload_n dX11_ofSector_70 rfl ?_
  refine aw_bipush (v := (10 : Int32)) dX11_ofSector_71 rfl ?_
  refine aw_icmp_lt (tgt := 102) dX11_ofSector_73 (by decide) (fun c0 => ?_) (fun c0 => ?_)
  · replace h := h.1 c0
    refine aw_iconst (v := (-1 : Int32)) dX11_ofSector_102 rfl ?_
    exact aw_iret dX11_ofSector_103 rfl rfl ⟨_, rfl, h⟩
  · replace h := h.2 c0
    refine aw_iload_n dX11_ofSector_76 rfl ?_
    refine aw_bipush (v := (10 : Int32)) dX11_ofSector_77 rfl ?_
    refine aw_aload_n dX11_ofSector_79 rfl ?_
    refine aw_get dX11_ofSector_80 rfl fk_RX11_23 (look_R rfl rfl : look _ 11 0 2 = aR 4 1) ?_
    refine aw_get dX11_ofSector_83 rfl fk_RX11_89 (look_I rfl : look μ 4 1 4 = aI (μ 4 1 4)) ?_
    refine aw_iadd dX11_ofSector_86 ?_
    refine aw_icmp_ge (tgt := 102) dX11_ofSector_87 (by decide) (fun c0 => ?_) (fun c0 => ?_)
    · replace h := h.1 c0
      refine aw_iconst (v := (-1 : Int32)) dX11_ofSector_102 rfl ?_
      exact aw_iret dX11_ofSector_103 rfl rfl ⟨_, rfl, h⟩
    · replace h := h.2 c0
      refine aw_aload_n dX11_ofSector_90 rfl ?_
      refine aw_get dX11_ofSector_91 rfl fk_RX11_260 (look_R rfl rfl : look _ 7 j1 6 = aR 24 j1) ?_
      refine aw_iload_n dX11_ofSector_94 rfl ?_
      refine aw_bipush (v := (10 : Int32)) dX11_ofSector_95 rfl ?_
      refine aw_isub dX11_ofSector_97 ?_
      refine aw_ia (j := tn (x2 - (10 : Int32))) (y := μ 24 j1 (tn (x2 - (10 : Int32)))) dX11_ofSector_98 rfl (fun _ => rfl) h.1 rfl (rfl) ?_
      replace h := h.2
      refine aw_goto (tgt := 103) dX11_ofSector_99 (by decide) ?_
      exact aw_iret dX11_ofSector_103 rfl rfl ⟨_, rfl, h⟩
theorem u_X11_canJudge {Γ : cx_T} {μ : mH} {x1 : Int32} {x2 : Int32} {Q : Int32 → mH → Prop} (h : ((μ 4 1 0) = 0 → (Q (0 : Int32) μ)) ∧ (¬ (μ 4 1 0) = 0 → ((x1 < 0 → (Q (0 : Int32) μ)) ∧ (¬ x1 < 0 → (((255 : Int32) < x1 → (Q (0 : Int32) μ)) ∧ (¬ (255 : Int32) < x1 → ((x2 < 0 → (Q (0 : Int32) μ)) ∧ (¬ x2 < 0 → (((255 : Int32) < x2 → (Q (0 : Int32) μ)) ∧ (¬ (255 : Int32) < x2 → (Q (1 : Int32) μ))))))))))) : cwi Γ M_X11_canJudge [aR 11 0, aI x1, aI x2] μ Q := by
  refine cw_ofU (ls := [aR 11 0, aI x1, aI x2]) (Or.inl (by decide)) rfl (Nat.le_of_ble_eq_true rfl) rfl ?_
  refine aw_aload_n dX11_canJudge_0 rfl ?_
  refine aw_get dX11_canJudge_1 rfl fk_RX11_23 (look_R rfl rfl : look _ 11 0 2 = aR 4 1) ?_
  refine aw_get dX11_canJudge_4 rfl fk_RX11_95 (look_I rfl : look μ 4 1 0 = aI (μ 4 1 0)) ?_
  refine aw_if_eq (tgt := 36) dX11_canJudge_7 (by decide) (fun c0 => ?_) (fun c0 => ?_)
  · replace h := h.1 c0
    refine aw_iconst (v := (0 : Int32)) dX11_canJudge_36 rfl ?_
    exact aw_iret (ty := .boolean) dX11_canJudge_37 rfl (by decide) ⟨_, rfl, h⟩
  · replace h := h.2 c0
    refine aw_iload_n dX11_canJudge_10 rfl ?_
    refine aw_if_lt (tgt := 36) dX11_canJudge_11 (by decide) (fun c0 => ?_) (fun c0 => ?_)
    · replace h := h.1 c0
      refine aw_iconst (v := (0 : Int32)) dX11_canJudge_36 rfl ?_
      exact aw_iret (ty := .boolean) dX11_canJudge_37 rfl (by decide) ⟨_, rfl, h⟩
    · replace h := h.2 c0
      refine aw_iload_n dX11_canJudge_14 rfl ?_
      refine aw_sipush (v := (255 : Int32)) dX11_canJudge_15 rfl ?_
      refine aw_icmp_gt (tgt := 36) dX11_canJudge_18 (by decide) (fun c0 => ?_) (fun c0 => ?_)
      · replace h := h.1 c0
        refine aw_iconst (v := (0 : Int32)) dX11_canJudge_36 rfl ?_
        exact aw_iret (ty := .boolean) dX11_canJudge_37 rfl (by decide) ⟨_, rfl, h⟩
      · replace h := h.2 c0
        refine aw_iload_n dX11_canJudge_21 rfl ?_
        refine aw_if_lt (tgt := 36) dX11_canJudge_22 (by decide) (fun c0 => ?_) (fun c0 => ?_)
        · replace h := h.1 c0
          refine aw_iconst (v := (0 : Int32)) dX11_canJudge_36 rfl ?_
          exact aw_iret (ty := .boolean) dX11_canJudge_37 rfl (by decide) ⟨_, rfl, h⟩
        · replace h := h.2 c0
          refine aw_iload_n dX11_canJudge_25 rfl ?_
          refine aw_sipush (v := (255 : Int32)) dX11_canJudge_26 rfl ?_
          refine aw_icmp_gt (tgt := 36) dX11_canJudge_29 (by decide) (fun c0 => ?_) (fun c0 => ?_)
          · replace h := h.1 c0
            refine aw_iconst (v := (0 : Int32)) dX11_canJudge_36 rfl ?_
            exact aw_iret (ty := .boolean) dX11_canJudge_37 rfl (by decide) ⟨_, rfl, h⟩
          · replace h := h.2 c0
            refine aw_iconst (v := (1 : Int32)) dX11_canJudge_32 rfl ?_
            refine aw_goto (tgt := 37) dX11_canJudge_33 (by decide) ?_
            exact aw_iret (ty := .boolean) dX11_canJudge_37 rfl (by decide) ⟨_, rfl, h⟩
theorem u_X11_bestDrive {Γ : cx_T} {μ : mH}  {Q : Int32 → mH → Prop} (h : cwi Γ M_X8_hopeOf [aR 8 0, aI (0 : Int32)] μ (fun r2 μ1 => aw Γ M_X11_bestDrive 13 [aR 11 0, aI (0 : Int32), aI r2, aI (1 : Int32), aX] [] μ1 (rI Q))) : cwi Γ M_X11_bestDrive [aR 11 0] μ Q := by
  refine cw_ofU (ls := [aR 11 0, aX, aX, aX, aX]) (Or.inl (by decide)) rfl (Nat.le_of_ble_eq_true rfl) rfl ?_
  refine aw_iconst (v := (0 : Int32)) dX11_bestDrive_0 rfl ?_
  refine aw_istore_n (ls' := [aR 11 0, aI (0 : Int32), aX, aX, aX]) dX11_bestDrive_1 (by decide) rfl rfl ?_
  refine aw_aload_n dX11_bestDrive_2 rfl ?_
  refine aw_get dX11_bestDrive_3 rfl fk_RX11_43 (look_R rfl rfl : look _ 11 0 5 = aR 8 0) ?_
  refine aw_iconst (v := (0 : Int32)) dX11_bestDrive_6 rfl ?_
  refine aw_callV (M' := M_X8_hopeOf) (K := 8) (i := 0) (vs := [aI (0 : Int32)]) (st := []) dX11_bestDrive_7 mk_X8_hopeOf mi_X8_hopeOf ml_RX11_214 mp_X8_hopeOf rc_8 rm_X11_bestDrive__X8_hopeOf (Nat.le_of_ble_eq_true rfl) rfl (cw_mono h ?_)
  clear h
  rintro _ μ1 ⟨r2, rfl, h⟩
  show aw Γ M_X11_bestDrive 10 [aR 11 0, aI (0 : Int32), aX, aX, aX] [aI r2] μ1 (rI Q)
  refine aw_istore_n (ls' := [aR 11 0, aI (0 : Int32), aI r2, aX, aX]) dX11_bestDrive_10 (by decide) rfl rfl ?_
  refine aw_iconst (v := (1 : Int32)) dX11_bestDrive_11 rfl ?_
  refine aw_istore_n (ls' := [aR 11 0, aI (0 : Int32), aI r2, aI (1 : Int32), aX]) dX11_bestDrive_12 (by decide) rfl rfl ?_
  exact h
theorem u_X11_bestDrive_13 {Γ : cx_T} {μ : mH} {x1 : Int32} {x2 : Int32} {x3 : Int32} {Q : Int32 → mH → Prop} (h : ((4 : Int32) ≤ x3 → (Q x1 μ)) ∧ (¬ (4 : Int32) ≤ x3 → (cwi Γ M_X8_hopeOf [aR 8 0, aI x3] μ (fun r2 μ1 => (r2 ≤ x2 → (aw Γ M_X11_bestDrive 13 [aR 11 0, aI x1, aI x2, aI (x3 + (1 : Int32)), aX] [] μ1 (rI Q))) ∧ (¬ r2 ≤ x2 → (aw Γ M_X11_bestDrive 13 [aR 11 0, aI x3, aI r2, aI (x3 + (1 : Int32)), aX] [] μ1 (rI Q))))))) : aw Γ M_X11_bestDrive 13 [aR 11 0, aI x1, aI x2, aI x3, aX] [] μ (rI Q) := by
  refine aw_iload_n dX11_bestDrive_13 rfl ?_
  refine aw_iconst (v := (4 : Int32)) dX11_bestDrive_14 rfl ?_
  refine aw_icmp_ge (tgt := 45) dX11_bestDrive_15 (by decide) (fun c0 => ?_) (fun c0 => ?_)
  · replace h := h.1 c0
    refine aw_iload_n dX11_bestDrive_45 rfl ?_
    exact aw_iret dX11_bestDrive_46 rfl rfl ⟨_, rfl, h⟩
  · replace h := h.2 c0
    refine aw_aload_n dX11_bestDrive_18 rfl ?_
    refine aw_get dX11_bestDrive_19 rfl fk_RX11_43 (look_R rfl rfl : look _ 11 0 5 = aR 8 0) ?_
    refine aw_iload_n dX11_bestDrive_22 rfl ?_
    refine aw_callV (M' := M_X8_hopeOf) (K := 8) (i := 0) (vs := [aI x3]) (st := []) dX11_bestDrive_23 mk_X8_hopeOf mi_X8_hopeOf ml_RX11_214 mp_X8_hopeOf rc_8 rm_X11_bestDrive__X8_hopeOf (Nat.le_of_ble_eq_true rfl) rfl (cw_mono h ?_)
    clear h
    rintro _ μ1 ⟨r2, rfl, h⟩
    show aw Γ M_X11_bestDrive 26 [aR 11 0, aI x1, aI x2, aI x3, aX] [aI r2] μ1 (rI Q)
    refine aw_istore (ls' := [aR 11 0, aI x1, aI x2, aI x3, aI r2]) dX11_bestDrive_26 (by decide) rfl rfl ?_
    refine aw_iload dX11_bestDrive_28 rfl ?_
    refine aw_iload_n dX11_bestDrive_30 rfl ?_
    refine aw_icmp_le (tgt := 39) dX11_bestDrive_31 (by decide) (fun c0 => ?_) (fun c0 => ?_)
    · replace h := h.1 c0
      refine aw_iinc (v := x3 + (1 : Int32)) (ls' := [aR 11 0, aI x1, aI x2, aI (x3 + (1 : Int32)), aI r2]) dX11_bestDrive_39 rfl rfl (by decide) rfl rfl ?_
      refine aw_goto (tgt := 13) dX11_bestDrive_42 (by decide) ?_
      exact aw_wkk h (wk_e (wk_e (wk_e (wk_e (wk_x wk_n)))))
    · replace h := h.2 c0
      refine aw_iload_n dX11_bestDrive_34 rfl ?_
      refine aw_istore_n (ls' := [aR 11 0, aI x3, aI x2, aI x3, aI r2]) dX11_bestDrive_35 (by decide) rfl rfl ?_
      refine aw_iload dX11_bestDrive_36 rfl ?_
      refine aw_istore_n (ls' := [aR 11 0, aI x3, aI r2, aI x3, aI r2]) dX11_bestDrive_38 (by decide) rfl rfl ?_
      refine aw_iinc (v := x3 + (1 : Int32)) (ls' := [aR 11 0, aI x3, aI r2, aI (x3 + (1 : Int32)), aI r2]) dX11_bestDrive_39 rfl rfl (by decide) rfl rfl ?_
      refine aw_goto (tgt := 13) dX11_bestDrive_42 (by decide) ?_
      exact aw_wkk h (wk_e (wk_e (wk_e (wk_e (wk_x wk_n)))))
theorem u_X11_worstTrack {Γ : cx_T} {μ : mH}  {Q : Int32 → mH → Prop} (h : cwi Γ M_X0_inFiles [aR 0 0] μ (fun r2 μ1 => aw Γ M_X11_worstTrack 15 [aR 11 0, aI r2, aI (0 : Int32), aI (0 : Int32), aI (0 : Int32), aX, aX, aX, aX] [] μ1 (rI Q))) : cwi Γ M_X11_worstTrack [aR 11 0] μ Q := by
  refine cw_ofU (ls := [aR 11 0, aX, aX, aX, aX, aX, aX, aX, aX]) (Or.inl (by decide)) rfl (Nat.le_of_ble_eq_true rfl) rfl ?_
  refine aw_aload_n dX11_worstTrack_0 rfl ?_
  refine aw_get dX11_worstTrack_1 rfl fk_RX11_57 (look_R rfl rfl : look _ 11 0 7 = aR 0 0) ?_
  refine aw_callV (M' := M_X0_inFiles) (K := 0) (i := 0) (vs := []) (st := []) dX11_worstTrack_4 mk_X0_inFiles mi_X0_inFiles ml_RX11_261 mp_X0_inFiles rc_0 rm_X11_worstTrack__X0_inFiles (Nat.le_of_ble_eq_true rfl) rfl (cw_mono h ?_)
  clear h
  rintro _ μ1 ⟨r2, rfl, h⟩
  show aw Γ M_X11_worstTrack 7 [aR 11 0, aX, aX, aX, aX, aX, aX, aX, aX] [aI r2] μ1 (rI Q)
  refine aw_istore_n (ls' := [aR 11 0, aI r2, aX, aX, aX, aX, aX, aX, aX]) dX11_worstTrack_7 (by decide) rfl rfl ?_
  refine aw_iconst (v := (0 : Int32)) dX11_worstTrack_8 rfl ?_
  refine aw_istore_n (ls' := [aR 11 0, aI r2, aI (0 : Int32), aX, aX, aX, aX, aX, aX]) dX11_worstTrack_9 (by decide) rfl rfl ?_
  refine aw_iconst (v := (0 : Int32)) dX11_worstTrack_10 rfl ?_
  refine aw_istore_n (ls' := [aR 11 0, aI r2, aI (0 : Int32), aI (0 : Int32), aX, aX, aX, aX, aX]) dX11_worstTrack_11 (by decide) rfl rfl ?_
  refine aw_iconst (v := (0 : Int32)) dX11_worstTrack_12 rfl ?_
  refine aw_istore (ls' := [aR 11 0, aI r2, aI (0 : Int32), aI (0 : Int32), aI (0 : Int32), aX, aX, aX, aX]) dX11_worstTrack_13 (by decide) rfl rfl ?_
  exact h
theorem u_X11_worstTrack_15 {Γ : cx_T} {μ : mH} {x1 : Int32} {x2 : Int32} {x3 : Int32} {x4 : Int32} {Q : Int32 → mH → Prop} (h : ((6 : Int32) ≤ x4 → (Q x2 μ)) ∧ (¬ (6 : Int32) ≤ x4 → (aw Γ M_X11_worstTrack 28 [aR 11 0, aI x1, aI x2, aI x3, aI x4, aI (0 : Int32), aI (0 : Int32), aX, aX] [] μ (rI Q)))) : aw Γ M_X11_worstTrack 15 [aR 11 0, aI x1, aI x2, aI x3, aI x4, aX, aX, aX, aX] [] μ (rI Q) := by
  refine aw_iload dX11_worstTrack_15 rfl ?_
  refine aw_bipush (v := (6 : Int32)) dX11_worstTrack_17 rfl ?_
  refine aw_icmp_ge (tgt := 114) dX11_worstTrack_19 (by decide) (fun c0 => ?_) (fun c0 => ?_)
  · replace h := h.1 c0
    refine aw_iload_n dX11_worstTrack_114 rfl ?_
    exact aw_iret dX11_worstTrack_115 rfl rfl ⟨_, rfl, h⟩
  · replace h := h.2 c0
    refine aw_iconst (v := (0 : Int32)) dX11_worstTrack_22 rfl ?_
    refine aw_istore (ls' := [aR 11 0, aI x1, aI x2, aI x3, aI x4, aI (0 : Int32), aX, aX, aX]) dX11_worstTrack_23 (by decide) rfl rfl ?_
    refine aw_iconst (v := (0 : Int32)) dX11_worstTrack_25 rfl ?_
    refine aw_istore (ls' := [aR 11 0, aI x1, aI x2, aI x3, aI x4, aI (0 : Int32), aI (0 : Int32), aX, aX]) dX11_worstTrack_26 (by decide) rfl rfl ?_
    exact h
theorem u_X11_worstTrack_28 {Γ : cx_T} {μ : mH} {x1 : Int32} {x2 : Int32} {x3 : Int32} {x4 : Int32} {x5 : Int32} {x6 : Int32} {Q : Int32 → mH → Prop} (h : ((4 : Int32) ≤ x6 → ((x5 ≤ x3 → (aw Γ M_X11_worstTrack 15 [aR 11 0, aI x1, aI x2, aI x3, aI (x4 + (1 : Int32)), aX, aX, aX, aX] [] μ (rI Q))) ∧ (¬ x5 ≤ x3 → (aw Γ M_X11_worstTrack 15 [aR 11 0, aI x1, aI x4, aI x5, aI (x4 + (1 : Int32)), aX, aX, aX, aX] [] μ (rI Q))))) ∧ (¬ (4 : Int32) ≤ x6 → ((((x1 >>> ((x4 * (4 : Int32)) + x6 &&& 31)) &&& (1 : Int32)) = 0 → (aw Γ M_X11_worstTrack 57 [aR 11 0, aI x1, aI x2, aI x3, aI x4, aI x5, aI x6, aI ((x4 * (4 : Int32)) + x6), aX] [aI (0 : Int32)] μ (rI Q))) ∧ (¬ ((x1 >>> ((x4 * (4 : Int32)) + x6 &&& 31)) &&& (1 : Int32)) = 0 → (aw Γ M_X11_worstTrack 57 [aR 11 0, aI x1, aI x2, aI x3, aI x4, aI x5, aI x6, aI ((x4 * (4 : Int32)) + x6), aX] [aI (1 : Int32)] μ (rI Q)))))) : aw Γ M_X11_worstTrack 28 [aR 11 0, aI x1, aI x2, aI x3, aI x4, aI x5, aI x6, aX, aX] [] μ (rI Q) := by
  refine aw_iload dX11_worstTrack_28 rfl ?_
  refine aw_iconst (v := (4 : Int32)) dX11_worstTrack_30 rfl ?_
  refine aw_icmp_ge (tgt := 96) dX11_worstTrack_31 (by decide) (fun c0 => ?_) (fun c0 => ?_)
  · replace h := h.1 c0
    refine aw_iload dX11_worstTrack_96 rfl ?_
    refine aw_iload_n dX11_worstTrack_98 rfl ?_
    refine aw_icmp_le (tgt := 108) dX11_worstTrack_99 (by decide) (fun c0 => ?_) (fun c0 => ?_)
    · replace h := h.1 c0
      refine aw_iinc (v := x4 + (1 : Int32)) (ls' := [aR 11 0, aI x1, aI x2, aI x3, aI (x4 + (1 : Int32)), aI x5, aI x6, aX, aX]) dX11_worstTrack_108 rfl rfl (by decide) rfl rfl ?_
      refine aw_goto (tgt := 15) dX11_worstTrack_111 (by decide) ?_
      exact aw_wkk h (wk_e (wk_e (wk_e (wk_e (wk_e (wk_x (wk_x (wk_e (wk_e wk_n)))))))))
    · replace h := h.2 c0
      refine aw_iload dX11_worstTrack_102 rfl ?_
      refine aw_istore_n (ls' := [aR 11 0, aI x1, aI x4, aI x3, aI x4, aI x5, aI x6, aX, aX]) dX11_worstTrack_104 (by decide) rfl rfl ?_
      refine aw_iload dX11_worstTrack_105 rfl ?_
      refine aw_istore_n (ls' := [aR 11 0, aI x1, aI x4, aI x5, aI x4, aI x5, aI x6, aX, aX]) dX11_worstTrack_107 (by decide) rfl rfl ?_
      refine aw_iinc (v := x4 + (1 : Int32)) (ls' := [aR 11 0, aI x1, aI x4, aI x5, aI (x4 + (1 : Int32)), aI x5, aI x6, aX, aX]) dX11_worstTrack_108 rfl rfl (by decide) rfl rfl ?_
      refine aw_goto (tgt := 15) dX11_worstTrack_111 (by decide) ?_
      exact aw_wkk h (wk_e (wk_e (wk_e (wk_e (wk_e (wk_x (wk_x (wk_e (wk_e wk_n)))))))))
  · replace h := h.2 c0
    refine aw_iload dX11_worstTrack_34 rfl ?_
    refine aw_iconst (v := (4 : Int32)) dX11_worstTrack_36 rfl ?_
    refine aw_imul dX11_worstTrack_37 ?_
    refine aw_iload dX11_worstTrack_38 rfl ?_
    refine aw_iadd dX11_worstTrack_40 ?_
    refine aw_istore (ls' := [aR 11 0, aI x1, aI x2, aI x3, aI x4, aI x5, aI x6, aI ((x4 * (4 : Int32)) + x6), aX]) dX11_worstTrack_41 (by decide) rfl rfl ?_
    refine aw_iload_n dX11_worstTrack_43 rfl ?_
    refine aw_iload dX11_worstTrack_44 rfl ?_
    refine aw_ishr dX11_worstTrack_46 ?_
    refine aw_iconst (v := (1 : Int32)) dX11_worstTrack_47 rfl ?_
    refine aw_iand dX11_worstTrack_48 ?_
    refine aw_if_eq (tgt := 56) dX11_worstTrack_49 (by decide) (fun c0 => ?_) (fun c0 => ?_)
    · replace h := h.1 c0
      refine aw_iconst (v := (0 : Int32)) dX11_worstTrack_56 rfl ?_
      exact h
    · replace h := h.2 c0
      refine aw_iconst (v := (1 : Int32)) dX11_worstTrack_52 rfl ?_
      refine aw_goto (tgt := 57) dX11_worstTrack_53 (by decide) ?_
      exact h
theorem u_X11_worstTrack_57 {Γ : cx_T} {μ : mH} {x1 : Int32} {x2 : Int32} {x3 : Int32} {x4 : Int32} {x5 : Int32} {x6 : Int32} {x7 : Int32} {y0 : Int32} {Q : Int32 → mH → Prop} (h : (y0 = 0 → (aw Γ M_X11_worstTrack 28 [aR 11 0, aI x1, aI x2, aI x3, aI x4, aI x5, aI (x6 + (1 : Int32)), aX, aX] [] μ (rI Q))) ∧ (¬ y0 = 0 → (cwi Γ M_X3_judgeCluster [aR 3 0, aI x7, aR 8 0, aR 4 1] μ (fun r2 μ1 => cwi Γ M_X11_soundStatus [aI r2] μ1 (fun r4 μ3 => (¬ r4 = 0 → (aw Γ M_X11_worstTrack 28 [aR 11 0, aI x1, aI x2, aI x3, aI x4, aI x5, aI (x6 + (1 : Int32)), aX, aX] [] μ3 (rI Q))) ∧ (r4 = 0 → (aw Γ M_X11_worstTrack 28 [aR 11 0, aI x1, aI x2, aI x3, aI x4, aI (x5 + (1 : Int32)), aI (x6 + (1 : Int32)), aX, aX] [] μ3 (rI Q)))))))) : aw Γ M_X11_worstTrack 57 [aR 11 0, aI x1, aI x2, aI x3, aI x4, aI x5, aI x6, aI x7, aX] [aI y0] μ (rI Q) := by
  refine aw_istore (ls' := [aR 11 0, aI x1, aI x2, aI x3, aI x4, aI x5, aI x6, aI x7, aI y0]) dX11_worstTrack_57 (by decide) rfl rfl ?_
  refine aw_iload dX11_worstTrack_59 rfl ?_
  refine aw_if_eq (tgt := 90) dX11_worstTrack_61 (by decide) (fun c0 => ?_) (fun c0 => ?_)
  · replace h := h.1 c0
    refine aw_iinc (v := x6 + (1 : Int32)) (ls' := [aR 11 0, aI x1, aI x2, aI x3, aI x4, aI x5, aI (x6 + (1 : Int32)), aI x7, aI y0]) dX11_worstTrack_90 rfl rfl (by decide) rfl rfl ?_
    refine aw_goto (tgt := 28) dX11_worstTrack_93 (by decide) ?_
    exact aw_wkk h (wk_e (wk_e (wk_e (wk_e (wk_e (wk_e (wk_e (wk_x (wk_x wk_n)))))))))
  · replace h := h.2 c0
    refine aw_aload_n dX11_worstTrack_64 rfl ?_
    refine aw_get dX11_worstTrack_65 rfl fk_RX11_50 (look_R rfl rfl : look _ 11 0 6 = aR 3 0) ?_
    refine aw_iload dX11_worstTrack_68 rfl ?_
    refine aw_aload_n dX11_worstTrack_70 rfl ?_
    refine aw_get dX11_worstTrack_71 rfl fk_RX11_43 (look_R rfl rfl : look _ 11 0 5 = aR 8 0) ?_
    refine aw_aload_n dX11_worstTrack_74 rfl ?_
    refine aw_get dX11_worstTrack_75 rfl fk_RX11_23 (look_R rfl rfl : look _ 11 0 2 = aR 4 1) ?_
    refine aw_callV (M' := M_X3_judgeCluster) (K := 3) (i := 0) (vs := [aI x7, aR 8 0, aR 4 1]) (st := []) dX11_worstTrack_78 mk_X3_judgeCluster mi_X3_judgeCluster ml_RX11_207 mp_X3_judgeCluster rc_3 rm_X11_worstTrack__X3_judgeCluster (Nat.le_of_ble_eq_true rfl) rfl (cw_mono h ?_)
    clear h
    rintro _ μ1 ⟨r2, rfl, h⟩
    show aw Γ M_X11_worstTrack 81 [aR 11 0, aI x1, aI x2, aI x3, aI x4, aI x5, aI x6, aI x7, aI y0] [aI r2] μ1 (rI Q)
    refine aw_callS (M' := M_X11_soundStatus) (vs := [aI r2]) (st := []) dX11_worstTrack_81 mk_X11_soundStatus ms_X11_soundStatus ml_RX11_211 mp_X11_soundStatus rm_X11_worstTrack__X11_soundStatus (Nat.le_of_ble_eq_true rfl) rfl (cw_mono h ?_)
    clear h
    rintro _ μ3 ⟨r4, rfl, h⟩
    show aw Γ M_X11_worstTrack 84 [aR 11 0, aI x1, aI x2, aI x3, aI x4, aI x5, aI x6, aI x7, aI y0] [aI r4] μ3 (rI Q)
    refine aw_if_ne (tgt := 90) dX11_worstTrack_84 (by decide) (fun c0 => ?_) (fun c0 => ?_)
    · replace h := h.1 c0
      refine aw_iinc (v := x6 + (1 : Int32)) (ls' := [aR 11 0, aI x1, aI x2, aI x3, aI x4, aI x5, aI (x6 + (1 : Int32)), aI x7, aI y0]) dX11_worstTrack_90 rfl rfl (by decide) rfl rfl ?_
      refine aw_goto (tgt := 28) dX11_worstTrack_93 (by decide) ?_
      exact aw_wkk h (wk_e (wk_e (wk_e (wk_e (wk_e (wk_e (wk_e (wk_x (wk_x wk_n)))))))))
    · replace h := h.2 c0
      refine aw_iinc (v := x5 + (1 : Int32)) (ls' := [aR 11 0, aI x1, aI x2, aI x3, aI x4, aI (x5 + (1 : Int32)), aI x6, aI x7, aI y0]) dX11_worstTrack_87 rfl rfl (by decide) rfl rfl ?_
      refine aw_iinc (v := x6 + (1 : Int32)) (ls' := [aR 11 0, aI x1, aI x2, aI x3, aI x4, aI (x5 + (1 : Int32)), aI (x6 + (1 : Int32)), aI x7, aI y0]) dX11_worstTrack_90 rfl rfl (by decide) rfl rfl ?_
      refine aw_goto (tgt := 28) dX11_worstTrack_93 (by decide) ?_
      exact aw_wkk h (wk_e (wk_e (wk_e (wk_e (wk_e (wk_e (wk_e (wk_x (wk_x wk_n)))))))))
theorem u_X11_isDrive {Γ : cx_T} {μ : mH} {x0 : Int32} {Q : Int32 → mH → Prop} (h : (x0 < 0 → (Q (0 : Int32) μ)) ∧ (¬ x0 < 0 → (((4 : Int32) ≤ x0 → (Q (0 : Int32) μ)) ∧ (¬ (4 : Int32) ≤ x0 → (Q (1 : Int32) μ))))) : cwi Γ M_X11_isDrive [aI x0] μ Q := by
  refine cw_ofU (ls := [aI x0]) (Or.inl (by decide)) rfl (Nat.le_of_ble_eq_true rfl) rfl ?_
  refine aw_iload_n dX11_isDrive_0 rfl ?_
  refine aw_if_lt (tgt := 13) dX11_isDrive_1 (by decide) (fun c0 => ?_) (fun c0 => ?_)
  · replace h := h.1 c0
    refine aw_iconst (v := (0 : Int32)) dX11_isDrive_13 rfl ?_
    exact aw_iret (ty := .boolean) dX11_isDrive_14 rfl (by decide) ⟨_, rfl, h⟩
  · replace h := h.2 c0
    refine aw_iload_n dX11_isDrive_4 rfl ?_
    refine aw_iconst (v := (4 : Int32)) dX11_isDrive_5 rfl ?_
    refine aw_icmp_ge (tgt := 13) dX11_isDrive_6 (by decide) (fun c0 => ?_) (fun c0 => ?_)
    · replace h := h.1 c0
      refine aw_iconst (v := (0 : Int32)) dX11_isDrive_13 rfl ?_
      exact aw_iret (ty := .boolean) dX11_isDrive_14 rfl (by decide) ⟨_, rfl, h⟩
    · replace h := h.2 c0
      refine aw_iconst (v := (1 : Int32)) dX11_isDrive_9 rfl ?_
      refine aw_goto (tgt := 14) dX11_isDrive_10 (by decide) ?_
      exact aw_iret (ty := .boolean) dX11_isDrive_14 rfl (by decide) ⟨_, rfl, h⟩
theorem u_X11_isCluster {Γ : cx_T} {μ : mH} {x0 : Int32} {Q : Int32 → mH → Prop} (h : (x0 < 0 → (Q (0 : Int32) μ)) ∧ (¬ x0 < 0 → (((24 : Int32) ≤ x0 → (Q (0 : Int32) μ)) ∧ (¬ (24 : Int32) ≤ x0 → (Q (1 : Int32) μ))))) : cwi Γ M_X11_isCluster [aI x0] μ Q := by
  refine cw_ofU (ls := [aI x0]) (Or.inl (by decide)) rfl (Nat.le_of_ble_eq_true rfl) rfl ?_
  refine aw_iload_n dX11_isCluster_0 rfl ?_
  refine aw_if_lt (tgt := 14) dX11_isCluster_1 (by decide) (fun c0 => ?_) (fun c0 => ?_)
  · replace h := h.1 c0
    refine aw_iconst (v := (0 : Int32)) dX11_isCluster_14 rfl ?_
    exact aw_iret (ty := .boolean) dX11_isCluster_15 rfl (by decide) ⟨_, rfl, h⟩
  · replace h := h.2 c0
    refine aw_iload_n dX11_isCluster_4 rfl ?_
    refine aw_bipush (v := (24 : Int32)) dX11_isCluster_5 rfl ?_
    refine aw_icmp_ge (tgt := 14) dX11_isCluster_7 (by decide) (fun c0 => ?_) (fun c0 => ?_)
    · replace h := h.1 c0
      refine aw_iconst (v := (0 : Int32)) dX11_isCluster_14 rfl ?_
      exact aw_iret (ty := .boolean) dX11_isCluster_15 rfl (by decide) ⟨_, rfl, h⟩
    · replace h := h.2 c0
      refine aw_iconst (v := (1 : Int32)) dX11_isCluster_10 rfl ?_
      refine aw_goto (tgt := 15) dX11_isCluster_11 (by decide) ?_
      exact aw_iret (ty := .boolean) dX11_isCluster_15 rfl (by decide) ⟨_, rfl, h⟩
theorem u_X11_soundStatus {Γ : cx_T} {μ : mH} {x0 : Int32} {Q : Int32 → mH → Prop} (h : (x0 = (1 : Int32) → (Q (1 : Int32) μ)) ∧ (¬ x0 = (1 : Int32) → ((¬ x0 = (3 : Int32) → (Q (0 : Int32) μ)) ∧ (x0 = (3 : Int32) → (Q (1 : Int32) μ))))) : cwi Γ M_X11_soundStatus [aI x0] μ Q := by
  refine cw_ofU (ls := [aI x0]) (Or.inl (by decide)) rfl (Nat.le_of_ble_eq_true rfl) rfl ?_
  refine aw_iload_n dX11_soundStatus_0 rfl ?_
  refine aw_iconst (v := (1 : Int32)) dX11_soundStatus_1 rfl ?_
  refine aw_icmp_eq (tgt := 10) dX11_soundStatus_2 (by decide) (fun c0 => ?_) (fun c0 => ?_)
  · replace h := h.1 c0
    refine aw_iconst (v := (1 : Int32)) dX11_soundStatus_10 rfl ?_
    refine aw_goto (tgt := 15) dX11_soundStatus_11 (by decide) ?_
    exact aw_iret (ty := .boolean) dX11_soundStatus_15 rfl (by decide) ⟨_, rfl, h⟩
  · replace h := h.2 c0
    refine aw_iload_n dX11_soundStatus_5 rfl ?_
    refine aw_iconst (v := (3 : Int32)) dX11_soundStatus_6 rfl ?_
    refine aw_icmp_ne (tgt := 14) dX11_soundStatus_7 (by decide) (fun c0 => ?_) (fun c0 => ?_)
    · replace h := h.1 c0
      refine aw_iconst (v := (0 : Int32)) dX11_soundStatus_14 rfl ?_
      exact aw_iret (ty := .boolean) dX11_soundStatus_15 rfl (by decide) ⟨_, rfl, h⟩
    · replace h := h.2 c0
      refine aw_iconst (v := (1 : Int32)) dX11_soundStatus_10 rfl ?_
      refine aw_goto (tgt := 15) dX11_soundStatus_11 (by decide) ?_
      exact aw_iret (ty := .boolean) dX11_soundStatus_15 rfl (by decide) ⟨_, rfl, h⟩
theorem u_X11_byteOf {Γ : cx_T} {μ : mH} {x0 : Int32} {x1 : Int32} {Q : Int32 → mH → Prop} (h : Q (((x0.toUInt32 >>> (((24 : Int32) - ((8 : Int32) * x1)).toUInt32 &&& Int32.toUInt32 31)).toInt32) &&& (255 : Int32)) μ) : cwi Γ M_X11_byteOf [aI x0, aI x1] μ Q := by
  refine cw_ofU (ls := [aI x0, aI x1]) (Or.inl (by decide)) rfl (Nat.le_of_ble_eq_true rfl) rfl ?_
  refine aw_iload_n dX11_byteOf_0 rfl ?_
  refine aw_bipush (v := (24 : Int32)) dX11_byteOf_1 rfl ?_
  refine aw_bipush (v := (8 : Int32)) dX11_byteOf_3 rfl ?_
  refine aw_iload_n dX11_byteOf_5 rfl ?_
  refine aw_imul dX11_byteOf_6 ?_
  refine aw_isub dX11_byteOf_7 ?_
  refine aw_iushr dX11_byteOf_8 ?_
  refine aw_sipush (v := (255 : Int32)) dX11_byteOf_9 rfl ?_
  refine aw_iand dX11_byteOf_12 ?_
  exact aw_iret dX11_byteOf_13 rfl rfl ⟨_, rfl, h⟩
theorem u_X11_stepsIn {Γ : cx_T} {μ : mH} {x0 : Int32} {Q : Int32 → mH → Prop} (h : aw Γ M_X11_stepsIn 4 [aI x0, aI (0 : Int32), aI (0 : Int32)] [] μ (rI Q)) : cwi Γ M_X11_stepsIn [aI x0] μ Q := by
  refine cw_ofU (ls := [aI x0, aX, aX]) (Or.inl (by decide)) rfl (Nat.le_of_ble_eq_true rfl) rfl ?_
  refine aw_iconst (v := (0 : Int32)) dX11_stepsIn_0 rfl ?_
  refine aw_istore_n (ls' := [aI x0, aI (0 : Int32), aX]) dX11_stepsIn_1 (by decide) rfl rfl ?_
  refine aw_iconst (v := (0 : Int32)) dX11_stepsIn_2 rfl ?_
  refine aw_istore_n (ls' := [aI x0, aI (0 : Int32), aI (0 : Int32)]) dX11_stepsIn_3 (by decide) rfl rfl ?_
  exact h
theorem u_X11_stepsIn_4 {Γ : cx_T} {μ : mH} {x0 : Int32} {x1 : Int32} {x2 : Int32} {Q : Int32 → mH → Prop} (h : ((4 : Int32) ≤ x2 → (Q x1 μ)) ∧ (¬ (4 : Int32) ≤ x2 → (cwi Γ M_X11_byteOf [aI x0, aI x2] μ (fun r2 μ1 => (r2 = 0 → (aw Γ M_X11_stepsIn 4 [aI x0, aI x1, aI (x2 + (1 : Int32))] [] μ1 (rI Q))) ∧ (¬ r2 = 0 → (aw Γ M_X11_stepsIn 4 [aI x0, aI (x1 + (1 : Int32)), aI (x2 + (1 : Int32))] [] μ1 (rI Q))))))) : aw Γ M_X11_stepsIn 4 [aI x0, aI x1, aI x2] [] μ (rI Q) := by
  refine aw_iload_n dX11_stepsIn_4 rfl ?_
  refine aw_iconst (v := (4 : Int32)) dX11_stepsIn_5 rfl ?_
  refine aw_icmp_ge (tgt := 26) dX11_stepsIn_6 (by decide) (fun c0 => ?_) (fun c0 => ?_)
  · replace h := h.1 c0
    refine aw_iload_n dX11_stepsIn_26 rfl ?_
    exact aw_iret dX11_stepsIn_27 rfl rfl ⟨_, rfl, h⟩
  · replace h := h.2 c0
    refine aw_iload_n dX11_stepsIn_9 rfl ?_
    refine aw_iload_n dX11_stepsIn_10 rfl ?_
    refine aw_callS (M' := M_X11_byteOf) (vs := [aI x0, aI x2]) (st := []) dX11_stepsIn_11 mk_X11_byteOf ms_X11_byteOf ml_RX11_264 mp_X11_byteOf rm_X11_stepsIn__X11_byteOf (Nat.le_of_ble_eq_true rfl) rfl (cw_mono h ?_)
    clear h
    rintro _ μ1 ⟨r2, rfl, h⟩
    show aw Γ M_X11_stepsIn 14 [aI x0, aI x1, aI x2] [aI r2] μ1 (rI Q)
    refine aw_if_eq (tgt := 20) dX11_stepsIn_14 (by decide) (fun c0 => ?_) (fun c0 => ?_)
    · replace h := h.1 c0
      refine aw_iinc (v := x2 + (1 : Int32)) (ls' := [aI x0, aI x1, aI (x2 + (1 : Int32))]) dX11_stepsIn_20 rfl rfl (by decide) rfl rfl ?_
      refine aw_goto (tgt := 4) dX11_stepsIn_23 (by decide) ?_
      exact h
    · replace h := h.2 c0
      refine aw_iinc (v := x1 + (1 : Int32)) (ls' := [aI x0, aI (x1 + (1 : Int32)), aI x2]) dX11_stepsIn_17 rfl rfl (by decide) rfl rfl ?_
      refine aw_iinc (v := x2 + (1 : Int32)) (ls' := [aI x0, aI (x1 + (1 : Int32)), aI (x2 + (1 : Int32))]) dX11_stepsIn_20 rfl rfl (by decide) rfl rfl ?_
      refine aw_goto (tgt := 4) dX11_stepsIn_23 (by decide) ?_
      exact h
theorem u_X11_clockDue {Γ : cx_T} {μ : mH} {x0 : Int32} {x1 : Int32} {Q : Int32 → mH → Prop} (h : (¬ x0 = 0 → (Q (0 : Int32) μ)) ∧ (x0 = 0 → ((¬ x1 = 0 → (Q (0 : Int32) μ)) ∧ (x1 = 0 → (Q (1 : Int32) μ))))) : cwi Γ M_X11_clockDue [aI x0, aI x1] μ Q := by
  refine cw_ofU (ls := [aI x0, aI x1]) (Or.inl (by decide)) rfl (Nat.le_of_ble_eq_true rfl) rfl ?_
  refine aw_iload_n dX11_clockDue_0 rfl ?_
  refine aw_if_ne (tgt := 12) dX11_clockDue_1 (by decide) (fun c0 => ?_) (fun c0 => ?_)
  · replace h := h.1 c0
    refine aw_iconst (v := (0 : Int32)) dX11_clockDue_12 rfl ?_
    exact aw_iret dX11_clockDue_13 rfl rfl ⟨_, rfl, h⟩
  · replace h := h.2 c0
    refine aw_iload_n dX11_clockDue_4 rfl ?_
    refine aw_if_ne (tgt := 12) dX11_clockDue_5 (by decide) (fun c0 => ?_) (fun c0 => ?_)
    · replace h := h.1 c0
      refine aw_iconst (v := (0 : Int32)) dX11_clockDue_12 rfl ?_
      exact aw_iret dX11_clockDue_13 rfl rfl ⟨_, rfl, h⟩
    · replace h := h.2 c0
      refine aw_iconst (v := (1 : Int32)) dX11_clockDue_8 rfl ?_
      refine aw_goto (tgt := 13) dX11_clockDue_9 (by decide) ?_
      exact aw_iret dX11_clockDue_13 rfl rfl ⟨_, rfl, h⟩
