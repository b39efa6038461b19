theorem u_X0_write {Γ : cx_T} {μ : mH} {x1 : Int32} {x2 : Int32} {x3 : Int32} {Q : mH → Prop} (h : cwi Γ M_X11_isCluster [aI x2] μ (fun r2 μ1 => (¬ r2 = 0 → ((¬ x1 = 0 → (vp_in x2 24 ∧ (Q (sto (sto μ1 35 1 (tn x2) x3) 0 0 8 (0 : Int32))))) ∧ (x1 = 0 → (vp_in x2 24 ∧ (Q (sto (sto μ1 35 0 (tn x2) x3) 0 0 8 (0 : Int32))))))) ∧ (r2 = 0 → (Q μ1)))) : cwv Γ M_X0_write [aR 0 0, aI x1, aI x2, aI x3] μ Q := by
  refine cw_ofU (ls := [aR 0 0, aI x1, aI x2, aI x3]) (Or.inl (by decide)) rfl (Nat.le_of_ble_eq_true rfl) rfl ?_
  refine aw_iload_n dX0_write_0 rfl ?_
  refine aw_callSN (M' := M_X11_isCluster) (vs := [aI x2]) (st := []) dX0_write_1 mk_X11_isCluster ms_X11_isCluster ml_RX0_39 mp_X11_isCluster rm_X0_write__X11_isCluster (Nat.le_of_ble_eq_true rfl) rfl (cw_mono h ?_)
  clear h
  rintro _ μ1 ⟨r2, rfl, h⟩
  show aw Γ M_X0_write 4 [aR 0 0, aI x1, aI x2, aI x3] [aI r2] μ1 (rV Q)
  refine aw_if_ne (tgt := 8) dX0_write_4 (by decide) (fun c0 => ?_) (fun c0 => ?_)
  · replace h := h.1 c0
    refine aw_iload_n dX0_write_8 rfl ?_
    refine aw_if_ne (tgt := 22) dX0_write_9 (by decide) (fun c0 => ?_) (fun c0 => ?_)
    · replace h := h.1 c0
      refine aw_aload_n dX0_write_22 rfl ?_
      refine aw_get dX0_write_23 rfl fk_RX0_18 (look_R rfl rfl : look _ 0 0 4 = aR 35 1) ?_
      refine aw_iload_n dX0_write_26 rfl ?_
      refine aw_iload_n dX0_write_27 rfl ?_
      refine aw_is (j := tn x2) dX0_write_28 rfl (fun _ => rfl) h.1 rfl ?_
      replace h := h.2
      refine aw_aload_n dX0_write_29 rfl ?_
      refine aw_iconst (v := (0 : Int32)) dX0_write_30 rfl ?_
      refine aw_putZ dX0_write_31 rfl fk_RX0_43 (fun r h => by cases h; rfl) rfl rfl (Or.inl rfl) ?_
      exact aw_vret dX0_write_34 rfl h
    · replace h := h.2 c0
      refine aw_aload_n dX0_write_12 rfl ?_
      refine aw_get dX0_write_13 rfl fk_RX0_15 (look_R rfl rfl : look _ 0 0 3 = aR 35 0) ?_
      refine aw_iload_n dX0_write_16 rfl ?_
      refine aw_iload_n dX0_write_17 rfl ?_
      refine aw_is (j := tn x2) dX0_write_18 rfl (fun _ => rfl) h.1 rfl ?_
      replace h := h.2
      refine aw_goto (tgt := 29) dX0_write_19 (by decide) ?_
      refine aw_aload_n dX0_write_29 rfl ?_
      refine aw_iconst (v := (0 : Int32)) dX0_write_30 rfl ?_
      refine aw_putZ dX0_write_31 rfl fk_RX0_43 (fun r h => by cases h; rfl) rfl rfl (Or.inl rfl) ?_
      exact aw_vret dX0_write_34 rfl h
  · replace h := h.2 c0
    exact aw_vret dX0_write_7 rfl h
theorem u_X0_add {Γ : cx_T} {μ : mH} {x1 : Int32} {x2 : Int32} {Q : mH → Prop} (h : ((μ 0 0 0) < (6 : Int32) → (vp_in (μ 0 0 0) 6 ∧ (vp_in (μ 0 0 0) 6 ∧ (Q (sto (sto (sto (sto μ 37 0 (tn (μ 0 0 0)) x1) 38 0 (tn (μ 0 0 0)) x2) 0 0 0 ((μ 0 0 0) + (1 : Int32))) 0 0 8 (0 : Int32)))))) ∧ (¬ (μ 0 0 0) < (6 : Int32) → (Q μ))) : cwv Γ M_X0_add [aR 0 0, aI x1, aI x2] μ Q := by
  refine cw_ofU (ls := [aR 0 0, aI x1, aI x2]) (Or.inl (by decide)) rfl (Nat.le_of_ble_eq_true rfl) rfl ?_
  refine aw_aload_n dX0_add_0 rfl ?_
  refine aw_get dX0_add_1 rfl fk_RX0_47 (look_I rfl : look μ 0 0 0 = aI (μ 0 0 0)) ?_
  refine aw_bipush (v := (6 : Int32)) dX0_add_4 rfl ?_
  refine aw_icmp_lt (tgt := 10) dX0_add_6 (by decide) (fun c0 => ?_) (fun c0 => ?_)
  · replace h := h.1 c0
    refine aw_aload_n dX0_add_10 rfl ?_
    refine aw_get dX0_add_11 rfl fk_RX0_27 (look_R rfl rfl : look _ 0 0 10 = aR 37 0) ?_
    refine aw_aload_n dX0_add_14 rfl ?_
    refine aw_get dX0_add_15 rfl fk_RX0_47 (look_I rfl : look μ 0 0 0 = aI (μ 0 0 0)) ?_
    refine aw_iload_n dX0_add_18 rfl ?_
    refine aw_is (j := tn (μ 0 0 0)) dX0_add_19 rfl (fun _ => rfl) h.1 rfl ?_
    replace h := h.2
    refine aw_aload_n dX0_add_20 rfl ?_
    refine aw_get dX0_add_21 rfl fk_RX0_30 (look_R rfl rfl : look _ 0 0 11 = aR 38 0) ?_
    refine aw_aload_n dX0_add_24 rfl ?_
    refine aw_get dX0_add_25 rfl fk_RX0_47 ((look_I rfl).trans (congrArg aI ((sto_K (by decide)).trans (rfl))) : look (sto μ 37 0 (tn (μ 0 0 0)) x1) 0 0 0 = aI (μ 0 0 0)) ?_
    refine aw_iload_n dX0_add_28 rfl ?_
    refine aw_is (j := tn (μ 0 0 0)) dX0_add_29 rfl (fun _ => rfl) h.1 rfl ?_
    replace h := h.2
    refine aw_aload_n dX0_add_30 rfl ?_
    refine aw_dup dX0_add_31 (fun _ => rfl) ?_
    refine aw_get dX0_add_32 rfl fk_RX0_47 ((look_I rfl).trans (congrArg aI ((sto_K (by decide)).trans ((sto_K (by decide)).trans (rfl)))) : look (sto (sto μ 37 0 (tn (μ 0 0 0)) x1) 38 0 (tn (μ 0 0 0)) x2) 0 0 0 = aI (μ 0 0 0)) ?_
    refine aw_iconst (v := (1 : Int32)) dX0_add_35 rfl ?_
    refine aw_iadd dX0_add_36 ?_
    refine aw_putI dX0_add_37 rfl fk_RX0_47 (fun r h => by cases h; rfl) rfl rfl ?_
    refine aw_aload_n dX0_add_40 rfl ?_
    refine aw_iconst (v := (0 : Int32)) dX0_add_41 rfl ?_
    refine aw_putZ dX0_add_42 rfl fk_RX0_43 (fun r h => by cases h; rfl) rfl rfl (Or.inl rfl) ?_
    exact aw_vret dX0_add_45 rfl h
  · replace h := h.2 c0
    exact aw_vret dX0_add_9 rfl h
theorem u_X0_holds {Γ : cx_T} {μ : mH} {x1 : Int32} {Q : Int32 → mH → Prop} (h : (x1 < 0 → (Q (0 : Int32) μ)) ∧ (¬ x1 < 0 → (((μ 0 0 0) ≤ x1 → (Q (0 : Int32) μ)) ∧ (¬ (μ 0 0 0) ≤ x1 → (Q (1 : Int32) μ))))) : cwi Γ M_X0_holds [aR 0 0, aI x1] μ Q := by
  refine cw_ofU (ls := [aR 0 0, aI x1]) (Or.inl (by decide)) rfl (Nat.le_of_ble_eq_true rfl) rfl ?_
  refine aw_iload_n dX0_holds_0 rfl ?_
  refine aw_if_lt (tgt := 16) dX0_holds_1 (by decide) (fun c0 => ?_) (fun c0 => ?_)
  · replace h := h.1 c0
    refine aw_iconst (v := (0 : Int32)) dX0_holds_16 rfl ?_
    exact aw_iret (ty := .boolean) dX0_holds_17 rfl (by decide) ⟨_, rfl, h⟩
  · replace h := h.2 c0
    refine aw_iload_n dX0_holds_4 rfl ?_
    refine aw_aload_n dX0_holds_5 rfl ?_
    refine aw_get dX0_holds_6 rfl fk_RX0_47 (look_I rfl : look μ 0 0 0 = aI (μ 0 0 0)) ?_
    refine aw_icmp_ge (tgt := 16) dX0_holds_9 (by decide) (fun c0 => ?_) (fun c0 => ?_)
    · replace h := h.1 c0
      refine aw_iconst (v := (0 : Int32)) dX0_holds_16 rfl ?_
      exact aw_iret (ty := .boolean) dX0_holds_17 rfl (by decide) ⟨_, rfl, h⟩
    · replace h := h.2 c0
      refine aw_iconst (v := (1 : Int32)) dX0_holds_12 rfl ?_
      refine aw_goto (tgt := 17) dX0_holds_13 (by decide) ?_
      exact aw_iret (ty := .boolean) dX0_holds_17 rfl (by decide) ⟨_, rfl, h⟩
theorem u_X0_rowOf {Γ : cx_T} {μ : mH} {x1 : Int32} {Q : Option Nat → mH → Prop} (h : (¬ x1 = 0 → ((¬ x1 = (1 : Int32) → ((x1 = (2 : Int32) → ((¬ (μ 0 0 8) = 0 → (((μ 0 0 9) = 0 → (Q none μ)) ∧ (¬ (μ 0 0 9) = 0 → (Q (some 2) μ)))) ∧ ((μ 0 0 8) = 0 → (cwi Γ M_X0_findUnlike [aR 0 0] (sto μ 0 0 8 (1 : Int32)) (fun r2 μ1 => (r2 = 0 ∨ r2 = 1) ∧ ((r2 = 0 → ((r2 = 0 → (Q none (sto μ1 0 0 9 r2))) ∧ (¬ r2 = 0 → (Q (some 2) (sto μ1 0 0 9 r2))))) ∧ (¬ r2 = 0 → (cwv Γ M_X0_join [aR 0 0] (sto μ1 0 0 9 r2) (fun μ3 => ((μ3 0 0 9) = 0 → (Q none μ3)) ∧ (¬ (μ3 0 0 9) = 0 → (Q (some 2) μ3))))))))))) ∧ (¬ x1 = (2 : Int32) → (Q none μ)))) ∧ (x1 = (1 : Int32) → (Q (some 1) μ)))) ∧ (x1 = 0 → (Q (some 0) μ))) : cwq 35 Γ M_X0_rowOf [aR 0 0, aI x1] μ Q := by
  refine cw_ofU (ls := [aR 0 0, aI x1]) (Or.inl (by decide)) rfl (Nat.le_of_ble_eq_true rfl) rfl ?_
  refine aw_iload_n dX0_rowOf_0 rfl ?_
  refine aw_if_ne (tgt := 9) dX0_rowOf_1 (by decide) (fun c0 => ?_) (fun c0 => ?_)
  · replace h := h.1 c0
    refine aw_iload_n dX0_rowOf_9 rfl ?_
    refine aw_iconst (v := (1 : Int32)) dX0_rowOf_10 rfl ?_
    refine aw_icmp_ne (tgt := 19) dX0_rowOf_11 (by decide) (fun c0 => ?_) (fun c0 => ?_)
    · replace h := h.1 c0
      refine aw_iload_n dX0_rowOf_19 rfl ?_
      refine aw_iconst (v := (2 : Int32)) dX0_rowOf_20 rfl ?_
      refine aw_icmp_eq (tgt := 26) dX0_rowOf_21 (by decide) (fun c0 => ?_) (fun c0 => ?_)
      · replace h := h.1 c0
        refine aw_aload_n dX0_rowOf_26 rfl ?_
        refine aw_get dX0_rowOf_27 rfl fk_RX0_43 (look_I rfl : look μ 0 0 8 = aI (μ 0 0 8)) ?_
        refine aw_if_ne (tgt := 57) dX0_rowOf_30 (by decide) (fun c0 => ?_) (fun c0 => ?_)
        · replace h := h.1 c0
          refine aw_aload_n dX0_rowOf_57 rfl ?_
          refine aw_get dX0_rowOf_58 rfl fk_RX0_55 (look_I rfl : look μ 0 0 9 = aI (μ 0 0 9)) ?_
          refine aw_if_eq (tgt := 71) dX0_rowOf_61 (by decide) (fun c0 => ?_) (fun c0 => ?_)
          · replace h := h.1 c0
            refine aw_null dX0_rowOf_71 ?_
            exact aw_aret (K := 35) (o := none) dX0_rowOf_72 rfl ⟨_, rfl, h⟩
          · replace h := h.2 c0
            refine aw_aload_n dX0_rowOf_64 rfl ?_
            refine aw_get dX0_rowOf_65 rfl fk_RX0_21 (look_R rfl rfl : look _ 0 0 5 = aR 35 2) ?_
            refine aw_goto (tgt := 72) dX0_rowOf_68 (by decide) ?_
            exact aw_aret (K := 35) (o := (some 2)) dX0_rowOf_72 rfl ⟨_, rfl, h⟩
        · replace h := h.2 c0
          refine aw_aload_n dX0_rowOf_33 rfl ?_
          refine aw_iconst (v := (1 : Int32)) dX0_rowOf_34 rfl ?_
          refine aw_putZ dX0_rowOf_35 rfl fk_RX0_43 (fun r h => by cases h; rfl) rfl rfl (Or.inr rfl) ?_
          refine aw_aload_n dX0_rowOf_38 rfl ?_
          refine aw_aload_n dX0_rowOf_39 rfl ?_
          refine aw_callV (M' := M_X0_findUnlike) (K := 0) (i := 0) (vs := []) (st := [aR 0 0]) dX0_rowOf_40 mk_X0_findUnlike mi_X0_findUnlike ml_RX0_51 mp_X0_findUnlike rc_0 rm_X0_rowOf__X0_findUnlike (Nat.le_of_ble_eq_true rfl) rfl (cw_mono h ?_)
          clear h
          rintro _ μ1 ⟨r2, rfl, h⟩
          show aw Γ M_X0_rowOf 43 [aR 0 0, aI x1] [aI r2, aR 0 0] μ1 (rQ 35 Q)
          refine aw_putZ dX0_rowOf_43 rfl fk_RX0_55 (fun r h => by cases h; rfl) rfl rfl h.1 ?_
          replace h := h.2
          refine aw_aload_n dX0_rowOf_46 rfl ?_
          refine aw_get dX0_rowOf_47 rfl fk_RX0_55 ((look_I rfl).trans (congrArg aI (sto_eq)) : look (sto μ1 0 0 9 r2) 0 0 9 = aI r2) ?_
          refine aw_if_eq (tgt := 57) dX0_rowOf_50 (by decide) (fun c0 => ?_) (fun c0 => ?_)
          · replace h := h.1 c0
            refine aw_aload_n dX0_rowOf_57 rfl ?_
            refine aw_get dX0_rowOf_58 rfl fk_RX0_55 ((look_I rfl).trans (congrArg aI (sto_eq)) : look (sto μ1 0 0 9 r2) 0 0 9 = aI r2) ?_
            refine aw_if_eq (tgt := 71) dX0_rowOf_61 (by decide) (fun c0 => ?_) (fun c0 => ?_)
            · replace h := h.1 c0
              refine aw_null dX0_rowOf_71 ?_
              exact aw_aret (K := 35) (o := none) dX0_rowOf_72 rfl ⟨_, rfl, h⟩
            · replace h := h.2 c0
              refine aw_aload_n dX0_rowOf_64 rfl ?_
              refine aw_get dX0_rowOf_65 rfl fk_RX0_21 (look_R rfl rfl : look _ 0 0 5 = aR 35 2) ?_
              refine aw_goto (tgt := 72) dX0_rowOf_68 (by decide) ?_
              exact aw_aret (K := 35) (o := (some 2)) dX0_rowOf_72 rfl ⟨_, rfl, h⟩
          · replace h := h.2 c0
            refine aw_aload_n dX0_rowOf_53 rfl ?_
            refine aw_callV (M' := M_X0_join) (K := 0) (i := 0) (vs := []) (st := []) dX0_rowOf_54 mk_X0_join mi_X0_join ml_RX0_58 mp_X0_join rc_0 rm_X0_rowOf__X0_join (Nat.le_of_ble_eq_true rfl) rfl (cw_mono h ?_)
            clear h
            intro _ μ3 h
            show aw Γ M_X0_rowOf 57 [aR 0 0, aI x1] [] μ3 (rQ 35 Q)
            refine aw_aload_n dX0_rowOf_57 rfl ?_
            refine aw_get dX0_rowOf_58 rfl fk_RX0_55 (look_I rfl : look μ3 0 0 9 = aI (μ3 0 0 9)) ?_
            refine aw_if_eq (tgt := 71) dX0_rowOf_61 (by decide) (fun c0 => ?_) (fun c0 => ?_)
            · replace h := h.1 c0
              refine aw_null dX0_rowOf_71 ?_
              exact aw_aret (K := 35) (o := none) dX0_rowOf_72 rfl ⟨_, rfl, h⟩
            · replace h := h.2 c0
              refine aw_aload_n dX0_rowOf_64 rfl ?_
              refine aw_get dX0_rowOf_65 rfl fk_RX0_21 (look_R rfl rfl : look _ 0 0 5 = aR 35 2) ?_
              refine aw_goto (tgt := 72) dX0_rowOf_68 (by decide) ?_
              exact aw_aret (K := 35) (o := (some 2)) dX0_rowOf_72 rfl ⟨_, rfl, h⟩
      · replace h := h.2 c0
        refine aw_null dX0_rowOf_24 ?_
        exact aw_aret (K := 35) (o := none) dX0_rowOf_25 rfl ⟨_, rfl, h⟩
    · replace h := h.2 c0
      refine aw_aload_n dX0_rowOf_14 rfl ?_
      refine aw_get dX0_rowOf_15 rfl fk_RX0_18 (look_R rfl rfl : look _ 0 0 4 = aR 35 1) ?_
      exact aw_aret (K := 35) (o := (some 1)) dX0_rowOf_18 rfl ⟨_, rfl, h⟩
  · replace h := h.2 c0
    refine aw_aload_n dX0_rowOf_4 rfl ?_
    refine aw_get dX0_rowOf_5 rfl fk_RX0_15 (look_R rfl rfl : look _ 0 0 3 = aR 35 0) ?_
    exact aw_aret (K := 35) (o := (some 0)) dX0_rowOf_8 rfl ⟨_, rfl, h⟩
theorem u_X0_walk {Γ : cx_T} {μ : mH} {r1 : Nat} {x2 : Int32} {Q : mH → Prop} (h : cwi Γ M_X0_holds [aR 0 0, aI x2] (sto μ 0 0 1 (0 : Int32)) (fun r2 μ1 => (¬ r2 = 0 → (vp_in x2 6 ∧ (aw Γ M_X0_walk 24 [aR 0 0, aR 35 r1, aX, aI (0 : Int32), aI (μ1 37 0 (tn x2))] [] μ1 (rV Q)))) ∧ (r2 = 0 → (Q μ1)))) : cwv Γ M_X0_walk [aR 0 0, aR 35 r1, aI x2] μ Q := by
  refine cw_ofU (ls := [aR 0 0, aR 35 r1, aI x2, aX, aX]) (Or.inl (by decide)) rfl (Nat.le_of_ble_eq_true rfl) rfl ?_
  refine aw_aload_n dX0_walk_0 rfl ?_
  refine aw_iconst (v := (0 : Int32)) dX0_walk_1 rfl ?_
  refine aw_putI dX0_walk_2 rfl fk_RX0_61 (fun r h => by cases h; rfl) rfl rfl ?_
  refine aw_aload_n dX0_walk_5 rfl ?_
  refine aw_iload_n dX0_walk_6 rfl ?_
  refine aw_callV (M' := M_X0_holds) (K := 0) (i := 0) (vs := [aI x2]) (st := []) dX0_walk_7 mk_X0_holds mi_X0_holds ml_RX0_64 mp_X0_holds rc_0 rm_X0_walk__X0_holds (Nat.le_of_ble_eq_true rfl) rfl (cw_mono h ?_)
  clear h
  rintro _ μ1 ⟨r2, rfl, h⟩
  show aw Γ M_X0_walk 10 [aR 0 0, aR 35 r1, aI x2, aX, aX] [aI r2] μ1 (rV Q)
  refine aw_if_ne (tgt := 14) dX0_walk_10 (by decide) (fun c0 => ?_) (fun c0 => ?_)
  · replace h := h.1 c0
    refine aw_iconst (v := (0 : Int32)) dX0_walk_14 rfl ?_
    refine aw_istore_n (ls' := [aR 0 0, aR 35 r1, aI x2, aI (0 : Int32), aX]) dX0_walk_15 (by decide) rfl rfl ?_
    refine aw_aload_n dX0_walk_16 rfl ?_
    refine aw_get dX0_walk_17 rfl fk_RX0_27 (look_R rfl rfl : look _ 0 0 10 = aR 37 0) ?_
    refine aw_iload_n dX0_walk_20 rfl ?_
    refine aw_ia (j := tn x2) (y := μ1 37 0 (tn x2)) dX0_walk_21 rfl (fun _ => rfl) h.1 rfl (rfl) ?_
    replace h := h.2
    refine aw_istore (ls' := [aR 0 0, aR 35 r1, aI x2, aI (0 : Int32), aI (μ1 37 0 (tn x2))]) dX0_walk_22 (by decide) rfl rfl ?_
    exact aw_wkk h (wk_e (wk_e (wk_x (wk_e (wk_e wk_n)))))
  · replace h := h.2 c0
    exact aw_vret dX0_walk_13 rfl h
theorem u_X0_walk_24 {Γ : cx_T} {μ : mH} {i1 : Nat} {x3 : Int32} {x4 : Int32} {Q : mH → Prop} (h : ((24 : Int32) ≤ (μ 0 0 1) → (Q μ)) ∧ (¬ (24 : Int32) ≤ (μ 0 0 1) → (cwi Γ M_X11_isCluster [aI x4] μ (fun r2 μ1 => (r2 = 0 → (Q μ1)) ∧ (¬ r2 = 0 → ((¬ ((x3 >>> (x4 &&& 31)) &&& (1 : Int32)) = 0 → (Q μ1)) ∧ (((x3 >>> (x4 &&& 31)) &&& (1 : Int32)) = 0 → (vp_in (μ1 0 0 1) 24 ∧ (vp_in x4 24 ∧ (aw Γ M_X0_walk 24 [aR 0 0, aR 35 i1, aX, aI (x3 ||| ((1 : Int32) <<< (x4 &&& 31))), aI (μ1 35 i1 (tn x4))] [] (sto (sto μ1 34 0 (tn (μ1 0 0 1)) x4) 0 0 1 ((μ1 0 0 1) + (1 : Int32))) (rV Q))))))))))) : aw Γ M_X0_walk 24 [aR 0 0, aR 35 i1, aX, aI x3, aI x4] [] μ (rV Q) := by
  refine aw_aload_n dX0_walk_24 rfl ?_
  refine aw_get dX0_walk_25 rfl fk_RX0_61 (look_I rfl : look μ 0 0 1 = aI (μ 0 0 1)) ?_
  refine aw_bipush (v := (24 : Int32)) dX0_walk_28 rfl ?_
  refine aw_icmp_ge (tgt := 87) dX0_walk_30 (by decide) (fun c0 => ?_) (fun c0 => ?_)
  · replace h := h.1 c0
    exact aw_vret dX0_walk_87 rfl h
  · replace h := h.2 c0
    refine aw_iload dX0_walk_33 rfl ?_
    refine aw_callSN (M' := M_X11_isCluster) (vs := [aI x4]) (st := []) dX0_walk_35 mk_X11_isCluster ms_X11_isCluster ml_RX0_39 mp_X11_isCluster rm_X0_walk__X11_isCluster (Nat.le_of_ble_eq_true rfl) rfl (cw_mono h ?_)
    clear h
    rintro _ μ1 ⟨r2, rfl, h⟩
    show aw Γ M_X0_walk 38 [aR 0 0, aR 35 i1, aX, aI x3, aI x4] [aI r2] μ1 (rV Q)
    refine aw_if_eq (tgt := 87) dX0_walk_38 (by decide) (fun c0 => ?_) (fun c0 => ?_)
    · replace h := h.1 c0
      exact aw_vret dX0_walk_87 rfl h
    · replace h := h.2 c0
      refine aw_iload_n dX0_walk_41 rfl ?_
      refine aw_iload dX0_walk_42 rfl ?_
      refine aw_ishr dX0_walk_44 ?_
      refine aw_iconst (v := (1 : Int32)) dX0_walk_45 rfl ?_
      refine aw_iand dX0_walk_46 ?_
      refine aw_if_ne (tgt := 87) dX0_walk_47 (by decide) (fun c0 => ?_) (fun c0 => ?_)
      · replace h := h.1 c0
        exact aw_vret dX0_walk_87 rfl h
      · replace h := h.2 c0
        refine aw_iload_n dX0_walk_50 rfl ?_
        refine aw_iconst (v := (1 : Int32)) dX0_walk_51 rfl ?_
        refine aw_iload dX0_walk_52 rfl ?_
        refine aw_ishl dX0_walk_54 ?_
        refine aw_ior dX0_walk_55 ?_
        refine aw_istore_n (ls' := [aR 0 0, aR 35 i1, aX, aI (x3 ||| ((1 : Int32) <<< (x4 &&& 31))), aI x4]) dX0_walk_56 (by decide) rfl rfl ?_
        refine aw_aload_n dX0_walk_57 rfl ?_
        refine aw_get dX0_walk_58 rfl fk_RX0_9 (look_R rfl rfl : look _ 0 0 2 = aR 34 0) ?_
        refine aw_aload_n dX0_walk_61 rfl ?_
        refine aw_get dX0_walk_62 rfl fk_RX0_61 (look_I rfl : look μ1 0 0 1 = aI (μ1 0 0 1)) ?_
        refine aw_iload dX0_walk_65 rfl ?_
        refine aw_is (j := tn (μ1 0 0 1)) dX0_walk_67 rfl (fun _ => rfl) h.1 rfl ?_
        replace h := h.2
        refine aw_aload_n dX0_walk_68 rfl ?_
        refine aw_dup dX0_walk_69 (fun _ => rfl) ?_
        refine aw_get dX0_walk_70 rfl fk_RX0_61 ((look_I rfl).trans (congrArg aI ((sto_K (by decide)).trans (rfl))) : look (sto μ1 34 0 (tn (μ1 0 0 1)) x4) 0 0 1 = aI (μ1 0 0 1)) ?_
        refine aw_iconst (v := (1 : Int32)) dX0_walk_73 rfl ?_
        refine aw_iadd dX0_walk_74 ?_
        refine aw_putI dX0_walk_75 rfl fk_RX0_61 (fun r h => by cases h; rfl) rfl rfl ?_
        refine aw_aload_n dX0_walk_78 rfl ?_
        refine aw_iload dX0_walk_79 rfl ?_
        refine aw_ia (j := tn x4) (y := μ1 35 i1 (tn x4)) dX0_walk_81 rfl (fun _ => rfl) h.1 rfl ((sto_K (by decide)).trans ((sto_K (by decide)).trans (rfl))) ?_
        replace h := h.2
        refine aw_istore (ls' := [aR 0 0, aR 35 i1, aX, aI (x3 ||| ((1 : Int32) <<< (x4 &&& 31))), aI (μ1 35 i1 (tn x4))]) dX0_walk_82 (by decide) rfl rfl ?_
        refine aw_goto (tgt := 24) dX0_walk_84 (by decide) ?_
        exact h
theorem u_X0_faultsBy {Γ : cx_T} {μ : mH} {r1 : Nat} {Q : Int32 → mH → Prop} (h : aw Γ M_X0_faultsBy 7 [aR 0 0, aR 35 r1, aI (0 : Int32), aI (0 : Int32), aI (0 : Int32), aX, aX, aX] [] μ (rI Q)) : cwi Γ M_X0_faultsBy [aR 0 0, aR 35 r1] μ Q := by
  refine cw_ofU (ls := [aR 0 0, aR 35 r1, aX, aX, aX, aX, aX, aX]) (Or.inl (by decide)) rfl (Nat.le_of_ble_eq_true rfl) rfl ?_
  refine aw_iconst (v := (0 : Int32)) dX0_faultsBy_0 rfl ?_
  refine aw_istore_n (ls' := [aR 0 0, aR 35 r1, aI (0 : Int32), aX, aX, aX, aX, aX]) dX0_faultsBy_1 (by decide) rfl rfl ?_
  refine aw_iconst (v := (0 : Int32)) dX0_faultsBy_2 rfl ?_
  refine aw_istore_n (ls' := [aR 0 0, aR 35 r1, aI (0 : Int32), aI (0 : Int32), aX, aX, aX, aX]) dX0_faultsBy_3 (by decide) rfl rfl ?_
  refine aw_iconst (v := (0 : Int32)) dX0_faultsBy_4 rfl ?_
  refine aw_istore (ls' := [aR 0 0, aR 35 r1, aI (0 : Int32), aI (0 : Int32), aI (0 : Int32), aX, aX, aX]) dX0_faultsBy_5 (by decide) rfl rfl ?_
  exact h
theorem u_X0_faultsBy_7 {Γ : cx_T} {μ : mH} {i1 : Nat} {x2 : Int32} {x3 : Int32} {x4 : Int32} {Q : Int32 → mH → Prop} (h : ((μ 0 0 0) ≤ x4 → (cwi Γ M_X0_lostOnes [aR 35 i1, aI x3] μ (fun r2 μ1 => Q (x2 + r2) μ1))) ∧ (¬ (μ 0 0 0) ≤ x4 → (vp_in x4 6 ∧ (aw Γ M_X0_faultsBy 31 [aR 0 0, aR 35 i1, aI x2, aI x3, aI x4, aI (0 : Int32), aI (0 : Int32), aI (μ 37 0 (tn x4))] [] μ (rI Q))))) : aw Γ M_X0_faultsBy 7 [aR 0 0, aR 35 i1, aI x2, aI x3, aI x4, aX, aX, aX] [] μ (rI Q) := by
  refine aw_iload dX0_faultsBy_7 rfl ?_
  refine aw_aload_n dX0_faultsBy_9 rfl ?_
  refine aw_get dX0_faultsBy_10 rfl fk_RX0_47 (look_I rfl : look μ 0 0 0 = aI (μ 0 0 0)) ?_
  refine aw_icmp_ge (tgt := 133) dX0_faultsBy_13 (by decide) (fun c0 => ?_) (fun c0 => ?_)
  · replace h := h.1 c0
    refine aw_iload_n dX0_faultsBy_133 rfl ?_
    refine aw_aload_n dX0_faultsBy_134 rfl ?_
    refine aw_iload_n dX0_faultsBy_135 rfl ?_
    refine aw_callS (M' := M_X0_lostOnes) (vs := [aR 35 i1, aI x3]) (st := [aI x2]) dX0_faultsBy_136 mk_X0_lostOnes ms_X0_lostOnes ml_RX0_73 mp_X0_lostOnes rm_X0_faultsBy__X0_lostOnes (Nat.le_of_ble_eq_true rfl) rfl (cw_mono h ?_)
    clear h
    rintro _ μ1 ⟨r2, rfl, h⟩
    show aw Γ M_X0_faultsBy 139 [aR 0 0, aR 35 i1, aI x2, aI x3, aI x4, aX, aX, aX] [aI r2, aI x2] μ1 (rI Q)
    refine aw_iadd dX0_faultsBy_139 ?_
    exact aw_iret dX0_faultsBy_140 rfl rfl ⟨_, rfl, h⟩
  · replace h := h.2 c0
    refine aw_iconst (v := (0 : Int32)) dX0_faultsBy_16 rfl ?_
    refine aw_istore (ls' := [aR 0 0, aR 35 i1, aI x2, aI x3, aI x4, aI (0 : Int32), aX, aX]) dX0_faultsBy_17 (by decide) rfl rfl ?_
    refine aw_iconst (v := (0 : Int32)) dX0_faultsBy_19 rfl ?_
    refine aw_istore (ls' := [aR 0 0, aR 35 i1, aI x2, aI x3, aI x4, aI (0 : Int32), aI (0 : Int32), aX]) dX0_faultsBy_20 (by decide) rfl rfl ?_
    refine aw_aload_n dX0_faultsBy_22 rfl ?_
    refine aw_get dX0_faultsBy_23 rfl fk_RX0_27 (look_R rfl rfl : look _ 0 0 10 = aR 37 0) ?_
    refine aw_iload dX0_faultsBy_26 rfl ?_
    refine aw_ia (j := tn x4) (y := μ 37 0 (tn x4)) dX0_faultsBy_28 rfl (fun _ => rfl) h.1 rfl (rfl) ?_
    replace h := h.2
    refine aw_istore (ls' := [aR 0 0, aR 35 i1, aI x2, aI x3, aI x4, aI (0 : Int32), aI (0 : Int32), aI (μ 37 0 (tn x4))]) dX0_faultsBy_29 (by decide) rfl rfl ?_
    exact h
theorem u_X0_faultsBy_31 {Γ : cx_T} {μ : mH} {i1 : Nat} {x2 : Int32} {x3 : Int32} {x4 : Int32} {x5 : Int32} {x6 : Int32} {x7 : Int32} {Q : Int32 → mH → Prop} (h : ((24 : Int32) ≤ x6 → (aw Γ M_X0_faultsBy 77 [aR 0 0, aR 35 i1, aI x2, aI x3, aI x4, aI x5, aI x6, aI x7] [] μ (rI Q))) ∧ (¬ (24 : Int32) ≤ x6 → (cwi Γ M_X11_isCluster [aI x7] μ (fun r2 μ1 => (r2 = 0 → (aw Γ M_X0_faultsBy 77 [aR 0 0, aR 35 i1, aI x2, aI x3, aI x4, aI x5, aI x6, aI x7] [] μ1 (rI Q))) ∧ (¬ r2 = 0 → ((¬ ((x5 >>> (x7 &&& 31)) &&& (1 : Int32)) = 0 → (aw Γ M_X0_faultsBy 77 [aR 0 0, aR 35 i1, aI x2, aI x3, aI x4, aI x5, aI x6, aI x7] [] μ1 (rI Q))) ∧ (((x5 >>> (x7 &&& 31)) &&& (1 : Int32)) = 0 → (vp_in x7 24 ∧ (aw Γ M_X0_faultsBy 31 [aR 0 0, aR 35 i1, aI x2, aI x3, aI x4, aI (x5 ||| ((1 : Int32) <<< (x7 &&& 31))), aI (x6 + (1 : Int32)), aI (μ1 35 i1 (tn x7))] [] μ1 (rI Q)))))))))) : aw Γ M_X0_faultsBy 31 [aR 0 0, aR 35 i1, aI x2, aI x3, aI x4, aI x5, aI x6, aI x7] [] μ (rI Q) := by
  refine aw_iload dX0_faultsBy_31 rfl ?_
  refine aw_bipush (v := (24 : Int32)) dX0_faultsBy_33 rfl ?_
  refine aw_icmp_ge (tgt := 77) dX0_faultsBy_35 (by decide) (fun c0 => ?_) (fun c0 => ?_)
  · replace h := h.1 c0
    exact h
  · replace h := h.2 c0
    refine aw_iload dX0_faultsBy_38 rfl ?_
    refine aw_callSN (M' := M_X11_isCluster) (vs := [aI x7]) (st := []) dX0_faultsBy_40 mk_X11_isCluster ms_X11_isCluster ml_RX0_39 mp_X11_isCluster rm_X0_faultsBy__X11_isCluster (Nat.le_of_ble_eq_true rfl) rfl (cw_mono h ?_)
    clear h
    rintro _ μ1 ⟨r2, rfl, h⟩
    show aw Γ M_X0_faultsBy 43 [aR 0 0, aR 35 i1, aI x2, aI x3, aI x4, aI x5, aI x6, aI x7] [aI r2] μ1 (rI Q)
    refine aw_if_eq (tgt := 77) dX0_faultsBy_43 (by decide) (fun c0 => ?_) (fun c0 => ?_)
    · replace h := h.1 c0
      exact h
    · replace h := h.2 c0
      refine aw_iload dX0_faultsBy_46 rfl ?_
      refine aw_iload dX0_faultsBy_48 rfl ?_
      refine aw_ishr dX0_faultsBy_50 ?_
      refine aw_iconst (v := (1 : Int32)) dX0_faultsBy_51 rfl ?_
      refine aw_iand dX0_faultsBy_52 ?_
      refine aw_if_ne (tgt := 77) dX0_faultsBy_53 (by decide) (fun c0 => ?_) (fun c0 => ?_)
      · replace h := h.1 c0
        exact h
      · replace h := h.2 c0
        refine aw_iload dX0_faultsBy_56 rfl ?_
        refine aw_iconst (v := (1 : Int32)) dX0_faultsBy_58 rfl ?_
        refine aw_iload dX0_faultsBy_59 rfl ?_
        refine aw_ishl dX0_faultsBy_61 ?_
        refine aw_ior dX0_faultsBy_62 ?_
        refine aw_istore (ls' := [aR 0 0, aR 35 i1, aI x2, aI x3, aI x4, aI (x5 ||| ((1 : Int32) <<< (x7 &&& 31))), aI x6, aI x7]) dX0_faultsBy_63 (by decide) rfl rfl ?_
        refine aw_iinc (v := x6 + (1 : Int32)) (ls' := [aR 0 0, aR 35 i1, aI x2, aI x3, aI x4, aI (x5 ||| ((1 : Int32) <<< (x7 &&& 31))), aI (x6 + (1 : Int32)), aI x7]) dX0_faultsBy_65 rfl rfl (by decide) rfl rfl ?_
        refine aw_aload_n dX0_faultsBy_68 rfl ?_
        refine aw_iload dX0_faultsBy_69 rfl ?_
        refine aw_ia (j := tn x7) (y := μ1 35 i1 (tn x7)) dX0_faultsBy_71 rfl (fun _ => rfl) h.1 rfl (rfl) ?_
        replace h := h.2
        refine aw_istore (ls' := [aR 0 0, aR 35 i1, aI x2, aI x3, aI x4, aI (x5 ||| ((1 : Int32) <<< (x7 &&& 31))), aI (x6 + (1 : Int32)), aI (μ1 35 i1 (tn x7))]) dX0_faultsBy_72 (by decide) rfl rfl ?_
        refine aw_goto (tgt := 31) dX0_faultsBy_74 (by decide) ?_
        exact h
theorem u_X0_faultsBy_77 {Γ : cx_T} {μ : mH} {i1 : Nat} {x2 : Int32} {x3 : Int32} {x4 : Int32} {x5 : Int32} {x6 : Int32} {x7 : Int32} {Q : Int32 → mH → Prop} (h : vp_in x4 6 ∧ ((¬ x6 = (μ 38 0 (tn x4)) → ((¬ x7 = (24 : Int32) → (aw Γ M_X0_faultsBy 110 [aR 0 0, aR 35 i1, aX, aI x3, aI x4, aI x5, aX, aX] [aI (1 : Int32), aI (x2 + (1 : Int32))] μ (rI Q))) ∧ (x7 = (24 : Int32) → (aw Γ M_X0_faultsBy 110 [aR 0 0, aR 35 i1, aX, aI x3, aI x4, aI x5, aX, aX] [aI (0 : Int32), aI (x2 + (1 : Int32))] μ (rI Q))))) ∧ (x6 = (μ 38 0 (tn x4)) → ((¬ x7 = (24 : Int32) → (aw Γ M_X0_faultsBy 110 [aR 0 0, aR 35 i1, aX, aI x3, aI x4, aI x5, aX, aX] [aI (1 : Int32), aI (x2 + (0 : Int32))] μ (rI Q))) ∧ (x7 = (24 : Int32) → (aw Γ M_X0_faultsBy 110 [aR 0 0, aR 35 i1, aX, aI x3, aI x4, aI x5, aX, aX] [aI (0 : Int32), aI (x2 + (0 : Int32))] μ (rI Q))))))) : aw Γ M_X0_faultsBy 77 [aR 0 0, aR 35 i1, aI x2, aI x3, aI x4, aI x5, aI x6, aI x7] [] μ (rI Q) := by
  refine aw_iload_n dX0_faultsBy_77 rfl ?_
  refine aw_iload dX0_faultsBy_78 rfl ?_
  refine aw_aload_n dX0_faultsBy_80 rfl ?_
  refine aw_get dX0_faultsBy_81 rfl fk_RX0_30 (look_R rfl rfl : look _ 0 0 11 = aR 38 0) ?_
  refine aw_iload dX0_faultsBy_84 rfl ?_
  refine aw_ia (j := tn x4) (y := μ 38 0 (tn x4)) dX0_faultsBy_86 rfl (fun _ => rfl) h.1 rfl (rfl) ?_
  replace h := h.2
  refine aw_icmp_ne (tgt := 94) dX0_faultsBy_87 (by decide) (fun c0 => ?_) (fun c0 => ?_)
  · replace h := h.1 c0
    refine aw_iconst (v := (1 : Int32)) dX0_faultsBy_94 rfl ?_
    refine aw_iadd dX0_faultsBy_95 ?_
    refine aw_istore_n (ls' := [aR 0 0, aR 35 i1, aI (x2 + (1 : Int32)), aI x3, aI x4, aI x5, aI x6, aI x7]) dX0_faultsBy_96 (by decide) rfl rfl ?_
    refine aw_iload_n dX0_faultsBy_97 rfl ?_
    refine aw_iload dX0_faultsBy_98 rfl ?_
    refine aw_bipush (v := (24 : Int32)) dX0_faultsBy_100 rfl ?_
    refine aw_icmp_ne (tgt := 109) dX0_faultsBy_102 (by decide) (fun c0 => ?_) (fun c0 => ?_)
    · replace h := h.1 c0
      refine aw_iconst (v := (1 : Int32)) dX0_faultsBy_109 rfl ?_
      exact aw_wkk h (wk_e (wk_e (wk_x (wk_e (wk_e (wk_e (wk_x (wk_x wk_n))))))))
    · replace h := h.2 c0
      refine aw_iconst (v := (0 : Int32)) dX0_faultsBy_105 rfl ?_
      refine aw_goto (tgt := 110) dX0_faultsBy_106 (by decide) ?_
      exact aw_wkk h (wk_e (wk_e (wk_x (wk_e (wk_e (wk_e (wk_x (wk_x wk_n))))))))
  · replace h := h.2 c0
    refine aw_iconst (v := (0 : Int32)) dX0_faultsBy_90 rfl ?_
    refine aw_goto (tgt := 95) dX0_faultsBy_91 (by decide) ?_
    refine aw_iadd dX0_faultsBy_95 ?_
    refine aw_istore_n (ls' := [aR 0 0, aR 35 i1, aI (x2 + (0 : Int32)), aI x3, aI x4, aI x5, aI x6, aI x7]) dX0_faultsBy_96 (by decide) rfl rfl ?_
    refine aw_iload_n dX0_faultsBy_97 rfl ?_
    refine aw_iload dX0_faultsBy_98 rfl ?_
    refine aw_bipush (v := (24 : Int32)) dX0_faultsBy_100 rfl ?_
    refine aw_icmp_ne (tgt := 109) dX0_faultsBy_102 (by decide) (fun c0 => ?_) (fun c0 => ?_)
    · replace h := h.1 c0
      refine aw_iconst (v := (1 : Int32)) dX0_faultsBy_109 rfl ?_
      exact aw_wkk h (wk_e (wk_e (wk_x (wk_e (wk_e (wk_e (wk_x (wk_x wk_n))))))))
    · replace h := h.2 c0
      refine aw_iconst (v := (0 : Int32)) dX0_faultsBy_105 rfl ?_
      refine aw_goto (tgt := 110) dX0_faultsBy_106 (by decide) ?_
      exact aw_wkk h (wk_e (wk_e (wk_x (wk_e (wk_e (wk_e (wk_x (wk_x wk_n))))))))
theorem u_X0_faultsBy_110 {Γ : cx_T} {μ : mH} {i1 : Nat} {x3 : Int32} {x4 : Int32} {x5 : Int32} {y0 : Int32} {y1 : Int32} {Q : Int32 → mH → Prop} (h : cwi Γ M_J6_bitCount_0f7a4 [aI (x3 &&& x5)] μ (fun r2 μ1 => aw Γ M_X0_faultsBy 7 [aR 0 0, aR 35 i1, aI ((y1 + y0) + r2), aI (x3 ||| x5), aI (x4 + (1 : Int32)), aX, aX, aX] [] μ1 (rI Q))) : aw Γ M_X0_faultsBy 110 [aR 0 0, aR 35 i1, aX, aI x3, aI x4, aI x5, aX, aX] [aI y0, aI y1] μ (rI Q) := by
  refine aw_iadd dX0_faultsBy_110 ?_
  refine aw_istore_n (ls' := [aR 0 0, aR 35 i1, aI (y1 + y0), aI x3, aI x4, aI x5, aX, aX]) dX0_faultsBy_111 (by decide) rfl rfl ?_
  refine aw_iload_n dX0_faultsBy_112 rfl ?_
  refine aw_iload_n dX0_faultsBy_113 rfl ?_
  refine aw_iload dX0_faultsBy_114 rfl ?_
  refine aw_iand dX0_faultsBy_116 ?_
  refine aw_callS (M' := M_J6_bitCount_0f7a4) (vs := [aI (x3 &&& x5)]) (st := [aI (y1 + y0)]) dX0_faultsBy_117 mk_J6_bitCount_0f7a4 ms_J6_bitCount_0f7a4 ml_RX0_67 mp_J6_bitCount_0f7a4 rm_X0_faultsBy__J6_bitCount_0f7a4 (Nat.le_of_ble_eq_true rfl) rfl (cw_mono h ?_)
  clear h
  rintro _ μ1 ⟨r2, rfl, h⟩
  show aw Γ M_X0_faultsBy 120 [aR 0 0, aR 35 i1, aI (y1 + y0), aI x3, aI x4, aI x5, aX, aX] [aI r2, aI (y1 + y0)] μ1 (rI Q)
  refine aw_iadd dX0_faultsBy_120 ?_
  refine aw_istore_n (ls' := [aR 0 0, aR 35 i1, aI ((y1 + y0) + r2), aI x3, aI x4, aI x5, aX, aX]) dX0_faultsBy_121 (by decide) rfl rfl ?_
  refine aw_iload_n dX0_faultsBy_122 rfl ?_
  refine aw_iload dX0_faultsBy_123 rfl ?_
  refine aw_ior dX0_faultsBy_125 ?_
  refine aw_istore_n (ls' := [aR 0 0, aR 35 i1, aI ((y1 + y0) + r2), aI (x3 ||| x5), aI x4, aI x5, aX, aX]) dX0_faultsBy_126 (by decide) rfl rfl ?_
  refine aw_iinc (v := x4 + (1 : Int32)) (ls' := [aR 0 0, aR 35 i1, aI ((y1 + y0) + r2), aI (x3 ||| x5), aI (x4 + (1 : Int32)), aI x5, aX, aX]) dX0_faultsBy_127 rfl rfl (by decide) rfl rfl ?_
  refine aw_goto (tgt := 7) dX0_faultsBy_130 (by decide) ?_
  exact aw_wkk h (wk_e (wk_e (wk_e (wk_e (wk_e (wk_x (wk_e (wk_e wk_n))))))))
theorem u_X0_inFiles {Γ : cx_T} {μ : mH}  {Q : Int32 → mH → Prop} (h : cwq 35 Γ M_X0_rowOf [aR 0 0, aI (2 : Int32)] μ (fun o2 μ1 => (o2 = none → (Q (16777215 : Int32) μ1)) ∧ (∀ j3, o2 = some j3 → j3 < kn 35 → (aw Γ M_X0_inFiles 17 [aR 0 0, aR 35 j3, aI (0 : Int32), aI (0 : Int32), aX] [] μ1 (rI Q))))) : cwi Γ M_X0_inFiles [aR 0 0] μ Q := by
  refine cw_ofU (ls := [aR 0 0, aX, aX, aX, aX]) (Or.inl (by decide)) rfl (Nat.le_of_ble_eq_true rfl) rfl ?_
  refine aw_aload_n dX0_inFiles_0 rfl ?_
  refine aw_iconst (v := (2 : Int32)) dX0_inFiles_1 rfl ?_
  refine aw_callV (M' := M_X0_rowOf) (K := 0) (i := 0) (vs := [aI (2 : Int32)]) (st := []) dX0_inFiles_2 mk_X0_rowOf mi_X0_rowOf ml_RX0_77 mp_X0_rowOf rc_0 rm_X0_inFiles__X0_rowOf (Nat.le_of_ble_eq_true rfl) rfl (cw_mono h ?_)
  clear h
  rintro _ μ1 ⟨o2, rfl, h⟩
  show aw Γ M_X0_inFiles 5 [aR 0 0, aX, aX, aX, aX] [aQ 35 o2] μ1 (rI Q)
  refine aw_astore_nQ (K := 35) (o := o2) (ls' := [aR 0 0, aQ 35 o2, aX, aX, aX]) dX0_inFiles_5 (by decide) rfl rfl ?_
  refine aw_aload_nQ (K := 35) dX0_inFiles_6 rfl ?_
  refine aw_ifnonnull (tgt := 13) dX0_inFiles_7 (by decide) (fun j3 c0 c1 => ?_) (fun c0 => ?_)
  · replace h := h.2 j3 c0 c1
    subst c0
    refine aw_iconst (v := (0 : Int32)) dX0_inFiles_13 rfl ?_
    refine aw_istore_n (ls' := [aR 0 0, aR 35 j3, aI (0 : Int32), aX, aX]) dX0_inFiles_14 (by decide) rfl rfl ?_
    refine aw_iconst (v := (0 : Int32)) dX0_inFiles_15 rfl ?_
    refine aw_istore_n (ls' := [aR 0 0, aR 35 j3, aI (0 : Int32), aI (0 : Int32), aX]) dX0_inFiles_16 (by decide) rfl rfl ?_
    exact h
  · replace h := h.1 c0
    subst c0
    refine aw_ldc (v := (16777215 : Int32)) dX0_inFiles_10 kc_RX0_81 ?_
    exact aw_iret dX0_inFiles_12 rfl rfl ⟨_, rfl, h⟩
theorem u_X0_inFiles_17 {Γ : cx_T} {μ : mH} {i1 : Nat} {x2 : Int32} {x3 : Int32} {Q : Int32 → mH → Prop} (h : ((μ 0 0 0) ≤ x3 → (Q x2 μ)) ∧ (¬ (μ 0 0 0) ≤ x3 → (cwv Γ M_X0_walk [aR 0 0, aR 35 i1, aI x3] μ (fun μ1 => aw Γ M_X0_inFiles 34 [aR 0 0, aR 35 i1, aI x2, aI x3, aI (0 : Int32)] [] μ1 (rI Q))))) : aw Γ M_X0_inFiles 17 [aR 0 0, aR 35 i1, aI x2, aI x3, aX] [] μ (rI Q) := by
  refine aw_iload_n dX0_inFiles_17 rfl ?_
  refine aw_aload_n dX0_inFiles_18 rfl ?_
  refine aw_get dX0_inFiles_19 rfl fk_RX0_47 (look_I rfl : look μ 0 0 0 = aI (μ 0 0 0)) ?_
  refine aw_icmp_ge (tgt := 67) dX0_inFiles_22 (by decide) (fun c0 => ?_) (fun c0 => ?_)
  · replace h := h.1 c0
    refine aw_iload_n dX0_inFiles_67 rfl ?_
    exact aw_iret dX0_inFiles_68 rfl rfl ⟨_, rfl, h⟩
  · replace h := h.2 c0
    refine aw_aload_n dX0_inFiles_25 rfl ?_
    refine aw_aload_n dX0_inFiles_26 rfl ?_
    refine aw_iload_n dX0_inFiles_27 rfl ?_
    refine aw_callV (M' := M_X0_walk) (K := 0) (i := 0) (vs := [aR 35 i1, aI x3]) (st := []) dX0_inFiles_28 mk_X0_walk mi_X0_walk ml_RX0_82 mp_X0_walk rc_0 rm_X0_inFiles__X0_walk (Nat.le_of_ble_eq_true rfl) rfl (cw_mono h ?_)
    clear h
    intro _ μ1 h
    show aw Γ M_X0_inFiles 31 [aR 0 0, aR 35 i1, aI x2, aI x3, aX] [] μ1 (rI Q)
    refine aw_iconst (v := (0 : Int32)) dX0_inFiles_31 rfl ?_
    refine aw_istore (ls' := [aR 0 0, aR 35 i1, aI x2, aI x3, aI (0 : Int32)]) dX0_inFiles_32 (by decide) rfl rfl ?_
    exact h
theorem u_X0_inFiles_34 {Γ : cx_T} {μ : mH} {i1 : Nat} {x2 : Int32} {x3 : Int32} {x4 : Int32} {Q : Int32 → mH → Prop} (h : ((μ 0 0 1) ≤ x4 → (aw Γ M_X0_inFiles 17 [aR 0 0, aR 35 i1, aI x2, aI (x3 + (1 : Int32)), aX] [] μ (rI Q))) ∧ (¬ (μ 0 0 1) ≤ x4 → (vp_in x4 24 ∧ (aw Γ M_X0_inFiles 34 [aR 0 0, aR 35 i1, aI (x2 ||| ((1 : Int32) <<< (μ 34 0 (tn x4) &&& 31))), aI x3, aI (x4 + (1 : Int32))] [] μ (rI Q))))) : aw Γ M_X0_inFiles 34 [aR 0 0, aR 35 i1, aI x2, aI x3, aI x4] [] μ (rI Q) := by
  refine aw_iload dX0_inFiles_34 rfl ?_
  refine aw_aload_n dX0_inFiles_36 rfl ?_
  refine aw_get dX0_inFiles_37 rfl fk_RX0_61 (look_I rfl : look μ 0 0 1 = aI (μ 0 0 1)) ?_
  refine aw_icmp_ge (tgt := 61) dX0_inFiles_40 (by decide) (fun c0 => ?_) (fun c0 => ?_)
  · replace h := h.1 c0
    refine aw_iinc (v := x3 + (1 : Int32)) (ls' := [aR 0 0, aR 35 i1, aI x2, aI (x3 + (1 : Int32)), aI x4]) dX0_inFiles_61 rfl rfl (by decide) rfl rfl ?_
    refine aw_goto (tgt := 17) dX0_inFiles_64 (by decide) ?_
    exact aw_wkk h (wk_e (wk_e (wk_e (wk_e (wk_x wk_n)))))
  · replace h := h.2 c0
    refine aw_iload_n dX0_inFiles_43 rfl ?_
    refine aw_iconst (v := (1 : Int32)) dX0_inFiles_44 rfl ?_
    refine aw_aload_n dX0_inFiles_45 rfl ?_
    refine aw_get dX0_inFiles_46 rfl fk_RX0_9 (look_R rfl rfl : look _ 0 0 2 = aR 34 0) ?_
    refine aw_iload dX0_inFiles_49 rfl ?_
    refine aw_ia (j := tn x4) (y := μ 34 0 (tn x4)) dX0_inFiles_51 rfl (fun _ => rfl) h.1 rfl (rfl) ?_
    replace h := h.2
    refine aw_ishl dX0_inFiles_52 ?_
    refine aw_ior dX0_inFiles_53 ?_
    refine aw_istore_n (ls' := [aR 0 0, aR 35 i1, aI (x2 ||| ((1 : Int32) <<< (μ 34 0 (tn x4) &&& 31))), aI x3, aI x4]) dX0_inFiles_54 (by decide) rfl rfl ?_
    refine aw_iinc (v := x4 + (1 : Int32)) (ls' := [aR 0 0, aR 35 i1, aI (x2 ||| ((1 : Int32) <<< (μ 34 0 (tn x4) &&& 31))), aI x3, aI (x4 + (1 : Int32))]) dX0_inFiles_55 rfl rfl (by decide) rfl rfl ?_
    refine aw_goto (tgt := 34) dX0_inFiles_58 (by decide) ?_
    exact h
theorem u_X0_lostOnes {Γ : cx_T} {μ : mH} {r0 : Nat} {x1 : Int32} {Q : Int32 → mH → Prop} (h : aw Γ M_X0_lostOnes 4 [aR 35 r0, aI x1, aI (0 : Int32), aI (0 : Int32)] [] μ (rI Q)) : cwi Γ M_X0_lostOnes [aR 35 r0, aI x1] μ Q := by
  refine cw_ofU (ls := [aR 35 r0, aI x1, aX, aX]) (Or.inl (by decide)) rfl (Nat.le_of_ble_eq_true rfl) rfl ?_
  refine aw_iconst (v := (0 : Int32)) dX0_lostOnes_0 rfl ?_
  refine aw_istore_n (ls' := [aR 35 r0, aI x1, aI (0 : Int32), aX]) dX0_lostOnes_1 (by decide) rfl rfl ?_
  refine aw_iconst (v := (0 : Int32)) dX0_lostOnes_2 rfl ?_
  refine aw_istore_n (ls' := [aR 35 r0, aI x1, aI (0 : Int32), aI (0 : Int32)]) dX0_lostOnes_3 (by decide) rfl rfl ?_
  exact h
theorem u_X0_lostOnes_4 {Γ : cx_T} {μ : mH} {i0 : Nat} {x1 : Int32} {x2 : Int32} {x3 : Int32} {Q : Int32 → mH → Prop} (h : ((24 : Int32) ≤ x3 → (Q x2 μ)) ∧ (¬ (24 : Int32) ≤ x3 → ((¬ ((x1 >>> (x3 &&& 31)) &&& (1 : Int32)) = 0 → (aw Γ M_X0_lostOnes 4 [aR 35 i0, aI x1, aI x2, aI (x3 + (1 : Int32))] [] μ (rI Q))) ∧ (((x1 >>> (x3 &&& 31)) &&& (1 : Int32)) = 0 → (vp_in x3 24 ∧ (((μ 35 i0 (tn x3)) = (25 : Int32) → (aw Γ M_X0_lostOnes 4 [aR 35 i0, aI x1, aI x2, aI (x3 + (1 : Int32))] [] μ (rI Q))) ∧ (¬ (μ 35 i0 (tn x3)) = (25 : Int32) → (vp_in x3 24 ∧ (((μ 35 i0 (tn x3)) = (26 : Int32) → (aw Γ M_X0_lostOnes 4 [aR 35 i0, aI x1, aI x2, aI (x3 + (1 : Int32))] [] μ (rI Q))) ∧ (¬ (μ 35 i0 (tn x3)) = (26 : Int32) → (aw Γ M_X0_lostOnes 4 [aR 35 i0, aI x1, aI (x2 + (1 : Int32)), aI (x3 + (1 : Int32))] [] μ (rI Q)))))))))))) : aw Γ M_X0_lostOnes 4 [aR 35 i0, aI x1, aI x2, aI x3] [] μ (rI Q) := by
  refine aw_iload_n dX0_lostOnes_4 rfl ?_
  refine aw_bipush (v := (24 : Int32)) dX0_lostOnes_5 rfl ?_
  refine aw_icmp_ge (tgt := 43) dX0_lostOnes_7 (by decide) (fun c0 => ?_) (fun c0 => ?_)
  · replace h := h.1 c0
    refine aw_iload_n dX0_lostOnes_43 rfl ?_
    exact aw_iret dX0_lostOnes_44 rfl rfl ⟨_, rfl, h⟩
  · replace h := h.2 c0
    refine aw_iload_n dX0_lostOnes_10 rfl ?_
    refine aw_iload_n dX0_lostOnes_11 rfl ?_
    refine aw_ishr dX0_lostOnes_12 ?_
    refine aw_iconst (v := (1 : Int32)) dX0_lostOnes_13 rfl ?_
    refine aw_iand dX0_lostOnes_14 ?_
    refine aw_if_ne (tgt := 37) dX0_lostOnes_15 (by decide) (fun c0 => ?_) (fun c0 => ?_)
    · replace h := h.1 c0
      refine aw_iinc (v := x3 + (1 : Int32)) (ls' := [aR 35 i0, aI x1, aI x2, aI (x3 + (1 : Int32))]) dX0_lostOnes_37 rfl rfl (by decide) rfl rfl ?_
      refine aw_goto (tgt := 4) dX0_lostOnes_40 (by decide) ?_
      exact h
    · replace h := h.2 c0
      refine aw_aload_n dX0_lostOnes_18 rfl ?_
      refine aw_iload_n dX0_lostOnes_19 rfl ?_
      refine aw_ia (j := tn x3) (y := μ 35 i0 (tn x3)) dX0_lostOnes_20 rfl (fun _ => rfl) h.1 rfl (rfl) ?_
      replace h := h.2
      refine aw_bipush (v := (25 : Int32)) dX0_lostOnes_21 rfl ?_
      refine aw_icmp_eq (tgt := 37) dX0_lostOnes_23 (by decide) (fun c0 => ?_) (fun c0 => ?_)
      · replace h := h.1 c0
        refine aw_iinc (v := x3 + (1 : Int32)) (ls' := [aR 35 i0, aI x1, aI x2, aI (x3 + (1 : Int32))]) dX0_lostOnes_37 rfl rfl (by decide) rfl rfl ?_
        refine aw_goto (tgt := 4) dX0_lostOnes_40 (by decide) ?_
        exact h
      · replace h := h.2 c0
        refine aw_aload_n dX0_lostOnes_26 rfl ?_
        refine aw_iload_n dX0_lostOnes_27 rfl ?_
        refine aw_ia (j := tn x3) (y := μ 35 i0 (tn x3)) dX0_lostOnes_28 rfl (fun _ => rfl) h.1 rfl (rfl) ?_
        replace h := h.2
        refine aw_bipush (v := (26 : Int32)) dX0_lostOnes_29 rfl ?_
        refine aw_icmp_eq (tgt := 37) dX0_lostOnes_31 (by decide) (fun c0 => ?_) (fun c0 => ?_)
        · replace h := h.1 c0
          refine aw_iinc (v := x3 + (1 : Int32)) (ls' := [aR 35 i0, aI x1, aI x2, aI (x3 + (1 : Int32))]) dX0_lostOnes_37 rfl rfl (by decide) rfl rfl ?_
          refine aw_goto (tgt := 4) dX0_lostOnes_40 (by decide) ?_
          exact h
        · replace h := h.2 c0
          refine aw_iinc (v := x2 + (1 : Int32)) (ls' := [aR 35 i0, aI x1, aI (x2 + (1 : Int32)), aI x3]) dX0_lostOnes_34 rfl rfl (by decide) rfl rfl ?_
          refine aw_iinc (v := x3 + (1 : Int32)) (ls' := [aR 35 i0, aI x1, aI (x2 + (1 : Int32)), aI (x3 + (1 : Int32))]) dX0_lostOnes_37 rfl rfl (by decide) rfl rfl ?_
          refine aw_goto (tgt := 4) dX0_lostOnes_40 (by decide) ?_
          exact h
theorem u_X0_findUnlike {Γ : cx_T} {μ : mH}  {Q : Int32 → mH → Prop} (h : aw Γ M_X0_findUnlike 7 [aR 0 0, aI (0 : Int32)] [] (sto μ 0 0 7 (0 : Int32)) (rI Q)) : cwi Γ M_X0_findUnlike [aR 0 0] μ Q := by
  refine cw_ofU (ls := [aR 0 0, aX]) (Or.inl (by decide)) rfl (Nat.le_of_ble_eq_true rfl) rfl ?_
  refine aw_aload_n dX0_findUnlike_0 rfl ?_
  refine aw_iconst (v := (0 : Int32)) dX0_findUnlike_1 rfl ?_
  refine aw_putI dX0_findUnlike_2 rfl fk_RX0_85 (fun r h => by cases h; rfl) rfl rfl ?_
  refine aw_iconst (v := (0 : Int32)) dX0_findUnlike_5 rfl ?_
  refine aw_istore_n (ls' := [aR 0 0, aI (0 : Int32)]) dX0_findUnlike_6 (by decide) rfl rfl ?_
  exact h
theorem u_X0_findUnlike_7 {Γ : cx_T} {μ : mH} {x1 : Int32} {Q : Int32 → mH → Prop} (h : ((24 : Int32) ≤ x1 → (Q (1 : Int32) μ)) ∧ (¬ (24 : Int32) ≤ x1 → (vp_in x1 24 ∧ (vp_in x1 24 ∧ (((μ 35 0 (tn x1)) = (μ 35 1 (tn x1)) → (aw Γ M_X0_findUnlike 7 [aR 0 0, aI (x1 + (1 : Int32))] [] μ (rI Q))) ∧ (¬ (μ 35 0 (tn x1)) = (μ 35 1 (tn x1)) → (((μ 0 0 7) < (12 : Int32) → (vp_in (μ 0 0 7) 12 ∧ (aw Γ M_X0_findUnlike 7 [aR 0 0, aI (x1 + (1 : Int32))] [] (sto (sto μ 36 0 (tn (μ 0 0 7)) x1) 0 0 7 ((μ 0 0 7) + (1 : Int32))) (rI Q)))) ∧ (¬ (μ 0 0 7) < (12 : Int32) → (Q (0 : Int32) μ))))))))) : aw Γ M_X0_findUnlike 7 [aR 0 0, aI x1] [] μ (rI Q) := by
  refine aw_iload_n dX0_findUnlike_7 rfl ?_
  refine aw_bipush (v := (24 : Int32)) dX0_findUnlike_8 rfl ?_
  refine aw_icmp_ge (tgt := 65) dX0_findUnlike_10 (by decide) (fun c0 => ?_) (fun c0 => ?_)
  · replace h := h.1 c0
    refine aw_iconst (v := (1 : Int32)) dX0_findUnlike_65 rfl ?_
    exact aw_iret (ty := .boolean) dX0_findUnlike_66 rfl (by decide) ⟨_, rfl, h⟩
  · replace h := h.2 c0
    refine aw_aload_n dX0_findUnlike_13 rfl ?_
    refine aw_get dX0_findUnlike_14 rfl fk_RX0_15 (look_R rfl rfl : look _ 0 0 3 = aR 35 0) ?_
    refine aw_iload_n dX0_findUnlike_17 rfl ?_
    refine aw_ia (j := tn x1) (y := μ 35 0 (tn x1)) dX0_findUnlike_18 rfl (fun _ => rfl) h.1 rfl (rfl) ?_
    replace h := h.2
    refine aw_aload_n dX0_findUnlike_19 rfl ?_
    refine aw_get dX0_findUnlike_20 rfl fk_RX0_18 (look_R rfl rfl : look _ 0 0 4 = aR 35 1) ?_
    refine aw_iload_n dX0_findUnlike_23 rfl ?_
    refine aw_ia (j := tn x1) (y := μ 35 1 (tn x1)) dX0_findUnlike_24 rfl (fun _ => rfl) h.1 rfl (rfl) ?_
    replace h := h.2
    refine aw_icmp_eq (tgt := 59) dX0_findUnlike_25 (by decide) (fun c0 => ?_) (fun c0 => ?_)
    · replace h := h.1 c0
      refine aw_iinc (v := x1 + (1 : Int32)) (ls' := [aR 0 0, aI (x1 + (1 : Int32))]) dX0_findUnlike_59 rfl rfl (by decide) rfl rfl ?_
      refine aw_goto (tgt := 7) dX0_findUnlike_62 (by decide) ?_
      exact h
    · replace h := h.2 c0
      refine aw_aload_n dX0_findUnlike_28 rfl ?_
      refine aw_get dX0_findUnlike_29 rfl fk_RX0_85 (look_I rfl : look μ 0 0 7 = aI (μ 0 0 7)) ?_
      refine aw_bipush (v := (12 : Int32)) dX0_findUnlike_32 rfl ?_
      refine aw_icmp_lt (tgt := 39) dX0_findUnlike_34 (by decide) (fun c0 => ?_) (fun c0 => ?_)
      · replace h := h.1 c0
        refine aw_aload_n dX0_findUnlike_39 rfl ?_
        refine aw_get dX0_findUnlike_40 rfl fk_RX0_24 (look_R rfl rfl : look _ 0 0 6 = aR 36 0) ?_
        refine aw_aload_n dX0_findUnlike_43 rfl ?_
        refine aw_get dX0_findUnlike_44 rfl fk_RX0_85 (look_I rfl : look μ 0 0 7 = aI (μ 0 0 7)) ?_
        refine aw_iload_n dX0_findUnlike_47 rfl ?_
        refine aw_is (j := tn (μ 0 0 7)) dX0_findUnlike_48 rfl (fun _ => rfl) h.1 rfl ?_
        replace h := h.2
        refine aw_aload_n dX0_findUnlike_49 rfl ?_
        refine aw_dup dX0_findUnlike_50 (fun _ => rfl) ?_
        refine aw_get dX0_findUnlike_51 rfl fk_RX0_85 ((look_I rfl).trans (congrArg aI ((sto_K (by decide)).trans (rfl))) : look (sto μ 36 0 (tn (μ 0 0 7)) x1) 0 0 7 = aI (μ 0 0 7)) ?_
        refine aw_iconst (v := (1 : Int32)) dX0_findUnlike_54 rfl ?_
        refine aw_iadd dX0_findUnlike_55 ?_
        refine aw_putI dX0_findUnlike_56 rfl fk_RX0_85 (fun r h => by cases h; rfl) rfl rfl ?_
        refine aw_iinc (v := x1 + (1 : Int32)) (ls' := [aR 0 0, aI (x1 + (1 : Int32))]) dX0_findUnlike_59 rfl rfl (by decide) rfl rfl ?_
        refine aw_goto (tgt := 7) dX0_findUnlike_62 (by decide) ?_
        exact h
      · replace h := h.2 c0
        refine aw_iconst (v := (0 : Int32)) dX0_findUnlike_37 rfl ?_
        exact aw_iret (ty := .boolean) dX0_findUnlike_38 rfl (by decide) ⟨_, rfl, h⟩
theorem u_X0_join {Γ : cx_T} {μ : mH}  {Q : mH → Prop} (h : cwi Γ M_X0_faultsBy [aR 0 0, aR 35 2] (cpy μ 35 0 35 2 0 0 24) (fun r2 μ1 => aw Γ M_X0_join 28 [aR 0 0, aI (0 : Int32), aI r2, aI (1 : Int32), aX, aX] [] μ1 (rV Q))) : cwv Γ M_X0_join [aR 0 0] μ Q := by
  refine cw_ofU (ls := [aR 0 0, aX, aX, aX, aX, aX]) (Or.inl (by decide)) rfl (Nat.le_of_ble_eq_true rfl) rfl ?_
  refine aw_aload_n dX0_join_0 rfl ?_
  refine aw_get dX0_join_1 rfl fk_RX0_15 (look_R rfl rfl : look _ 0 0 3 = aR 35 0) ?_
  refine aw_iconst (v := (0 : Int32)) dX0_join_4 rfl ?_
  refine aw_aload_n dX0_join_5 rfl ?_
  refine aw_get dX0_join_6 rfl fk_RX0_21 (look_R rfl rfl : look _ 0 0 5 = aR 35 2) ?_
  refine aw_iconst (v := (0 : Int32)) dX0_join_9 rfl ?_
  refine aw_bipush (v := (24 : Int32)) dX0_join_10 rfl ?_
  refine aw_copy0 dX0_join_12 ml_RX0_88 rfl rfl (fun _ => rfl) (fun _ => rfl) (by decide) (by decide) (by decide) (by decide) (by decide) ?_
  refine aw_iconst (v := (0 : Int32)) dX0_join_15 rfl ?_
  refine aw_istore_n (ls' := [aR 0 0, aI (0 : Int32), aX, aX, aX, aX]) dX0_join_16 (by decide) rfl rfl ?_
  refine aw_aload_n dX0_join_17 rfl ?_
  refine aw_aload_n dX0_join_18 rfl ?_
  refine aw_get dX0_join_19 rfl fk_RX0_21 (look_R rfl rfl : look _ 0 0 5 = aR 35 2) ?_
  refine aw_callV (M' := M_X0_faultsBy) (K := 0) (i := 0) (vs := [aR 35 2]) (st := []) dX0_join_22 mk_X0_faultsBy mi_X0_faultsBy ml_RX0_94 mp_X0_faultsBy rc_0 rm_X0_join__X0_faultsBy (Nat.le_of_ble_eq_true rfl) rfl (cw_mono h ?_)
  clear h
  rintro _ μ1 ⟨r2, rfl, h⟩
  show aw Γ M_X0_join 25 [aR 0 0, aI (0 : Int32), aX, aX, aX, aX] [aI r2] μ1 (rV Q)
  refine aw_istore_n (ls' := [aR 0 0, aI (0 : Int32), aI r2, aX, aX, aX]) dX0_join_25 (by decide) rfl rfl ?_
  refine aw_iconst (v := (1 : Int32)) dX0_join_26 rfl ?_
  refine aw_istore_n (ls' := [aR 0 0, aI (0 : Int32), aI r2, aI (1 : Int32), aX, aX]) dX0_join_27 (by decide) rfl rfl ?_
  exact h
theorem u_X0_join_28 {Γ : cx_T} {μ : mH} {x1 : Int32} {x2 : Int32} {x3 : Int32} {Q : mH → Prop} (h : (((1 : Int32) <<< (μ 0 0 7 &&& 31)) ≤ x3 → (cwv Γ M_X0_choose [aR 0 0, aI x1, aI (-1 : Int32)] μ (fun μ1 => Q μ1))) ∧ (¬ ((1 : Int32) <<< (μ 0 0 7 &&& 31)) ≤ x3 → (cwv Γ M_X0_choose [aR 0 0, aI x3, aI (x3 ^^^ (x3 - (1 : Int32)))] μ (fun μ2 => cwi Γ M_X0_faultsBy [aR 0 0, aR 35 2] μ2 (fun r4 μ3 => cwi Γ M_J6_bitCount_0f7a4 [aI x3] μ3 (fun r6 μ5 => cwi Γ M_J6_bitCount_0f7a4 [aI x1] μ5 (fun r8 μ7 => (r8 ≤ r6 → (aw Γ M_X0_join 74 [aR 0 0, aI x1, aI x2, aI x3, aI r4, aX] [aI (0 : Int32)] μ7 (rV Q))) ∧ (¬ r8 ≤ r6 → (aw Γ M_X0_join 74 [aR 0 0, aI x1, aI x2, aI x3, aI r4, aX] [aI (1 : Int32)] μ7 (rV Q)))))))))) : aw Γ M_X0_join 28 [aR 0 0, aI x1, aI x2, aI x3, aX, aX] [] μ (rV Q) := by
  refine aw_iload_n dX0_join_28 rfl ?_
  refine aw_iconst (v := (1 : Int32)) dX0_join_29 rfl ?_
  refine aw_aload_n dX0_join_30 rfl ?_
  refine aw_get dX0_join_31 rfl fk_RX0_85 (look_I rfl : look μ 0 0 7 = aI (μ 0 0 7)) ?_
  refine aw_ishl dX0_join_34 ?_
  refine aw_icmp_ge (tgt := 104) dX0_join_35 (by decide) (fun c0 => ?_) (fun c0 => ?_)
  · replace h := h.1 c0
    refine aw_aload_n dX0_join_104 rfl ?_
    refine aw_iload_n dX0_join_105 rfl ?_
    refine aw_iconst (v := (-1 : Int32)) dX0_join_106 rfl ?_
    refine aw_callV (M' := M_X0_choose) (K := 0) (i := 0) (vs := [aI x1, aI (-1 : Int32)]) (st := []) dX0_join_107 mk_X0_choose mi_X0_choose ml_RX0_98 mp_X0_choose rc_0 rm_X0_join__X0_choose (Nat.le_of_ble_eq_true rfl) rfl (cw_mono h ?_)
    clear h
    intro _ μ1 h
    show aw Γ M_X0_join 110 [aR 0 0, aI x1, aI x2, aI x3, aX, aX] [] μ1 (rV Q)
    exact aw_vret dX0_join_110 rfl h
  · replace h := h.2 c0
    refine aw_aload_n dX0_join_38 rfl ?_
    refine aw_iload_n dX0_join_39 rfl ?_
    refine aw_iload_n dX0_join_40 rfl ?_
    refine aw_iload_n dX0_join_41 rfl ?_
    refine aw_iconst (v := (1 : Int32)) dX0_join_42 rfl ?_
    refine aw_isub dX0_join_43 ?_
    refine aw_ixor dX0_join_44 ?_
    refine aw_callV (M' := M_X0_choose) (K := 0) (i := 0) (vs := [aI x3, aI (x3 ^^^ (x3 - (1 : Int32)))]) (st := []) dX0_join_45 mk_X0_choose mi_X0_choose ml_RX0_98 mp_X0_choose rc_0 rm_X0_join__X0_choose (Nat.le_of_ble_eq_true rfl) rfl (cw_mono h ?_)
    clear h
    intro _ μ2 h
    show aw Γ M_X0_join 48 [aR 0 0, aI x1, aI x2, aI x3, aX, aX] [] μ2 (rV Q)
    refine aw_aload_n dX0_join_48 rfl ?_
    refine aw_aload_n dX0_join_49 rfl ?_
    refine aw_get dX0_join_50 rfl fk_RX0_21 (look_R rfl rfl : look _ 0 0 5 = aR 35 2) ?_
    refine aw_callV (M' := M_X0_faultsBy) (K := 0) (i := 0) (vs := [aR 35 2]) (st := []) dX0_join_53 mk_X0_faultsBy mi_X0_faultsBy ml_RX0_94 mp_X0_faultsBy rc_0 rm_X0_join__X0_faultsBy (Nat.le_of_ble_eq_true rfl) rfl (cw_mono h ?_)
    clear h
    rintro _ μ3 ⟨r4, rfl, h⟩
    show aw Γ M_X0_join 56 [aR 0 0, aI x1, aI x2, aI x3, aX, aX] [aI r4] μ3 (rV Q)
    refine aw_istore (ls' := [aR 0 0, aI x1, aI x2, aI x3, aI r4, aX]) dX0_join_56 (by decide) rfl rfl ?_
    refine aw_iload_n dX0_join_58 rfl ?_
    refine aw_callS (M' := M_J6_bitCount_0f7a4) (vs := [aI x3]) (st := []) dX0_join_59 mk_J6_bitCount_0f7a4 ms_J6_bitCount_0f7a4 ml_RX0_67 mp_J6_bitCount_0f7a4 rm_X0_join__J6_bitCount_0f7a4 (Nat.le_of_ble_eq_true rfl) rfl (cw_mono h ?_)
    clear h
    rintro _ μ5 ⟨r6, rfl, h⟩
    show aw Γ M_X0_join 62 [aR 0 0, aI x1, aI x2, aI x3, aI r4, aX] [aI r6] μ5 (rV Q)
    refine aw_iload_n dX0_join_62 rfl ?_
    refine aw_callS (M' := M_J6_bitCount_0f7a4) (vs := [aI x1]) (st := [aI r6]) dX0_join_63 mk_J6_bitCount_0f7a4 ms_J6_bitCount_0f7a4 ml_RX0_67 mp_J6_bitCount_0f7a4 rm_X0_join__J6_bitCount_0f7a4 (Nat.le_of_ble_eq_true rfl) rfl (cw_mono h ?_)
    clear h
    rintro _ μ7 ⟨r8, rfl, h⟩
    show aw Γ M_X0_join 66 [aR 0 0, aI x1, aI x2, aI x3, aI r4, aX] [aI r8, aI r6] μ7 (rV Q)
    refine aw_icmp_ge (tgt := 73) dX0_join_66 (by decide) (fun c0 => ?_) (fun c0 => ?_)
    · replace h := h.1 c0
      refine aw_iconst (v := (0 : Int32)) dX0_join_73 rfl ?_
      exact h
    · replace h := h.2 c0
      refine aw_iconst (v := (1 : Int32)) dX0_join_69 rfl ?_
      refine aw_goto (tgt := 74) dX0_join_70 (by decide) ?_
      exact h
theorem u_X0_join_74 {Γ : cx_T} {μ : mH} {x1 : Int32} {x2 : Int32} {x3 : Int32} {x4 : Int32} {y0 : Int32} {Q : mH → Prop} (h : (x4 < x2 → (aw Γ M_X0_join 28 [aR 0 0, aI x3, aI x4, aI (x3 + (1 : Int32)), aX, aX] [] μ (rV Q))) ∧ (¬ x4 < x2 → ((¬ x4 = x2 → (aw Γ M_X0_join 28 [aR 0 0, aI x1, aI x2, aI (x3 + (1 : Int32)), aX, aX] [] μ (rV Q))) ∧ (x4 = x2 → ((y0 = 0 → (aw Γ M_X0_join 28 [aR 0 0, aI x1, aI x2, aI (x3 + (1 : Int32)), aX, aX] [] μ (rV Q))) ∧ (¬ y0 = 0 → (aw Γ M_X0_join 28 [aR 0 0, aI x3, aI x4, aI (x3 + (1 : Int32)), aX, aX] [] μ (rV Q)))))))) : aw Γ M_X0_join 74 [aR 0 0, aI x1, aI x2, aI x3, aI x4, aX] [aI y0] μ (rV Q) := by
  refine aw_istore (ls' := [aR 0 0, aI x1, aI x2, aI x3, aI x4, aI y0]) dX0_join_74 (by decide) rfl rfl ?_
  refine aw_iload dX0_join_76 rfl ?_
  refine aw_iload_n dX0_join_78 rfl ?_
  refine aw_icmp_lt (tgt := 93) dX0_join_79 (by decide) (fun c0 => ?_) (fun c0 => ?_)
  · replace h := h.1 c0
    refine aw_iload_n dX0_join_93 rfl ?_
    refine aw_istore_n (ls' := [aR 0 0, aI x3, aI x2, aI x3, aI x4, aI y0]) dX0_join_94 (by decide) rfl rfl ?_
    refine aw_iload dX0_join_95 rfl ?_
    refine aw_istore_n (ls' := [aR 0 0, aI x3, aI x4, aI x3, aI x4, aI y0]) dX0_join_97 (by decide) rfl rfl ?_
    refine aw_iinc (v := x3 + (1 : Int32)) (ls' := [aR 0 0, aI x3, aI x4, aI (x3 + (1 : Int32)), aI x4, aI y0]) dX0_join_98 rfl rfl (by decide) rfl rfl ?_
    refine aw_goto (tgt := 28) dX0_join_101 (by decide) ?_
    exact aw_wkk h (wk_e (wk_e (wk_e (wk_e (wk_x (wk_x wk_n))))))
  · replace h := h.2 c0
    refine aw_iload dX0_join_82 rfl ?_
    refine aw_iload_n dX0_join_84 rfl ?_
    refine aw_icmp_ne (tgt := 98) dX0_join_85 (by decide) (fun c0 => ?_) (fun c0 => ?_)
    · replace h := h.1 c0
      refine aw_iinc (v := x3 + (1 : Int32)) (ls' := [aR 0 0, aI x1, aI x2, aI (x3 + (1 : Int32)), aI x4, aI y0]) dX0_join_98 rfl rfl (by decide) rfl rfl ?_
      refine aw_goto (tgt := 28) dX0_join_101 (by decide) ?_
      exact aw_wkk h (wk_e (wk_e (wk_e (wk_e (wk_x (wk_x wk_n))))))
    · replace h := h.2 c0
      refine aw_iload dX0_join_88 rfl ?_
      refine aw_if_eq (tgt := 98) dX0_join_90 (by decide) (fun c0 => ?_) (fun c0 => ?_)
      · replace h := h.1 c0
        refine aw_iinc (v := x3 + (1 : Int32)) (ls' := [aR 0 0, aI x1, aI x2, aI (x3 + (1 : Int32)), aI x4, aI y0]) dX0_join_98 rfl rfl (by decide) rfl rfl ?_
        refine aw_goto (tgt := 28) dX0_join_101 (by decide) ?_
        exact aw_wkk h (wk_e (wk_e (wk_e (wk_e (wk_x (wk_x wk_n))))))
      · replace h := h.2 c0
        refine aw_iload_n dX0_join_93 rfl ?_
        refine aw_istore_n (ls' := [aR 0 0, aI x3, aI x2, aI x3, aI x4, aI y0]) dX0_join_94 (by decide) rfl rfl ?_
        refine aw_iload dX0_join_95 rfl ?_
        refine aw_istore_n (ls' := [aR 0 0, aI x3, aI x4, aI x3, aI x4, aI y0]) dX0_join_97 (by decide) rfl rfl ?_
        refine aw_iinc (v := x3 + (1 : Int32)) (ls' := [aR 0 0, aI x3, aI x4, aI (x3 + (1 : Int32)), aI x4, aI y0]) dX0_join_98 rfl rfl (by decide) rfl rfl ?_
        refine aw_goto (tgt := 28) dX0_join_101 (by decide) ?_
        exact aw_wkk h (wk_e (wk_e (wk_e (wk_e (wk_x (wk_x wk_n))))))
theorem u_X0_choose {Γ : cx_T} {μ : mH} {x1 : Int32} {x2 : Int32} {Q : mH → Prop} (h : aw Γ M_X0_choose 2 [aR 0 0, aI x1, aI x2, aI (0 : Int32), aX] [] μ (rV Q)) : cwv Γ M_X0_choose [aR 0 0, aI x1, aI x2] μ Q := by
  refine cw_ofU (ls := [aR 0 0, aI x1, aI x2, aX, aX]) (Or.inl (by decide)) rfl (Nat.le_of_ble_eq_true rfl) rfl ?_
  refine aw_iconst (v := (0 : Int32)) dX0_choose_0 rfl ?_
  refine aw_istore_n (ls' := [aR 0 0, aI x1, aI x2, aI (0 : Int32), aX]) dX0_choose_1 (by decide) rfl rfl ?_
  exact h
theorem u_X0_choose_2 {Γ : cx_T} {μ : mH} {x1 : Int32} {x2 : Int32} {x3 : Int32} {Q : mH → Prop} (h : ((μ 0 0 7) ≤ x3 → (Q μ)) ∧ (¬ (μ 0 0 7) ≤ x3 → (((x2 >>> (x3 &&& 31)) = 0 → (Q μ)) ∧ (¬ (x2 >>> (x3 &&& 31)) = 0 → (vp_in x3 12 ∧ ((((x1 >>> (x3 &&& 31)) &&& (1 : Int32)) = 0 → (vp_in (μ 36 0 (tn x3)) 24 ∧ (vp_in (μ 36 0 (tn x3)) 24 ∧ (aw Γ M_X0_choose 2 [aR 0 0, aI x1, aI x2, aI (x3 + (1 : Int32)), aX] [] (sto μ 35 2 (tn (μ 36 0 (tn x3))) (μ 35 0 (tn (μ 36 0 (tn x3))))) (rV Q))))) ∧ (¬ ((x1 >>> (x3 &&& 31)) &&& (1 : Int32)) = 0 → (vp_in (μ 36 0 (tn x3)) 24 ∧ (vp_in (μ 36 0 (tn x3)) 24 ∧ (aw Γ M_X0_choose 2 [aR 0 0, aI x1, aI x2, aI (x3 + (1 : Int32)), aX] [] (sto μ 35 2 (tn (μ 36 0 (tn x3))) (μ 35 1 (tn (μ 36 0 (tn x3))))) (rV Q))))))))))) : aw Γ M_X0_choose 2 [aR 0 0, aI x1, aI x2, aI x3, aX] [] μ (rV Q) := by
  refine aw_iload_n dX0_choose_2 rfl ?_
  refine aw_aload_n dX0_choose_3 rfl ?_
  refine aw_get dX0_choose_4 rfl fk_RX0_85 (look_I rfl : look μ 0 0 7 = aI (μ 0 0 7)) ?_
  refine aw_icmp_ge (tgt := 62) dX0_choose_7 (by decide) (fun c0 => ?_) (fun c0 => ?_)
  · replace h := h.1 c0
    exact aw_vret dX0_choose_62 rfl h
  · replace h := h.2 c0
    refine aw_iload_n dX0_choose_10 rfl ?_
    refine aw_iload_n dX0_choose_11 rfl ?_
    refine aw_ishr dX0_choose_12 ?_
    refine aw_if_eq (tgt := 62) dX0_choose_13 (by decide) (fun c0 => ?_) (fun c0 => ?_)
    · replace h := h.1 c0
      exact aw_vret dX0_choose_62 rfl h
    · replace h := h.2 c0
      refine aw_aload_n dX0_choose_16 rfl ?_
      refine aw_get dX0_choose_17 rfl fk_RX0_24 (look_R rfl rfl : look _ 0 0 6 = aR 36 0) ?_
      refine aw_iload_n dX0_choose_20 rfl ?_
      refine aw_ia (j := tn x3) (y := μ 36 0 (tn x3)) dX0_choose_21 rfl (fun _ => rfl) h.1 rfl (rfl) ?_
      replace h := h.2
      refine aw_istore (ls' := [aR 0 0, aI x1, aI x2, aI x3, aI (μ 36 0 (tn x3))]) dX0_choose_22 (by decide) rfl rfl ?_
      refine aw_aload_n dX0_choose_24 rfl ?_
      refine aw_get dX0_choose_25 rfl fk_RX0_21 (look_R rfl rfl : look _ 0 0 5 = aR 35 2) ?_
      refine aw_iload dX0_choose_28 rfl ?_
      refine aw_iload_n dX0_choose_30 rfl ?_
      refine aw_iload_n dX0_choose_31 rfl ?_
      refine aw_ishr dX0_choose_32 ?_
      refine aw_iconst (v := (1 : Int32)) dX0_choose_33 rfl ?_
      refine aw_iand dX0_choose_34 ?_
      refine aw_if_eq (tgt := 48) dX0_choose_35 (by decide) (fun c0 => ?_) (fun c0 => ?_)
      · replace h := h.1 c0
        refine aw_aload_n dX0_choose_48 rfl ?_
        refine aw_get dX0_choose_49 rfl fk_RX0_15 (look_R rfl rfl : look _ 0 0 3 = aR 35 0) ?_
        refine aw_iload dX0_choose_52 rfl ?_
        refine aw_ia (j := tn (μ 36 0 (tn x3))) (y := μ 35 0 (tn (μ 36 0 (tn x3)))) dX0_choose_54 rfl (fun _ => rfl) h.1 rfl (rfl) ?_
        replace h := h.2
        refine aw_is (j := tn (μ 36 0 (tn x3))) dX0_choose_55 rfl (fun _ => rfl) h.1 rfl ?_
        replace h := h.2
        refine aw_iinc (v := x3 + (1 : Int32)) (ls' := [aR 0 0, aI x1, aI x2, aI (x3 + (1 : Int32)), aI (μ 36 0 (tn x3))]) dX0_choose_56 rfl rfl (by decide) rfl rfl ?_
        refine aw_goto (tgt := 2) dX0_choose_59 (by decide) ?_
        exact aw_wkk h (wk_e (wk_e (wk_e (wk_e (wk_x wk_n)))))
      · replace h := h.2 c0
        refine aw_aload_n dX0_choose_38 rfl ?_
        refine aw_get dX0_choose_39 rfl fk_RX0_18 (look_R rfl rfl : look _ 0 0 4 = aR 35 1) ?_
        refine aw_iload dX0_choose_42 rfl ?_
        refine aw_ia (j := tn (μ 36 0 (tn x3))) (y := μ 35 1 (tn (μ 36 0 (tn x3)))) dX0_choose_44 rfl (fun _ => rfl) h.1 rfl (rfl) ?_
        replace h := h.2
        refine aw_goto (tgt := 55) dX0_choose_45 (by decide) ?_
        refine aw_is (j := tn (μ 36 0 (tn x3))) dX0_choose_55 rfl (fun _ => rfl) h.1 rfl ?_
        replace h := h.2
        refine aw_iinc (v := x3 + (1 : Int32)) (ls' := [aR 0 0, aI x1, aI x2, aI (x3 + (1 : Int32)), aI (μ 36 0 (tn x3))]) dX0_choose_56 rfl rfl (by decide) rfl rfl ?_
        refine aw_goto (tgt := 2) dX0_choose_59 (by decide) ?_
        exact aw_wkk h (wk_e (wk_e (wk_e (wk_e (wk_x wk_n)))))
