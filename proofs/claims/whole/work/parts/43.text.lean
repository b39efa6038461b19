theorem u_X2_push {Γ : cx_T} {μ : mH} {x1 : Int32} {Q : mH → Prop} (h : aw Γ M_X2_push 2 [aR 2 0, aI x1, aI (0 : Int32)] [] μ (rV Q)) : cwv Γ M_X2_push [aR 2 0, aI x1] μ Q := by
  refine cw_ofU (ls := [aR 2 0, aI x1, aX]) (Or.inl (by decide)) rfl (Nat.le_of_ble_eq_true rfl) rfl ?_
  refine aw_iconst (v := (0 : Int32)) dX2_push_0 rfl ?_
  refine aw_istore_n (ls' := [aR 2 0, aI x1, aI (0 : Int32)]) dX2_push_1 (by decide) rfl rfl ?_
  exact h
theorem u_X2_push_2 {Γ : cx_T} {μ : mH} {x1 : Int32} {x2 : Int32} {Q : mH → Prop} (h : ((4 : Int32) ≤ x2 → (Q μ)) ∧ (¬ (4 : Int32) ≤ x2 → (((200 : Int32) ≤ (μ 2 0 1) → (Q μ)) ∧ (¬ (200 : Int32) ≤ (μ 2 0 1) → (cwi Γ M_X11_byteOf [aI x1, aI x2] μ (fun r2 μ1 => vp_in (μ 2 0 1) 200 ∧ (aw Γ M_X2_push 2 [aR 2 0, aI x1, aI (x2 + (1 : Int32))] [] (sto (sto μ1 20 0 (tn (μ 2 0 1)) r2) 2 0 1 ((μ1 2 0 1) + (1 : Int32))) (rV Q)))))))) : aw Γ M_X2_push 2 [aR 2 0, aI x1, aI x2] [] μ (rV Q) := by
  refine aw_iload_n dX2_push_2 rfl ?_
  refine aw_iconst (v := (4 : Int32)) dX2_push_3 rfl ?_
  refine aw_icmp_ge (tgt := 47) dX2_push_4 (by decide) (fun c0 => ?_) (fun c0 => ?_)
  · replace h := h.1 c0
    exact aw_vret dX2_push_47 rfl h
  · replace h := h.2 c0
    refine aw_aload_n dX2_push_7 rfl ?_
    refine aw_get dX2_push_8 rfl fk_RX2_15 (look_I rfl : look μ 2 0 1 = aI (μ 2 0 1)) ?_
    refine aw_sipush (v := (200 : Int32)) dX2_push_11 rfl ?_
    refine aw_icmp_ge (tgt := 47) dX2_push_14 (by decide) (fun c0 => ?_) (fun c0 => ?_)
    · replace h := h.1 c0
      exact aw_vret dX2_push_47 rfl h
    · replace h := h.2 c0
      refine aw_aload_n dX2_push_17 rfl ?_
      refine aw_get dX2_push_18 rfl fk_RX2_11 (look_R rfl rfl : look _ 2 0 0 = aR 20 0) ?_
      refine aw_aload_n dX2_push_21 rfl ?_
      refine aw_get dX2_push_22 rfl fk_RX2_15 (look_I rfl : look μ 2 0 1 = aI (μ 2 0 1)) ?_
      refine aw_iload_n dX2_push_25 rfl ?_
      refine aw_iload_n dX2_push_26 rfl ?_
      refine aw_callSN (M' := M_X11_byteOf) (vs := [aI x1, aI x2]) (st := [aI (μ 2 0 1), aR 20 0]) dX2_push_27 mk_X11_byteOf ms_X11_byteOf ml_RX2_19 mp_X11_byteOf rm_X2_push__X11_byteOf (Nat.le_of_ble_eq_true rfl) rfl (cw_mono h ?_)
      clear h
      rintro _ μ1 ⟨r2, rfl, h⟩
      show aw Γ M_X2_push 30 [aR 2 0, aI x1, aI x2] [aI r2, aI (μ 2 0 1), aR 20 0] μ1 (rV Q)
      refine aw_is (j := tn (μ 2 0 1)) dX2_push_30 rfl (fun _ => rfl) h.1 rfl ?_
      replace h := h.2
      refine aw_aload_n dX2_push_31 rfl ?_
      refine aw_dup dX2_push_32 (fun _ => rfl) ?_
      refine aw_get dX2_push_33 rfl fk_RX2_15 ((look_I rfl).trans (congrArg aI ((sto_K (by decide)).trans (rfl))) : look (sto μ1 20 0 (tn (μ 2 0 1)) r2) 2 0 1 = aI (μ1 2 0 1)) ?_
      refine aw_iconst (v := (1 : Int32)) dX2_push_36 rfl ?_
      refine aw_iadd dX2_push_37 ?_
      refine aw_putI dX2_push_38 rfl fk_RX2_15 (fun r h => by cases h; rfl) rfl rfl ?_
      refine aw_iinc (v := x2 + (1 : Int32)) (ls' := [aR 2 0, aI x1, aI (x2 + (1 : Int32))]) dX2_push_41 rfl rfl (by decide) rfl rfl ?_
      refine aw_goto (tgt := 2) dX2_push_44 (by decide) ?_
      exact h
theorem u_X2_parse {Γ : cx_T} {μ : mH}  {Q : Int32 → mH → Prop} (h : cwv Γ M_X4_clear [aR 4 0] μ (fun μ1 => cwv Γ M_X2_step [aR 2 0] (sto (sto μ1 2 0 7 (0 : Int32)) 2 0 4 (0 : Int32)) (fun μ2 => aw Γ M_X2_parse 20 [aR 2 0, aR 4 0, aI (0 : Int32), aX] [] μ2 (rI Q)))) : cwi Γ M_X2_parse [aR 2 0, aR 4 0] μ Q := by
  refine cw_ofU (ls := [aR 2 0, aR 4 0, aX, aX]) (Or.inl (by decide)) rfl (Nat.le_of_ble_eq_true rfl) rfl ?_
  refine aw_aload_n dX2_parse_0 rfl ?_
  refine aw_callV (M' := M_X4_clear) (K := 4) (i := 0) (vs := []) (st := []) dX2_parse_1 mk_X4_clear mi_X4_clear ml_RX2_23 mp_X4_clear rc_4 rm_X2_parse__X4_clear (Nat.le_of_ble_eq_true rfl) rfl (cw_mono h ?_)
  clear h
  intro _ μ1 h
  show aw Γ M_X2_parse 4 [aR 2 0, aR 4 0, aX, aX] [] μ1 (rI Q)
  refine aw_aload_n dX2_parse_4 rfl ?_
  refine aw_iconst (v := (0 : Int32)) dX2_parse_5 rfl ?_
  refine aw_putI dX2_parse_6 rfl fk_RX2_28 (fun r h => by cases h; rfl) rfl rfl ?_
  refine aw_aload_n dX2_parse_9 rfl ?_
  refine aw_iconst (v := (0 : Int32)) dX2_parse_10 rfl ?_
  refine aw_putI dX2_parse_11 rfl fk_RX2_31 (fun r h => by cases h; rfl) rfl rfl ?_
  refine aw_aload_n dX2_parse_14 rfl ?_
  refine aw_callV (M' := M_X2_step) (K := 2) (i := 0) (vs := []) (st := []) dX2_parse_15 mk_X2_step mi_X2_step ml_RX2_34 mp_X2_step rc_2 rm_X2_parse__X2_step (Nat.le_of_ble_eq_true rfl) rfl (cw_mono h ?_)
  clear h
  intro _ μ2 h
  show aw Γ M_X2_parse 18 [aR 2 0, aR 4 0, aX, aX] [] μ2 (rI Q)
  refine aw_iconst (v := (0 : Int32)) dX2_parse_18 rfl ?_
  refine aw_istore_n (ls' := [aR 2 0, aR 4 0, aI (0 : Int32), aX]) dX2_parse_19 (by decide) rfl rfl ?_
  exact h
theorem u_X2_parse_20 {Γ : cx_T} {μ : mH} {x2 : Int32} {Q : Int32 → mH → Prop} (h : ((200 : Int32) ≤ x2 → ((¬ ((μ 2 0 7) &&& (29 : Int32)) = (29 : Int32) → (Q (μ 2 0 1) μ)) ∧ (((μ 2 0 7) &&& (29 : Int32)) = (29 : Int32) → (Q (-1 : Int32) μ)))) ∧ (¬ (200 : Int32) ≤ x2 → (((μ 2 0 2) = (3 : Int32) → ((¬ ((μ 2 0 7) &&& (29 : Int32)) = (29 : Int32) → (Q (μ 2 0 1) μ)) ∧ (((μ 2 0 7) &&& (29 : Int32)) = (29 : Int32) → (Q (-1 : Int32) μ)))) ∧ (¬ (μ 2 0 2) = (3 : Int32) → (cwi Γ M_X2_lineBegun [aR 2 0] μ (fun r2 μ1 => (r2 = (-1 : Int32) → (Q (μ1 2 0 3) μ1)) ∧ (¬ r2 = (-1 : Int32) → (((((μ1 2 0 7) >>> (r2 &&& 31)) &&& (1 : Int32)) = 0 → (cwv Γ M_X2_step [aR 2 0] (sto μ1 2 0 7 ((μ1 2 0 7) ||| ((1 : Int32) <<< (r2 &&& 31)))) (fun μ3 => cwi Γ M_X2_takeRest [aR 2 0, aI r2, aR 4 0] μ3 (fun r5 μ4 => (r5 = 0 → (Q (μ4 2 0 3) μ4)) ∧ (¬ r5 = 0 → (cwi Γ M_X2_takeStop [aR 2 0] μ4 (fun r7 μ6 => (¬ r7 = 0 → (aw Γ M_X2_parse 20 [aR 2 0, aR 4 0, aI (x2 + (1 : Int32)), aX] [] μ6 (rI Q))) ∧ (r7 = 0 → (Q (μ6 2 0 3) μ6))))))))) ∧ (¬ (((μ1 2 0 7) >>> (r2 &&& 31)) &&& (1 : Int32)) = 0 → (Q (μ1 2 0 3) μ1)))))))))) : aw Γ M_X2_parse 20 [aR 2 0, aR 4 0, aI x2, aX] [] μ (rI Q) := by
  refine aw_iload_n dX2_parse_20 rfl ?_
  refine aw_sipush (v := (200 : Int32)) dX2_parse_21 rfl ?_
  refine aw_icmp_ge (tgt := 104) dX2_parse_24 (by decide) (fun c0 => ?_) (fun c0 => ?_)
  · replace h := h.1 c0
    refine aw_aload_n dX2_parse_104 rfl ?_
    refine aw_get dX2_parse_105 rfl fk_RX2_28 (look_I rfl : look μ 2 0 7 = aI (μ 2 0 7)) ?_
    refine aw_bipush (v := (29 : Int32)) dX2_parse_108 rfl ?_
    refine aw_iand dX2_parse_110 ?_
    refine aw_bipush (v := (29 : Int32)) dX2_parse_111 rfl ?_
    refine aw_icmp_ne (tgt := 120) dX2_parse_113 (by decide) (fun c0 => ?_) (fun c0 => ?_)
    · replace h := h.1 c0
      refine aw_aload_n dX2_parse_120 rfl ?_
      refine aw_get dX2_parse_121 rfl fk_RX2_15 (look_I rfl : look μ 2 0 1 = aI (μ 2 0 1)) ?_
      exact aw_iret dX2_parse_124 rfl rfl ⟨_, rfl, h⟩
    · replace h := h.2 c0
      refine aw_iconst (v := (-1 : Int32)) dX2_parse_116 rfl ?_
      refine aw_goto (tgt := 124) dX2_parse_117 (by decide) ?_
      exact aw_iret dX2_parse_124 rfl rfl ⟨_, rfl, h⟩
  · replace h := h.2 c0
    refine aw_aload_n dX2_parse_27 rfl ?_
    refine aw_get dX2_parse_28 rfl fk_RX2_37 (look_I rfl : look μ 2 0 2 = aI (μ 2 0 2)) ?_
    refine aw_iconst (v := (3 : Int32)) dX2_parse_31 rfl ?_
    refine aw_icmp_eq (tgt := 104) dX2_parse_32 (by decide) (fun c0 => ?_) (fun c0 => ?_)
    · replace h := h.1 c0
      refine aw_aload_n dX2_parse_104 rfl ?_
      refine aw_get dX2_parse_105 rfl fk_RX2_28 (look_I rfl : look μ 2 0 7 = aI (μ 2 0 7)) ?_
      refine aw_bipush (v := (29 : Int32)) dX2_parse_108 rfl ?_
      refine aw_iand dX2_parse_110 ?_
      refine aw_bipush (v := (29 : Int32)) dX2_parse_111 rfl ?_
      refine aw_icmp_ne (tgt := 120) dX2_parse_113 (by decide) (fun c0 => ?_) (fun c0 => ?_)
      · replace h := h.1 c0
        refine aw_aload_n dX2_parse_120 rfl ?_
        refine aw_get dX2_parse_121 rfl fk_RX2_15 (look_I rfl : look μ 2 0 1 = aI (μ 2 0 1)) ?_
        exact aw_iret dX2_parse_124 rfl rfl ⟨_, rfl, h⟩
      · replace h := h.2 c0
        refine aw_iconst (v := (-1 : Int32)) dX2_parse_116 rfl ?_
        refine aw_goto (tgt := 124) dX2_parse_117 (by decide) ?_
        exact aw_iret dX2_parse_124 rfl rfl ⟨_, rfl, h⟩
    · replace h := h.2 c0
      refine aw_aload_n dX2_parse_35 rfl ?_
      refine aw_callV (M' := M_X2_lineBegun) (K := 2) (i := 0) (vs := []) (st := []) dX2_parse_36 mk_X2_lineBegun mi_X2_lineBegun ml_RX2_40 mp_X2_lineBegun rc_2 rm_X2_parse__X2_lineBegun (Nat.le_of_ble_eq_true rfl) rfl (cw_mono h ?_)
      clear h
      rintro _ μ1 ⟨r2, rfl, h⟩
      show aw Γ M_X2_parse 39 [aR 2 0, aR 4 0, aI x2, aX] [aI r2] μ1 (rI Q)
      refine aw_istore_n (ls' := [aR 2 0, aR 4 0, aI x2, aI r2]) dX2_parse_39 (by decide) rfl rfl ?_
      refine aw_iload_n dX2_parse_40 rfl ?_
      refine aw_iconst (v := (-1 : Int32)) dX2_parse_41 rfl ?_
      refine aw_icmp_eq (tgt := 56) dX2_parse_42 (by decide) (fun c0 => ?_) (fun c0 => ?_)
      · replace h := h.1 c0
        refine aw_aload_n dX2_parse_56 rfl ?_
        refine aw_get dX2_parse_57 rfl fk_RX2_44 (look_I rfl : look μ1 2 0 3 = aI (μ1 2 0 3)) ?_
        exact aw_iret dX2_parse_60 rfl rfl ⟨_, rfl, h⟩
      · replace h := h.2 c0
        refine aw_aload_n dX2_parse_45 rfl ?_
        refine aw_get dX2_parse_46 rfl fk_RX2_28 (look_I rfl : look μ1 2 0 7 = aI (μ1 2 0 7)) ?_
        refine aw_iload_n dX2_parse_49 rfl ?_
        refine aw_ishr dX2_parse_50 ?_
        refine aw_iconst (v := (1 : Int32)) dX2_parse_51 rfl ?_
        refine aw_iand dX2_parse_52 ?_
        refine aw_if_eq (tgt := 61) dX2_parse_53 (by decide) (fun c0 => ?_) (fun c0 => ?_)
        · replace h := h.1 c0
          refine aw_aload_n dX2_parse_61 rfl ?_
          refine aw_dup dX2_parse_62 (fun _ => rfl) ?_
          refine aw_get dX2_parse_63 rfl fk_RX2_28 (look_I rfl : look μ1 2 0 7 = aI (μ1 2 0 7)) ?_
          refine aw_iconst (v := (1 : Int32)) dX2_parse_66 rfl ?_
          refine aw_iload_n dX2_parse_67 rfl ?_
          refine aw_ishl dX2_parse_68 ?_
          refine aw_ior dX2_parse_69 ?_
          refine aw_putI dX2_parse_70 rfl fk_RX2_28 (fun r h => by cases h; rfl) rfl rfl ?_
          refine aw_aload_n dX2_parse_73 rfl ?_
          refine aw_callV (M' := M_X2_step) (K := 2) (i := 0) (vs := []) (st := []) dX2_parse_74 mk_X2_step mi_X2_step ml_RX2_34 mp_X2_step rc_2 rm_X2_parse__X2_step (Nat.le_of_ble_eq_true rfl) rfl (cw_mono h ?_)
          clear h
          intro _ μ3 h
          show aw Γ M_X2_parse 77 [aR 2 0, aR 4 0, aI x2, aI r2] [] μ3 (rI Q)
          refine aw_aload_n dX2_parse_77 rfl ?_
          refine aw_iload_n dX2_parse_78 rfl ?_
          refine aw_aload_n dX2_parse_79 rfl ?_
          refine aw_callV (M' := M_X2_takeRest) (K := 2) (i := 0) (vs := [aI r2, aR 4 0]) (st := []) dX2_parse_80 mk_X2_takeRest mi_X2_takeRest ml_RX2_47 mp_X2_takeRest rc_2 rm_X2_parse__X2_takeRest (Nat.le_of_ble_eq_true rfl) rfl (cw_mono h ?_)
          clear h
          rintro _ μ4 ⟨r5, rfl, h⟩
          show aw Γ M_X2_parse 83 [aR 2 0, aR 4 0, aI x2, aI r2] [aI r5] μ4 (rI Q)
          refine aw_if_eq (tgt := 93) dX2_parse_83 (by decide) (fun c0 => ?_) (fun c0 => ?_)
          · replace h := h.1 c0
            refine aw_aload_n dX2_parse_93 rfl ?_
            refine aw_get dX2_parse_94 rfl fk_RX2_44 (look_I rfl : look μ4 2 0 3 = aI (μ4 2 0 3)) ?_
            exact aw_iret dX2_parse_97 rfl rfl ⟨_, rfl, h⟩
          · replace h := h.2 c0
            refine aw_aload_n dX2_parse_86 rfl ?_
            refine aw_callV (M' := M_X2_takeStop) (K := 2) (i := 0) (vs := []) (st := []) dX2_parse_87 mk_X2_takeStop mi_X2_takeStop ml_RX2_51 mp_X2_takeStop rc_2 rm_X2_parse__X2_takeStop (Nat.le_of_ble_eq_true rfl) rfl (cw_mono h ?_)
            clear h
            rintro _ μ6 ⟨r7, rfl, h⟩
            show aw Γ M_X2_parse 90 [aR 2 0, aR 4 0, aI x2, aI r2] [aI r7] μ6 (rI Q)
            refine aw_if_ne (tgt := 98) dX2_parse_90 (by decide) (fun c0 => ?_) (fun c0 => ?_)
            · replace h := h.1 c0
              refine aw_iinc (v := x2 + (1 : Int32)) (ls' := [aR 2 0, aR 4 0, aI (x2 + (1 : Int32)), aI r2]) dX2_parse_98 rfl rfl (by decide) rfl rfl ?_
              refine aw_goto (tgt := 20) dX2_parse_101 (by decide) ?_
              exact aw_wkk h (wk_e (wk_e (wk_e (wk_x wk_n))))
            · replace h := h.2 c0
              refine aw_aload_n dX2_parse_93 rfl ?_
              refine aw_get dX2_parse_94 rfl fk_RX2_44 (look_I rfl : look μ6 2 0 3 = aI (μ6 2 0 3)) ?_
              exact aw_iret dX2_parse_97 rfl rfl ⟨_, rfl, h⟩
        · replace h := h.2 c0
          refine aw_aload_n dX2_parse_56 rfl ?_
          refine aw_get dX2_parse_57 rfl fk_RX2_44 (look_I rfl : look μ1 2 0 3 = aI (μ1 2 0 3)) ?_
          exact aw_iret dX2_parse_60 rfl rfl ⟨_, rfl, h⟩
theorem u_X2_lineBegun {Γ : cx_T} {μ : mH}  {Q : Int32 → mH → Prop} (h : cwi Γ M_X2_isWord [aR 2 0, aR 63 0] μ (fun r2 μ1 => (r2 = 0 → (cwi Γ M_X2_isWord [aR 2 0, aR 63 1] μ1 (fun r4 μ3 => (r4 = 0 → (cwi Γ M_X2_isWord [aR 2 0, aR 63 2] μ3 (fun r6 μ5 => (r6 = 0 → (cwi Γ M_X2_isWord [aR 2 0, aR 63 3] μ5 (fun r8 μ7 => (r8 = 0 → (cwi Γ M_X2_isWord [aR 2 0, aR 63 4] μ7 (fun r10 μ9 => (r10 = 0 → (cwi Γ M_X2_isWord [aR 2 0, aR 63 5] μ9 (fun r12 μ11 => (r12 = 0 → (Q (-1 : Int32) μ11)) ∧ (¬ r12 = 0 → (Q (5 : Int32) μ11))))) ∧ (¬ r10 = 0 → (Q (4 : Int32) μ9))))) ∧ (¬ r8 = 0 → (Q (3 : Int32) μ7))))) ∧ (¬ r6 = 0 → (Q (2 : Int32) μ5))))) ∧ (¬ r4 = 0 → (Q (1 : Int32) μ3))))) ∧ (¬ r2 = 0 → (Q (0 : Int32) μ1)))) : cwi Γ M_X2_lineBegun [aR 2 0] μ Q := by
  refine cw_ofU (ls := [aR 2 0]) (Or.inl (by decide)) rfl (Nat.le_of_ble_eq_true rfl) rfl ?_
  refine aw_aload_n dX2_lineBegun_0 rfl ?_
  refine aw_ldcS (tx := "cell") (j := 0) dX2_lineBegun_1 (by decide +kernel) (by decide) ?_
  refine aw_callV (M' := M_X2_isWord) (K := 2) (i := 0) (vs := [aR 63 0]) (st := []) dX2_lineBegun_3 mk_X2_isWord mi_X2_isWord ml_RX2_57 mp_X2_isWord rc_2 rm_X2_lineBegun__X2_isWord (Nat.le_of_ble_eq_true rfl) rfl (cw_mono h ?_)
  clear h
  rintro _ μ1 ⟨r2, rfl, h⟩
  show aw Γ M_X2_lineBegun 6 [aR 2 0] [aI r2] μ1 (rI Q)
  refine aw_if_eq (tgt := 11) dX2_lineBegun_6 (by decide) (fun c0 => ?_) (fun c0 => ?_)
  · replace h := h.1 c0
    refine aw_aload_n dX2_lineBegun_11 rfl ?_
    refine aw_ldcS (tx := "gain") (j := 1) dX2_lineBegun_12 (by decide +kernel) (by decide) ?_
    refine aw_callV (M' := M_X2_isWord) (K := 2) (i := 0) (vs := [aR 63 1]) (st := []) dX2_lineBegun_14 mk_X2_isWord mi_X2_isWord ml_RX2_57 mp_X2_isWord rc_2 rm_X2_lineBegun__X2_isWord (Nat.le_of_ble_eq_true rfl) rfl (cw_mono h ?_)
    clear h
    rintro _ μ3 ⟨r4, rfl, h⟩
    show aw Γ M_X2_lineBegun 17 [aR 2 0] [aI r4] μ3 (rI Q)
    refine aw_if_eq (tgt := 22) dX2_lineBegun_17 (by decide) (fun c0 => ?_) (fun c0 => ?_)
    · replace h := h.1 c0
      refine aw_aload_n dX2_lineBegun_22 rfl ?_
      refine aw_ldcS (tx := "mark") (j := 2) dX2_lineBegun_23 (by decide +kernel) (by decide) ?_
      refine aw_callV (M' := M_X2_isWord) (K := 2) (i := 0) (vs := [aR 63 2]) (st := []) dX2_lineBegun_25 mk_X2_isWord mi_X2_isWord ml_RX2_57 mp_X2_isWord rc_2 rm_X2_lineBegun__X2_isWord (Nat.le_of_ble_eq_true rfl) rfl (cw_mono h ?_)
      clear h
      rintro _ μ5 ⟨r6, rfl, h⟩
      show aw Γ M_X2_lineBegun 28 [aR 2 0] [aI r6] μ5 (rI Q)
      refine aw_if_eq (tgt := 33) dX2_lineBegun_28 (by decide) (fun c0 => ?_) (fun c0 => ?_)
      · replace h := h.1 c0
        refine aw_aload_n dX2_lineBegun_33 rfl ?_
        refine aw_ldcS (tx := "data") (j := 3) dX2_lineBegun_34 (by decide +kernel) (by decide) ?_
        refine aw_callV (M' := M_X2_isWord) (K := 2) (i := 0) (vs := [aR 63 3]) (st := []) dX2_lineBegun_36 mk_X2_isWord mi_X2_isWord ml_RX2_57 mp_X2_isWord rc_2 rm_X2_lineBegun__X2_isWord (Nat.le_of_ble_eq_true rfl) rfl (cw_mono h ?_)
        clear h
        rintro _ μ7 ⟨r8, rfl, h⟩
        show aw Γ M_X2_lineBegun 39 [aR 2 0] [aI r8] μ7 (rI Q)
        refine aw_if_eq (tgt := 44) dX2_lineBegun_39 (by decide) (fun c0 => ?_) (fun c0 => ?_)
        · replace h := h.1 c0
          refine aw_aload_n dX2_lineBegun_44 rfl ?_
          refine aw_ldcS (tx := "sum") (j := 4) dX2_lineBegun_45 (by decide +kernel) (by decide) ?_
          refine aw_callV (M' := M_X2_isWord) (K := 2) (i := 0) (vs := [aR 63 4]) (st := []) dX2_lineBegun_47 mk_X2_isWord mi_X2_isWord ml_RX2_57 mp_X2_isWord rc_2 rm_X2_lineBegun__X2_isWord (Nat.le_of_ble_eq_true rfl) rfl (cw_mono h ?_)
          clear h
          rintro _ μ9 ⟨r10, rfl, h⟩
          show aw Γ M_X2_lineBegun 50 [aR 2 0] [aI r10] μ9 (rI Q)
          refine aw_if_eq (tgt := 55) dX2_lineBegun_50 (by decide) (fun c0 => ?_) (fun c0 => ?_)
          · replace h := h.1 c0
            refine aw_aload_n dX2_lineBegun_55 rfl ?_
            refine aw_ldcS (tx := "swap") (j := 5) dX2_lineBegun_56 (by decide +kernel) (by decide) ?_
            refine aw_callV (M' := M_X2_isWord) (K := 2) (i := 0) (vs := [aR 63 5]) (st := []) dX2_lineBegun_58 mk_X2_isWord mi_X2_isWord ml_RX2_57 mp_X2_isWord rc_2 rm_X2_lineBegun__X2_isWord (Nat.le_of_ble_eq_true rfl) rfl (cw_mono h ?_)
            clear h
            rintro _ μ11 ⟨r12, rfl, h⟩
            show aw Γ M_X2_lineBegun 61 [aR 2 0] [aI r12] μ11 (rI Q)
            refine aw_if_eq (tgt := 68) dX2_lineBegun_61 (by decide) (fun c0 => ?_) (fun c0 => ?_)
            · replace h := h.1 c0
              refine aw_iconst (v := (-1 : Int32)) dX2_lineBegun_68 rfl ?_
              exact aw_iret dX2_lineBegun_69 rfl rfl ⟨_, rfl, h⟩
            · replace h := h.2 c0
              refine aw_iconst (v := (5 : Int32)) dX2_lineBegun_64 rfl ?_
              refine aw_goto (tgt := 69) dX2_lineBegun_65 (by decide) ?_
              exact aw_iret dX2_lineBegun_69 rfl rfl ⟨_, rfl, h⟩
          · replace h := h.2 c0
            refine aw_iconst (v := (4 : Int32)) dX2_lineBegun_53 rfl ?_
            exact aw_iret dX2_lineBegun_54 rfl rfl ⟨_, rfl, h⟩
        · replace h := h.2 c0
          refine aw_iconst (v := (3 : Int32)) dX2_lineBegun_42 rfl ?_
          exact aw_iret dX2_lineBegun_43 rfl rfl ⟨_, rfl, h⟩
      · replace h := h.2 c0
        refine aw_iconst (v := (2 : Int32)) dX2_lineBegun_31 rfl ?_
        exact aw_iret dX2_lineBegun_32 rfl rfl ⟨_, rfl, h⟩
    · replace h := h.2 c0
      refine aw_iconst (v := (1 : Int32)) dX2_lineBegun_20 rfl ?_
      exact aw_iret dX2_lineBegun_21 rfl rfl ⟨_, rfl, h⟩
  · replace h := h.2 c0
    refine aw_iconst (v := (0 : Int32)) dX2_lineBegun_9 rfl ?_
    exact aw_iret dX2_lineBegun_10 rfl rfl ⟨_, rfl, h⟩
theorem u_X2_takeRest {Γ : cx_T} {μ : mH} {x1 : Int32} {Q : Int32 → mH → Prop} (h : (x1 = (0 : Int32) → (cwi Γ M_X2_takeNumber [aR 2 0, aI (8 : Int32), aI (60 : Int32)] μ (fun r2 μ1 => (r2 = 0 ∨ r2 = 1) ∧ Q r2 (sto μ1 4 0 1 (μ1 2 0 6))))) ∧ (x1 = (1 : Int32) → (cwi Γ M_X2_takeNumber [aR 2 0, aI (0 : Int32), aI (8 : Int32)] μ (fun r4 μ3 => (r4 = 0 ∨ r4 = 1) ∧ Q r4 (sto μ3 4 0 2 (μ3 2 0 6))))) ∧ (x1 = (2 : Int32) → (cwi Γ M_X2_takeMark [aR 2 0, aR 4 0] μ (fun r6 μ5 => (r6 = 0 ∨ r6 = 1) ∧ Q r6 μ5))) ∧ (x1 = (3 : Int32) → (cwi Γ M_X2_takeNumber [aR 2 0, aI (1 : Int32), aI (8 : Int32)] μ (fun r8 μ7 => (r8 = 0 ∨ r8 = 1) ∧ Q r8 (sto μ7 4 0 4 (μ7 2 0 6))))) ∧ (x1 = (4 : Int32) → (cwi Γ M_X2_takeSum [aR 2 0, aR 4 0] μ (fun r10 μ9 => (r10 = 0 ∨ r10 = 1) ∧ Q r10 μ9))) ∧ (¬ x1 = (0 : Int32) → ¬ x1 = (1 : Int32) → ¬ x1 = (2 : Int32) → ¬ x1 = (3 : Int32) → ¬ x1 = (4 : Int32) → (Q (1 : Int32) (sto μ 4 0 8 (1 : Int32))))) : cwi Γ M_X2_takeRest [aR 2 0, aI x1, aR 4 0] μ Q := by
  refine cw_ofU (ls := [aR 2 0, aI x1, aR 4 0, aX]) (Or.inl (by decide)) rfl (Nat.le_of_ble_eq_true rfl) rfl ?_
  refine aw_iload_n dX2_takeRest_0 rfl ?_
  by_cases c0 : x1 = (0 : Int32)
  · replace h := h.1 c0
    refine aw_tableIn (off := 35) (tgt := 36) dX2_takeRest_1 (by rw [c0]; decide) (by rw [c0]; decide) (by rw [c0]; decide) (by decide) ?_
    refine aw_aload_n dX2_takeRest_36 rfl ?_
    refine aw_bipush (v := (8 : Int32)) dX2_takeRest_37 rfl ?_
    refine aw_bipush (v := (60 : Int32)) dX2_takeRest_39 rfl ?_
    refine aw_callV (M' := M_X2_takeNumber) (K := 2) (i := 0) (vs := [aI (8 : Int32), aI (60 : Int32)]) (st := []) dX2_takeRest_41 mk_X2_takeNumber mi_X2_takeNumber ml_RX2_71 mp_X2_takeNumber rc_2 rm_X2_takeRest__X2_takeNumber (Nat.le_of_ble_eq_true rfl) rfl (cw_mono h ?_)
    clear h
    rintro _ μ11 ⟨r12, rfl, h⟩
    show aw Γ M_X2_takeRest 44 [aR 2 0, aI x1, aR 4 0, aX] [aI r12] μ11 (rI Q)
    refine aw_istore_n (ls' := [aR 2 0, aI x1, aR 4 0, aI r12]) dX2_takeRest_44 (by decide) rfl rfl ?_
    refine aw_aload_n dX2_takeRest_45 rfl ?_
    refine aw_aload_n dX2_takeRest_46 rfl ?_
    refine aw_get dX2_takeRest_47 rfl fk_RX2_75 (look_I rfl : look μ11 2 0 6 = aI (μ11 2 0 6)) ?_
    refine aw_putI dX2_takeRest_50 rfl fk_RX2_78 (fun r h => by cases h; rfl) rfl rfl ?_
    refine aw_iload_n dX2_takeRest_53 rfl ?_
    exact aw_iret (ty := .boolean) dX2_takeRest_54 rfl (nar_z h.1).1 ⟨_, rfl, h.2⟩
  by_cases c1 : x1 = (1 : Int32)
  · replace h := h.2.1 c1
    refine aw_tableIn (off := 54) (tgt := 55) dX2_takeRest_1 (by rw [c1]; decide) (by rw [c1]; decide) (by rw [c1]; decide) (by decide) ?_
    refine aw_aload_n dX2_takeRest_55 rfl ?_
    refine aw_iconst (v := (0 : Int32)) dX2_takeRest_56 rfl ?_
    refine aw_bipush (v := (8 : Int32)) dX2_takeRest_57 rfl ?_
    refine aw_callV (M' := M_X2_takeNumber) (K := 2) (i := 0) (vs := [aI (0 : Int32), aI (8 : Int32)]) (st := []) dX2_takeRest_59 mk_X2_takeNumber mi_X2_takeNumber ml_RX2_71 mp_X2_takeNumber rc_2 rm_X2_takeRest__X2_takeNumber (Nat.le_of_ble_eq_true rfl) rfl (cw_mono h ?_)
    clear h
    rintro _ μ13 ⟨r14, rfl, h⟩
    show aw Γ M_X2_takeRest 62 [aR 2 0, aI x1, aR 4 0, aX] [aI r14] μ13 (rI Q)
    refine aw_istore_n (ls' := [aR 2 0, aI x1, aR 4 0, aI r14]) dX2_takeRest_62 (by decide) rfl rfl ?_
    refine aw_aload_n dX2_takeRest_63 rfl ?_
    refine aw_aload_n dX2_takeRest_64 rfl ?_
    refine aw_get dX2_takeRest_65 rfl fk_RX2_75 (look_I rfl : look μ13 2 0 6 = aI (μ13 2 0 6)) ?_
    refine aw_putI dX2_takeRest_68 rfl fk_RX2_80 (fun r h => by cases h; rfl) rfl rfl ?_
    refine aw_iload_n dX2_takeRest_71 rfl ?_
    exact aw_iret (ty := .boolean) dX2_takeRest_72 rfl (nar_z h.1).1 ⟨_, rfl, h.2⟩
  by_cases c2 : x1 = (2 : Int32)
  · replace h := h.2.2.1 c2
    refine aw_tableIn (off := 72) (tgt := 73) dX2_takeRest_1 (by rw [c2]; decide) (by rw [c2]; decide) (by rw [c2]; decide) (by decide) ?_
    refine aw_aload_n dX2_takeRest_73 rfl ?_
    refine aw_aload_n dX2_takeRest_74 rfl ?_
    refine aw_callV (M' := M_X2_takeMark) (K := 2) (i := 0) (vs := [aR 4 0]) (st := []) dX2_takeRest_75 mk_X2_takeMark mi_X2_takeMark ml_RX2_82 mp_X2_takeMark rc_2 rm_X2_takeRest__X2_takeMark (Nat.le_of_ble_eq_true rfl) rfl (cw_mono h ?_)
    clear h
    rintro _ μ15 ⟨r16, rfl, h⟩
    show aw Γ M_X2_takeRest 78 [aR 2 0, aI x1, aR 4 0, aX] [aI r16] μ15 (rI Q)
    exact aw_iret (ty := .boolean) dX2_takeRest_78 rfl (nar_z h.1).1 ⟨_, rfl, h.2⟩
  by_cases c3 : x1 = (3 : Int32)
  · replace h := h.2.2.2.1 c3
    refine aw_tableIn (off := 78) (tgt := 79) dX2_takeRest_1 (by rw [c3]; decide) (by rw [c3]; decide) (by rw [c3]; decide) (by decide) ?_
    refine aw_aload_n dX2_takeRest_79 rfl ?_
    refine aw_iconst (v := (1 : Int32)) dX2_takeRest_80 rfl ?_
    refine aw_bipush (v := (8 : Int32)) dX2_takeRest_81 rfl ?_
    refine aw_callV (M' := M_X2_takeNumber) (K := 2) (i := 0) (vs := [aI (1 : Int32), aI (8 : Int32)]) (st := []) dX2_takeRest_83 mk_X2_takeNumber mi_X2_takeNumber ml_RX2_71 mp_X2_takeNumber rc_2 rm_X2_takeRest__X2_takeNumber (Nat.le_of_ble_eq_true rfl) rfl (cw_mono h ?_)
    clear h
    rintro _ μ17 ⟨r18, rfl, h⟩
    show aw Γ M_X2_takeRest 86 [aR 2 0, aI x1, aR 4 0, aX] [aI r18] μ17 (rI Q)
    refine aw_istore_n (ls' := [aR 2 0, aI x1, aR 4 0, aI r18]) dX2_takeRest_86 (by decide) rfl rfl ?_
    refine aw_aload_n dX2_takeRest_87 rfl ?_
    refine aw_aload_n dX2_takeRest_88 rfl ?_
    refine aw_get dX2_takeRest_89 rfl fk_RX2_75 (look_I rfl : look μ17 2 0 6 = aI (μ17 2 0 6)) ?_
    refine aw_putI dX2_takeRest_92 rfl fk_RX2_86 (fun r h => by cases h; rfl) rfl rfl ?_
    refine aw_iload_n dX2_takeRest_95 rfl ?_
    exact aw_iret (ty := .boolean) dX2_takeRest_96 rfl (nar_z h.1).1 ⟨_, rfl, h.2⟩
  by_cases c4 : x1 = (4 : Int32)
  · replace h := h.2.2.2.2.1 c4
    refine aw_tableIn (off := 96) (tgt := 97) dX2_takeRest_1 (by rw [c4]; decide) (by rw [c4]; decide) (by rw [c4]; decide) (by decide) ?_
    refine aw_aload_n dX2_takeRest_97 rfl ?_
    refine aw_aload_n dX2_takeRest_98 rfl ?_
    refine aw_callV (M' := M_X2_takeSum) (K := 2) (i := 0) (vs := [aR 4 0]) (st := []) dX2_takeRest_99 mk_X2_takeSum mi_X2_takeSum ml_RX2_87 mp_X2_takeSum rc_2 rm_X2_takeRest__X2_takeSum (Nat.le_of_ble_eq_true rfl) rfl (cw_mono h ?_)
    clear h
    rintro _ μ19 ⟨r20, rfl, h⟩
    show aw Γ M_X2_takeRest 102 [aR 2 0, aI x1, aR 4 0, aX] [aI r20] μ19 (rI Q)
    exact aw_iret (ty := .boolean) dX2_takeRest_102 rfl (nar_z h.1).1 ⟨_, rfl, h.2⟩
  replace h := h.2.2.2.2.2 c0 c1 c2 c3 c4
  refine aw_tableOut (tgt := 103) dX2_takeRest_1 (by have e0 := lv_neT c0 (show (0 : Int32).toInt = (0 : Int) by decide); have e1 := lv_neT c1 (show (1 : Int32).toInt = (1 : Int) by decide); have e2 := lv_neT c2 (show (2 : Int32).toInt = (2 : Int) by decide); have e3 := lv_neT c3 (show (3 : Int32).toInt = (3 : Int) by decide); have e4 := lv_neT c4 (show (4 : Int32).toInt = (4 : Int) by decide); omega) (by decide) ?_
  refine aw_aload_n dX2_takeRest_103 rfl ?_
  refine aw_iconst (v := (1 : Int32)) dX2_takeRest_104 rfl ?_
  refine aw_putZ dX2_takeRest_105 rfl fk_RX2_90 (fun r h => by cases h; rfl) rfl rfl (Or.inr rfl) ?_
  refine aw_iconst (v := (1 : Int32)) dX2_takeRest_108 rfl ?_
  exact aw_iret (ty := .boolean) dX2_takeRest_109 rfl (by decide) ⟨_, rfl, h⟩
theorem u_X2_takeMark {Γ : cx_T} {μ : mH}  {Q : Int32 → mH → Prop} (h : cwi Γ M_X2_takeNumber [aR 2 0, aI (0 : Int32), aI (255 : Int32)] μ (fun r2 μ1 => (¬ r2 = 0 → (cwi Γ M_X2_takeNumber [aR 2 0, aI (0 : Int32), aI (255 : Int32)] (sto μ1 4 0 3 ((μ1 2 0 6) <<< ((8 : Int32) &&& 31))) (fun r4 μ3 => (¬ r4 = 0 → (Q (1 : Int32) (sto μ3 4 0 3 ((μ3 4 0 3) ||| (μ3 2 0 6))))) ∧ (r4 = 0 → (Q (0 : Int32) μ3))))) ∧ (r2 = 0 → (Q (0 : Int32) μ1)))) : cwi Γ M_X2_takeMark [aR 2 0, aR 4 0] μ Q := by
  refine cw_ofU (ls := [aR 2 0, aR 4 0]) (Or.inl (by decide)) rfl (Nat.le_of_ble_eq_true rfl) rfl ?_
  refine aw_aload_n dX2_takeMark_0 rfl ?_
  refine aw_iconst (v := (0 : Int32)) dX2_takeMark_1 rfl ?_
  refine aw_sipush (v := (255 : Int32)) dX2_takeMark_2 rfl ?_
  refine aw_callV (M' := M_X2_takeNumber) (K := 2) (i := 0) (vs := [aI (0 : Int32), aI (255 : Int32)]) (st := []) dX2_takeMark_5 mk_X2_takeNumber mi_X2_takeNumber ml_RX2_71 mp_X2_takeNumber rc_2 rm_X2_takeMark__X2_takeNumber (Nat.le_of_ble_eq_true rfl) rfl (cw_mono h ?_)
  clear h
  rintro _ μ1 ⟨r2, rfl, h⟩
  show aw Γ M_X2_takeMark 8 [aR 2 0, aR 4 0] [aI r2] μ1 (rI Q)
  refine aw_if_ne (tgt := 13) dX2_takeMark_8 (by decide) (fun c0 => ?_) (fun c0 => ?_)
  · replace h := h.1 c0
    refine aw_aload_n dX2_takeMark_13 rfl ?_
    refine aw_aload_n dX2_takeMark_14 rfl ?_
    refine aw_get dX2_takeMark_15 rfl fk_RX2_75 (look_I rfl : look μ1 2 0 6 = aI (μ1 2 0 6)) ?_
    refine aw_bipush (v := (8 : Int32)) dX2_takeMark_18 rfl ?_
    refine aw_ishl dX2_takeMark_20 ?_
    refine aw_putI dX2_takeMark_21 rfl fk_RX2_94 (fun r h => by cases h; rfl) rfl rfl ?_
    refine aw_aload_n dX2_takeMark_24 rfl ?_
    refine aw_iconst (v := (0 : Int32)) dX2_takeMark_25 rfl ?_
    refine aw_sipush (v := (255 : Int32)) dX2_takeMark_26 rfl ?_
    refine aw_callV (M' := M_X2_takeNumber) (K := 2) (i := 0) (vs := [aI (0 : Int32), aI (255 : Int32)]) (st := []) dX2_takeMark_29 mk_X2_takeNumber mi_X2_takeNumber ml_RX2_71 mp_X2_takeNumber rc_2 rm_X2_takeMark__X2_takeNumber (Nat.le_of_ble_eq_true rfl) rfl (cw_mono h ?_)
    clear h
    rintro _ μ3 ⟨r4, rfl, h⟩
    show aw Γ M_X2_takeMark 32 [aR 2 0, aR 4 0] [aI r4] μ3 (rI Q)
    refine aw_if_ne (tgt := 37) dX2_takeMark_32 (by decide) (fun c0 => ?_) (fun c0 => ?_)
    · replace h := h.1 c0
      refine aw_aload_n dX2_takeMark_37 rfl ?_
      refine aw_dup dX2_takeMark_38 (fun _ => rfl) ?_
      refine aw_get dX2_takeMark_39 rfl fk_RX2_94 (look_I rfl : look μ3 4 0 3 = aI (μ3 4 0 3)) ?_
      refine aw_aload_n dX2_takeMark_42 rfl ?_
      refine aw_get dX2_takeMark_43 rfl fk_RX2_75 (look_I rfl : look μ3 2 0 6 = aI (μ3 2 0 6)) ?_
      refine aw_ior dX2_takeMark_46 ?_
      refine aw_putI dX2_takeMark_47 rfl fk_RX2_94 (fun r h => by cases h; rfl) rfl rfl ?_
      refine aw_iconst (v := (1 : Int32)) dX2_takeMark_50 rfl ?_
      exact aw_iret (ty := .boolean) dX2_takeMark_51 rfl (by decide) ⟨_, rfl, h⟩
    · replace h := h.2 c0
      refine aw_iconst (v := (0 : Int32)) dX2_takeMark_35 rfl ?_
      exact aw_iret (ty := .boolean) dX2_takeMark_36 rfl (by decide) ⟨_, rfl, h⟩
  · replace h := h.2 c0
    refine aw_iconst (v := (0 : Int32)) dX2_takeMark_11 rfl ?_
    exact aw_iret (ty := .boolean) dX2_takeMark_12 rfl (by decide) ⟨_, rfl, h⟩
theorem u_X2_takeSum {Γ : cx_T} {μ : mH}  {Q : Int32 → mH → Prop} (h : cwi Γ M_X2_isWord [aR 2 0, aR 63 6] μ (fun r2 μ1 => (r2 = 0 → (cwi Γ M_X2_isWord [aR 2 0, aR 63 7] μ1 (fun r4 μ3 => (r4 = 0 → (cwi Γ M_X2_isWord [aR 2 0, aR 63 8] μ3 (fun r6 μ5 => (¬ r6 = 0 → (cwv Γ M_X2_step [aR 2 0] (sto μ5 4 0 5 (2 : Int32)) (fun μ7 => cwi Γ M_X2_takeNumber [aR 2 0, aI (0 : Int32), aI (65535 : Int32)] μ7 (fun r9 μ8 => (¬ r9 = 0 → (cwi Γ M_X2_takeNumber [aR 2 0, aI (0 : Int32), aI (65535 : Int32)] (sto μ8 4 0 6 (μ8 2 0 6)) (fun r11 μ10 => (¬ r11 = 0 → (Q (1 : Int32) (sto μ10 4 0 7 (μ10 2 0 6)))) ∧ (r11 = 0 → (Q (0 : Int32) μ10))))) ∧ (r9 = 0 → (Q (0 : Int32) μ8)))))) ∧ (r6 = 0 → (Q (0 : Int32) μ5))))) ∧ (¬ r4 = 0 → (cwv Γ M_X2_step [aR 2 0] (sto μ3 4 0 5 (1 : Int32)) (fun μ12 => Q (1 : Int32) μ12)))))) ∧ (¬ r2 = 0 → (cwv Γ M_X2_step [aR 2 0] (sto μ1 4 0 5 (0 : Int32)) (fun μ13 => Q (1 : Int32) μ13))))) : cwi Γ M_X2_takeSum [aR 2 0, aR 4 0] μ Q := by
  refine cw_ofU (ls := [aR 2 0, aR 4 0]) (Or.inl (by decide)) rfl (Nat.le_of_ble_eq_true rfl) rfl ?_
  refine aw_aload_n dX2_takeSum_0 rfl ?_
  refine aw_ldcS (tx := "add") (j := 6) dX2_takeSum_1 (by decide +kernel) (by decide) ?_
  refine aw_callV (M' := M_X2_isWord) (K := 2) (i := 0) (vs := [aR 63 6]) (st := []) dX2_takeSum_3 mk_X2_isWord mi_X2_isWord ml_RX2_57 mp_X2_isWord rc_2 rm_X2_takeSum__X2_isWord (Nat.le_of_ble_eq_true rfl) rfl (cw_mono h ?_)
  clear h
  rintro _ μ1 ⟨r2, rfl, h⟩
  show aw Γ M_X2_takeSum 6 [aR 2 0, aR 4 0] [aI r2] μ1 (rI Q)
  refine aw_if_eq (tgt := 20) dX2_takeSum_6 (by decide) (fun c0 => ?_) (fun c0 => ?_)
  · replace h := h.1 c0
    refine aw_aload_n dX2_takeSum_20 rfl ?_
    refine aw_ldcS (tx := "xor") (j := 7) dX2_takeSum_21 (by decide +kernel) (by decide) ?_
    refine aw_callV (M' := M_X2_isWord) (K := 2) (i := 0) (vs := [aR 63 7]) (st := []) dX2_takeSum_23 mk_X2_isWord mi_X2_isWord ml_RX2_57 mp_X2_isWord rc_2 rm_X2_takeSum__X2_isWord (Nat.le_of_ble_eq_true rfl) rfl (cw_mono h ?_)
    clear h
    rintro _ μ3 ⟨r4, rfl, h⟩
    show aw Γ M_X2_takeSum 26 [aR 2 0, aR 4 0] [aI r4] μ3 (rI Q)
    refine aw_if_eq (tgt := 40) dX2_takeSum_26 (by decide) (fun c0 => ?_) (fun c0 => ?_)
    · replace h := h.1 c0
      refine aw_aload_n dX2_takeSum_40 rfl ?_
      refine aw_ldcS (tx := "crc") (j := 8) dX2_takeSum_41 (by decide +kernel) (by decide) ?_
      refine aw_callV (M' := M_X2_isWord) (K := 2) (i := 0) (vs := [aR 63 8]) (st := []) dX2_takeSum_43 mk_X2_isWord mi_X2_isWord ml_RX2_57 mp_X2_isWord rc_2 rm_X2_takeSum__X2_isWord (Nat.le_of_ble_eq_true rfl) rfl (cw_mono h ?_)
      clear h
      rintro _ μ5 ⟨r6, rfl, h⟩
      show aw Γ M_X2_takeSum 46 [aR 2 0, aR 4 0] [aI r6] μ5 (rI Q)
      refine aw_if_ne (tgt := 51) dX2_takeSum_46 (by decide) (fun c0 => ?_) (fun c0 => ?_)
      · replace h := h.1 c0
        refine aw_aload_n dX2_takeSum_51 rfl ?_
        refine aw_iconst (v := (2 : Int32)) dX2_takeSum_52 rfl ?_
        refine aw_putI dX2_takeSum_53 rfl fk_RX2_98 (fun r h => by cases h; rfl) rfl rfl ?_
        refine aw_aload_n dX2_takeSum_56 rfl ?_
        refine aw_callV (M' := M_X2_step) (K := 2) (i := 0) (vs := []) (st := []) dX2_takeSum_57 mk_X2_step mi_X2_step ml_RX2_34 mp_X2_step rc_2 rm_X2_takeSum__X2_step (Nat.le_of_ble_eq_true rfl) rfl (cw_mono h ?_)
        clear h
        intro _ μ7 h
        show aw Γ M_X2_takeSum 60 [aR 2 0, aR 4 0] [] μ7 (rI Q)
        refine aw_aload_n dX2_takeSum_60 rfl ?_
        refine aw_iconst (v := (0 : Int32)) dX2_takeSum_61 rfl ?_
        refine aw_ldc (v := (65535 : Int32)) dX2_takeSum_62 kc_RX2_105 ?_
        refine aw_callV (M' := M_X2_takeNumber) (K := 2) (i := 0) (vs := [aI (0 : Int32), aI (65535 : Int32)]) (st := []) dX2_takeSum_64 mk_X2_takeNumber mi_X2_takeNumber ml_RX2_71 mp_X2_takeNumber rc_2 rm_X2_takeSum__X2_takeNumber (Nat.le_of_ble_eq_true rfl) rfl (cw_mono h ?_)
        clear h
        rintro _ μ8 ⟨r9, rfl, h⟩
        show aw Γ M_X2_takeSum 67 [aR 2 0, aR 4 0] [aI r9] μ8 (rI Q)
        refine aw_if_ne (tgt := 72) dX2_takeSum_67 (by decide) (fun c0 => ?_) (fun c0 => ?_)
        · replace h := h.1 c0
          refine aw_aload_n dX2_takeSum_72 rfl ?_
          refine aw_aload_n dX2_takeSum_73 rfl ?_
          refine aw_get dX2_takeSum_74 rfl fk_RX2_75 (look_I rfl : look μ8 2 0 6 = aI (μ8 2 0 6)) ?_
          refine aw_putI dX2_takeSum_77 rfl fk_RX2_106 (fun r h => by cases h; rfl) rfl rfl ?_
          refine aw_aload_n dX2_takeSum_80 rfl ?_
          refine aw_iconst (v := (0 : Int32)) dX2_takeSum_81 rfl ?_
          refine aw_ldc (v := (65535 : Int32)) dX2_takeSum_82 kc_RX2_105 ?_
          refine aw_callV (M' := M_X2_takeNumber) (K := 2) (i := 0) (vs := [aI (0 : Int32), aI (65535 : Int32)]) (st := []) dX2_takeSum_84 mk_X2_takeNumber mi_X2_takeNumber ml_RX2_71 mp_X2_takeNumber rc_2 rm_X2_takeSum__X2_takeNumber (Nat.le_of_ble_eq_true rfl) rfl (cw_mono h ?_)
          clear h
          rintro _ μ10 ⟨r11, rfl, h⟩
          show aw Γ M_X2_takeSum 87 [aR 2 0, aR 4 0] [aI r11] μ10 (rI Q)
          refine aw_if_ne (tgt := 92) dX2_takeSum_87 (by decide) (fun c0 => ?_) (fun c0 => ?_)
          · replace h := h.1 c0
            refine aw_aload_n dX2_takeSum_92 rfl ?_
            refine aw_aload_n dX2_takeSum_93 rfl ?_
            refine aw_get dX2_takeSum_94 rfl fk_RX2_75 (look_I rfl : look μ10 2 0 6 = aI (μ10 2 0 6)) ?_
            refine aw_putI dX2_takeSum_97 rfl fk_RX2_109 (fun r h => by cases h; rfl) rfl rfl ?_
            refine aw_iconst (v := (1 : Int32)) dX2_takeSum_100 rfl ?_
            exact aw_iret (ty := .boolean) dX2_takeSum_101 rfl (by decide) ⟨_, rfl, h⟩
          · replace h := h.2 c0
            refine aw_iconst (v := (0 : Int32)) dX2_takeSum_90 rfl ?_
            exact aw_iret (ty := .boolean) dX2_takeSum_91 rfl (by decide) ⟨_, rfl, h⟩
        · replace h := h.2 c0
          refine aw_iconst (v := (0 : Int32)) dX2_takeSum_70 rfl ?_
          exact aw_iret (ty := .boolean) dX2_takeSum_71 rfl (by decide) ⟨_, rfl, h⟩
      · replace h := h.2 c0
        refine aw_iconst (v := (0 : Int32)) dX2_takeSum_49 rfl ?_
        exact aw_iret (ty := .boolean) dX2_takeSum_50 rfl (by decide) ⟨_, rfl, h⟩
    · replace h := h.2 c0
      refine aw_aload_n dX2_takeSum_29 rfl ?_
      refine aw_iconst (v := (1 : Int32)) dX2_takeSum_30 rfl ?_
      refine aw_putI dX2_takeSum_31 rfl fk_RX2_98 (fun r h => by cases h; rfl) rfl rfl ?_
      refine aw_aload_n dX2_takeSum_34 rfl ?_
      refine aw_callV (M' := M_X2_step) (K := 2) (i := 0) (vs := []) (st := []) dX2_takeSum_35 mk_X2_step mi_X2_step ml_RX2_34 mp_X2_step rc_2 rm_X2_takeSum__X2_step (Nat.le_of_ble_eq_true rfl) rfl (cw_mono h ?_)
      clear h
      intro _ μ12 h
      show aw Γ M_X2_takeSum 38 [aR 2 0, aR 4 0] [] μ12 (rI Q)
      refine aw_iconst (v := (1 : Int32)) dX2_takeSum_38 rfl ?_
      exact aw_iret (ty := .boolean) dX2_takeSum_39 rfl (by decide) ⟨_, rfl, h⟩
  · replace h := h.2 c0
    refine aw_aload_n dX2_takeSum_9 rfl ?_
    refine aw_iconst (v := (0 : Int32)) dX2_takeSum_10 rfl ?_
    refine aw_putI dX2_takeSum_11 rfl fk_RX2_98 (fun r h => by cases h; rfl) rfl rfl ?_
    refine aw_aload_n dX2_takeSum_14 rfl ?_
    refine aw_callV (M' := M_X2_step) (K := 2) (i := 0) (vs := []) (st := []) dX2_takeSum_15 mk_X2_step mi_X2_step ml_RX2_34 mp_X2_step rc_2 rm_X2_takeSum__X2_step (Nat.le_of_ble_eq_true rfl) rfl (cw_mono h ?_)
    clear h
    intro _ μ13 h
    show aw Γ M_X2_takeSum 18 [aR 2 0, aR 4 0] [] μ13 (rI Q)
    refine aw_iconst (v := (1 : Int32)) dX2_takeSum_18 rfl ?_
    exact aw_iret (ty := .boolean) dX2_takeSum_19 rfl (by decide) ⟨_, rfl, h⟩
theorem u_X2_takeNumber {Γ : cx_T} {μ : mH} {x1 : Int32} {x2 : Int32} {Q : Int32 → mH → Prop} (h : (¬ (μ 2 0 2) = (1 : Int32) → (Q (0 : Int32) μ)) ∧ ((μ 2 0 2) = (1 : Int32) → (((μ 2 0 5) < x1 → (Q (0 : Int32) μ)) ∧ (¬ (μ 2 0 5) < x1 → (((μ 2 0 5) ≤ x2 → (cwv Γ M_X2_step [aR 2 0] (sto μ 2 0 6 (μ 2 0 5)) (fun μ1 => Q (1 : Int32) μ1))) ∧ (¬ (μ 2 0 5) ≤ x2 → (Q (0 : Int32) μ))))))) : cwi Γ M_X2_takeNumber [aR 2 0, aI x1, aI x2] μ Q := by
  refine cw_ofU (ls := [aR 2 0, aI x1, aI x2]) (Or.inl (by decide)) rfl (Nat.le_of_ble_eq_true rfl) rfl ?_
  refine aw_aload_n dX2_takeNumber_0 rfl ?_
  refine aw_get dX2_takeNumber_1 rfl fk_RX2_37 (look_I rfl : look μ 2 0 2 = aI (μ 2 0 2)) ?_
  refine aw_iconst (v := (1 : Int32)) dX2_takeNumber_4 rfl ?_
  refine aw_icmp_ne (tgt := 24) dX2_takeNumber_5 (by decide) (fun c0 => ?_) (fun c0 => ?_)
  · replace h := h.1 c0
    refine aw_iconst (v := (0 : Int32)) dX2_takeNumber_24 rfl ?_
    exact aw_iret (ty := .boolean) dX2_takeNumber_25 rfl (by decide) ⟨_, rfl, h⟩
  · replace h := h.2 c0
    refine aw_aload_n dX2_takeNumber_8 rfl ?_
    refine aw_get dX2_takeNumber_9 rfl fk_RX2_112 (look_I rfl : look μ 2 0 5 = aI (μ 2 0 5)) ?_
    refine aw_iload_n dX2_takeNumber_12 rfl ?_
    refine aw_icmp_lt (tgt := 24) dX2_takeNumber_13 (by decide) (fun c0 => ?_) (fun c0 => ?_)
    · replace h := h.1 c0
      refine aw_iconst (v := (0 : Int32)) dX2_takeNumber_24 rfl ?_
      exact aw_iret (ty := .boolean) dX2_takeNumber_25 rfl (by decide) ⟨_, rfl, h⟩
    · replace h := h.2 c0
      refine aw_aload_n dX2_takeNumber_16 rfl ?_
      refine aw_get dX2_takeNumber_17 rfl fk_RX2_112 (look_I rfl : look μ 2 0 5 = aI (μ 2 0 5)) ?_
      refine aw_iload_n dX2_takeNumber_20 rfl ?_
      refine aw_icmp_le (tgt := 26) dX2_takeNumber_21 (by decide) (fun c0 => ?_) (fun c0 => ?_)
      · replace h := h.1 c0
        refine aw_aload_n dX2_takeNumber_26 rfl ?_
        refine aw_aload_n dX2_takeNumber_27 rfl ?_
        refine aw_get dX2_takeNumber_28 rfl fk_RX2_112 (look_I rfl : look μ 2 0 5 = aI (μ 2 0 5)) ?_
        refine aw_putI dX2_takeNumber_31 rfl fk_RX2_75 (fun r h => by cases h; rfl) rfl rfl ?_
        refine aw_aload_n dX2_takeNumber_34 rfl ?_
        refine aw_callV (M' := M_X2_step) (K := 2) (i := 0) (vs := []) (st := []) dX2_takeNumber_35 mk_X2_step mi_X2_step ml_RX2_34 mp_X2_step rc_2 rm_X2_takeNumber__X2_step (Nat.le_of_ble_eq_true rfl) rfl (cw_mono h ?_)
        clear h
        intro _ μ1 h
        show aw Γ M_X2_takeNumber 38 [aR 2 0, aI x1, aI x2] [] μ1 (rI Q)
        refine aw_iconst (v := (1 : Int32)) dX2_takeNumber_38 rfl ?_
        exact aw_iret (ty := .boolean) dX2_takeNumber_39 rfl (by decide) ⟨_, rfl, h⟩
      · replace h := h.2 c0
        refine aw_iconst (v := (0 : Int32)) dX2_takeNumber_24 rfl ?_
        exact aw_iret (ty := .boolean) dX2_takeNumber_25 rfl (by decide) ⟨_, rfl, h⟩
theorem u_X2_takeStop {Γ : cx_T} {μ : mH}  {Q : Int32 → mH → Prop} (h : ((μ 2 0 2) = (2 : Int32) → (cwv Γ M_X2_step [aR 2 0] μ (fun μ1 => Q (1 : Int32) μ1))) ∧ (¬ (μ 2 0 2) = (2 : Int32) → (Q (0 : Int32) μ))) : cwi Γ M_X2_takeStop [aR 2 0] μ Q := by
  refine cw_ofU (ls := [aR 2 0]) (Or.inl (by decide)) rfl (Nat.le_of_ble_eq_true rfl) rfl ?_
  refine aw_aload_n dX2_takeStop_0 rfl ?_
  refine aw_get dX2_takeStop_1 rfl fk_RX2_37 (look_I rfl : look μ 2 0 2 = aI (μ 2 0 2)) ?_
  refine aw_iconst (v := (2 : Int32)) dX2_takeStop_4 rfl ?_
  refine aw_icmp_eq (tgt := 10) dX2_takeStop_5 (by decide) (fun c0 => ?_) (fun c0 => ?_)
  · replace h := h.1 c0
    refine aw_aload_n dX2_takeStop_10 rfl ?_
    refine aw_callV (M' := M_X2_step) (K := 2) (i := 0) (vs := []) (st := []) dX2_takeStop_11 mk_X2_step mi_X2_step ml_RX2_34 mp_X2_step rc_2 rm_X2_takeStop__X2_step (Nat.le_of_ble_eq_true rfl) rfl (cw_mono h ?_)
    clear h
    intro _ μ1 h
    show aw Γ M_X2_takeStop 14 [aR 2 0] [] μ1 (rI Q)
    refine aw_iconst (v := (1 : Int32)) dX2_takeStop_14 rfl ?_
    exact aw_iret (ty := .boolean) dX2_takeStop_15 rfl (by decide) ⟨_, rfl, h⟩
  · replace h := h.2 c0
    refine aw_iconst (v := (0 : Int32)) dX2_takeStop_8 rfl ?_
    exact aw_iret (ty := .boolean) dX2_takeStop_9 rfl (by decide) ⟨_, rfl, h⟩
theorem u_X2_isWord {Γ : cx_T} {μ : mH} {k1 : Nat} {Q : Int32 → mH → Prop} (h : (¬ (μ 2 0 2) = 0 → (Q (0 : Int32) μ)) ∧ ((μ 2 0 2) = 0 → (cwi Γ M_J0_length_8abf5 [aR 63 k1] μ (fun r2 μ1 => (((μ 2 0 4) - (μ 2 0 3)) = r2 → (aw Γ M_X2_isWord 27 [aR 2 0, aR 63 k1, aI (0 : Int32)] [] μ1 (rI Q))) ∧ (¬ ((μ 2 0 4) - (μ 2 0 3)) = r2 → (Q (0 : Int32) μ1)))))) : cwi Γ M_X2_isWord [aR 2 0, aR 63 k1] μ Q := by
  refine cw_ofU (ls := [aR 2 0, aR 63 k1, aX]) (Or.inl (by decide)) rfl (Nat.le_of_ble_eq_true rfl) rfl ?_
  refine aw_aload_n dX2_isWord_0 rfl ?_
  refine aw_get dX2_isWord_1 rfl fk_RX2_37 (look_I rfl : look μ 2 0 2 = aI (μ 2 0 2)) ?_
  refine aw_if_ne (tgt := 23) dX2_isWord_4 (by decide) (fun c0 => ?_) (fun c0 => ?_)
  · replace h := h.1 c0
    refine aw_iconst (v := (0 : Int32)) dX2_isWord_23 rfl ?_
    exact aw_iret (ty := .boolean) dX2_isWord_24 rfl (by decide) ⟨_, rfl, h⟩
  · replace h := h.2 c0
    refine aw_aload_n dX2_isWord_7 rfl ?_
    refine aw_get dX2_isWord_8 rfl fk_RX2_31 (look_I rfl : look μ 2 0 4 = aI (μ 2 0 4)) ?_
    refine aw_aload_n dX2_isWord_11 rfl ?_
    refine aw_get dX2_isWord_12 rfl fk_RX2_44 (look_I rfl : look μ 2 0 3 = aI (μ 2 0 3)) ?_
    refine aw_isub dX2_isWord_15 ?_
    refine aw_aload_n dX2_isWord_16 rfl ?_
    refine aw_callV (M' := M_J0_length_8abf5) (K := 63) (i := k1) (vs := []) (st := [aI ((μ 2 0 4) - (μ 2 0 3))]) dX2_isWord_17 mk_J0_length_8abf5 mi_J0_length_8abf5 ml_RX2_115 mp_J0_length_8abf5 rc_63 rm_X2_isWord__J0_length_8abf5 (Nat.le_of_ble_eq_true rfl) rfl (cw_mono h ?_)
    clear h
    rintro _ μ1 ⟨r2, rfl, h⟩
    show aw Γ M_X2_isWord 20 [aR 2 0, aR 63 k1, aX] [aI r2, aI ((μ 2 0 4) - (μ 2 0 3))] μ1 (rI Q)
    refine aw_icmp_eq (tgt := 25) dX2_isWord_20 (by decide) (fun c0 => ?_) (fun c0 => ?_)
    · replace h := h.1 c0
      refine aw_iconst (v := (0 : Int32)) dX2_isWord_25 rfl ?_
      refine aw_istore_n (ls' := [aR 2 0, aR 63 k1, aI (0 : Int32)]) dX2_isWord_26 (by decide) rfl rfl ?_
      exact h
    · replace h := h.2 c0
      refine aw_iconst (v := (0 : Int32)) dX2_isWord_23 rfl ?_
      exact aw_iret (ty := .boolean) dX2_isWord_24 rfl (by decide) ⟨_, rfl, h⟩
theorem u_X2_isWord_27 {Γ : cx_T} {μ : mH} {i1 : Nat} {x2 : Int32} {Q : Int32 → mH → Prop} (h : cwi Γ M_J0_length_8abf5 [aR 63 i1] μ (fun r2 μ1 => (r2 ≤ x2 → (Q (1 : Int32) μ1)) ∧ (¬ r2 ≤ x2 → (((μ1 2 0 1) ≤ ((μ1 2 0 3) + x2) → (Q (1 : Int32) μ1)) ∧ (¬ (μ1 2 0 1) ≤ ((μ1 2 0 3) + x2) → (vp_in ((μ1 2 0 3) + x2) 200 ∧ (cwi Γ M_J0_charAt_5068e [aR 63 i1, aI x2] μ1 (fun r4 μ3 => ((μ1 20 0 (tn ((μ1 2 0 3) + x2))) = r4 → (aw Γ M_X2_isWord 27 [aR 2 0, aR 63 i1, aI (x2 + (1 : Int32))] [] μ3 (rI Q))) ∧ (¬ (μ1 20 0 (tn ((μ1 2 0 3) + x2))) = r4 → (Q (0 : Int32) μ3)))))))))) : aw Γ M_X2_isWord 27 [aR 2 0, aR 63 i1, aI x2] [] μ (rI Q) := by
  refine aw_iload_n dX2_isWord_27 rfl ?_
  refine aw_aload_n dX2_isWord_28 rfl ?_
  refine aw_callV (M' := M_J0_length_8abf5) (K := 63) (i := i1) (vs := []) (st := [aI x2]) dX2_isWord_29 mk_J0_length_8abf5 mi_J0_length_8abf5 ml_RX2_115 mp_J0_length_8abf5 rc_63 rm_X2_isWord__J0_length_8abf5 (Nat.le_of_ble_eq_true rfl) rfl (cw_mono h ?_)
  clear h
  rintro _ μ1 ⟨r2, rfl, h⟩
  show aw Γ M_X2_isWord 32 [aR 2 0, aR 63 i1, aI x2] [aI r2, aI x2] μ1 (rI Q)
  refine aw_icmp_ge (tgt := 75) dX2_isWord_32 (by decide) (fun c0 => ?_) (fun c0 => ?_)
  · replace h := h.1 c0
    refine aw_iconst (v := (1 : Int32)) dX2_isWord_75 rfl ?_
    exact aw_iret (ty := .boolean) dX2_isWord_76 rfl (by decide) ⟨_, rfl, h⟩
  · replace h := h.2 c0
    refine aw_aload_n dX2_isWord_35 rfl ?_
    refine aw_get dX2_isWord_36 rfl fk_RX2_44 (look_I rfl : look μ1 2 0 3 = aI (μ1 2 0 3)) ?_
    refine aw_iload_n dX2_isWord_39 rfl ?_
    refine aw_iadd dX2_isWord_40 ?_
    refine aw_aload_n dX2_isWord_41 rfl ?_
    refine aw_get dX2_isWord_42 rfl fk_RX2_15 (look_I rfl : look μ1 2 0 1 = aI (μ1 2 0 1)) ?_
    refine aw_icmp_ge (tgt := 75) dX2_isWord_45 (by decide) (fun c0 => ?_) (fun c0 => ?_)
    · replace h := h.1 c0
      refine aw_iconst (v := (1 : Int32)) dX2_isWord_75 rfl ?_
      exact aw_iret (ty := .boolean) dX2_isWord_76 rfl (by decide) ⟨_, rfl, h⟩
    · replace h := h.2 c0
      refine aw_aload_n dX2_isWord_48 rfl ?_
      refine aw_get dX2_isWord_49 rfl fk_RX2_11 (look_R rfl rfl : look _ 2 0 0 = aR 20 0) ?_
      refine aw_aload_n dX2_isWord_52 rfl ?_
      refine aw_get dX2_isWord_53 rfl fk_RX2_44 (look_I rfl : look μ1 2 0 3 = aI (μ1 2 0 3)) ?_
      refine aw_iload_n dX2_isWord_56 rfl ?_
      refine aw_iadd dX2_isWord_57 ?_
      refine aw_ia (j := tn ((μ1 2 0 3) + x2)) (y := μ1 20 0 (tn ((μ1 2 0 3) + x2))) dX2_isWord_58 rfl (fun _ => rfl) h.1 rfl (rfl) ?_
      replace h := h.2
      refine aw_aload_n dX2_isWord_59 rfl ?_
      refine aw_iload_n dX2_isWord_60 rfl ?_
      refine aw_callV (M' := M_J0_charAt_5068e) (K := 63) (i := i1) (vs := [aI x2]) (st := [aI (μ1 20 0 (tn ((μ1 2 0 3) + x2)))]) dX2_isWord_61 mk_J0_charAt_5068e mi_J0_charAt_5068e ml_RX2_120 mp_J0_charAt_5068e rc_63 rm_X2_isWord__J0_charAt_5068e (Nat.le_of_ble_eq_true rfl) rfl (cw_mono h ?_)
      clear h
      rintro _ μ3 ⟨r4, rfl, h⟩
      show aw Γ M_X2_isWord 64 [aR 2 0, aR 63 i1, aI x2] [aI r4, aI (μ1 20 0 (tn ((μ1 2 0 3) + x2)))] μ3 (rI Q)
      refine aw_icmp_eq (tgt := 69) dX2_isWord_64 (by decide) (fun c0 => ?_) (fun c0 => ?_)
      · replace h := h.1 c0
        refine aw_iinc (v := x2 + (1 : Int32)) (ls' := [aR 2 0, aR 63 i1, aI (x2 + (1 : Int32))]) dX2_isWord_69 rfl rfl (by decide) rfl rfl ?_
        refine aw_goto (tgt := 27) dX2_isWord_72 (by decide) ?_
        exact h
      · replace h := h.2 c0
        refine aw_iconst (v := (0 : Int32)) dX2_isWord_67 rfl ?_
        exact aw_iret (ty := .boolean) dX2_isWord_68 rfl (by decide) ⟨_, rfl, h⟩
theorem u_X2_step {Γ : cx_T} {μ : mH}  {Q : mH → Prop} (h : ((μ 2 0 1) ≤ (μ 2 0 4) → (aw Γ M_X2_step 52 [aR 2 0] [] μ (rV Q))) ∧ (¬ (μ 2 0 1) ≤ (μ 2 0 4) → (vp_in (μ 2 0 4) 200 ∧ (((μ 20 0 (tn (μ 2 0 4))) = (32 : Int32) → (aw Γ M_X2_step 0 [aR 2 0] [] (sto μ 2 0 4 ((μ 2 0 4) + (1 : Int32))) (rV Q))) ∧ (¬ (μ 20 0 (tn (μ 2 0 4))) = (32 : Int32) → (vp_in (μ 2 0 4) 200 ∧ ((¬ (μ 20 0 (tn (μ 2 0 4))) = (10 : Int32) → (aw Γ M_X2_step 52 [aR 2 0] [] μ (rV Q))) ∧ ((μ 20 0 (tn (μ 2 0 4))) = (10 : Int32) → (aw Γ M_X2_step 0 [aR 2 0] [] (sto μ 2 0 4 ((μ 2 0 4) + (1 : Int32))) (rV Q)))))))))) : cwv Γ M_X2_step [aR 2 0] μ Q := by
  refine cw_ofU (ls := [aR 2 0]) (Or.inl (by decide)) rfl (Nat.le_of_ble_eq_true rfl) rfl ?_
  refine aw_aload_n dX2_step_0 rfl ?_
  refine aw_get dX2_step_1 rfl fk_RX2_31 (look_I rfl : look μ 2 0 4 = aI (μ 2 0 4)) ?_
  refine aw_aload_n dX2_step_4 rfl ?_
  refine aw_get dX2_step_5 rfl fk_RX2_15 (look_I rfl : look μ 2 0 1 = aI (μ 2 0 1)) ?_
  refine aw_icmp_ge (tgt := 52) dX2_step_8 (by decide) (fun c0 => ?_) (fun c0 => ?_)
  · replace h := h.1 c0
    exact h
  · replace h := h.2 c0
    refine aw_aload_n dX2_step_11 rfl ?_
    refine aw_get dX2_step_12 rfl fk_RX2_11 (look_R rfl rfl : look _ 2 0 0 = aR 20 0) ?_
    refine aw_aload_n dX2_step_15 rfl ?_
    refine aw_get dX2_step_16 rfl fk_RX2_31 (look_I rfl : look μ 2 0 4 = aI (μ 2 0 4)) ?_
    refine aw_ia (j := tn (μ 2 0 4)) (y := μ 20 0 (tn (μ 2 0 4))) dX2_step_19 rfl (fun _ => rfl) h.1 rfl (rfl) ?_
    replace h := h.2
    refine aw_bipush (v := (32 : Int32)) dX2_step_20 rfl ?_
    refine aw_icmp_eq (tgt := 39) dX2_step_22 (by decide) (fun c0 => ?_) (fun c0 => ?_)
    · replace h := h.1 c0
      refine aw_aload_n dX2_step_39 rfl ?_
      refine aw_dup dX2_step_40 (fun _ => rfl) ?_
      refine aw_get dX2_step_41 rfl fk_RX2_31 (look_I rfl : look μ 2 0 4 = aI (μ 2 0 4)) ?_
      refine aw_iconst (v := (1 : Int32)) dX2_step_44 rfl ?_
      refine aw_iadd dX2_step_45 ?_
      refine aw_putI dX2_step_46 rfl fk_RX2_31 (fun r h => by cases h; rfl) rfl rfl ?_
      refine aw_goto (tgt := 0) dX2_step_49 (by decide) ?_
      exact h
    · replace h := h.2 c0
      refine aw_aload_n dX2_step_25 rfl ?_
      refine aw_get dX2_step_26 rfl fk_RX2_11 (look_R rfl rfl : look _ 2 0 0 = aR 20 0) ?_
      refine aw_aload_n dX2_step_29 rfl ?_
      refine aw_get dX2_step_30 rfl fk_RX2_31 (look_I rfl : look μ 2 0 4 = aI (μ 2 0 4)) ?_
      refine aw_ia (j := tn (μ 2 0 4)) (y := μ 20 0 (tn (μ 2 0 4))) dX2_step_33 rfl (fun _ => rfl) h.1 rfl (rfl) ?_
      replace h := h.2
      refine aw_bipush (v := (10 : Int32)) dX2_step_34 rfl ?_
      refine aw_icmp_ne (tgt := 52) dX2_step_36 (by decide) (fun c0 => ?_) (fun c0 => ?_)
      · replace h := h.1 c0
        exact h
      · replace h := h.2 c0
        refine aw_aload_n dX2_step_39 rfl ?_
        refine aw_dup dX2_step_40 (fun _ => rfl) ?_
        refine aw_get dX2_step_41 rfl fk_RX2_31 (look_I rfl : look μ 2 0 4 = aI (μ 2 0 4)) ?_
        refine aw_iconst (v := (1 : Int32)) dX2_step_44 rfl ?_
        refine aw_iadd dX2_step_45 ?_
        refine aw_putI dX2_step_46 rfl fk_RX2_31 (fun r h => by cases h; rfl) rfl rfl ?_
        refine aw_goto (tgt := 0) dX2_step_49 (by decide) ?_
        exact h
theorem u_X2_step_52 {Γ : cx_T} {μ : mH}  {Q : mH → Prop} (h : cwi Γ M_X2_kindAt [aR 2 0, aI (μ 2 0 4)] (sto μ 2 0 3 (μ 2 0 4)) (fun r2 μ1 => aw Γ M_X2_step 77 [aR 2 0] [] (sto (sto μ1 2 0 2 r2) 2 0 5 (0 : Int32)) (rV Q))) : aw Γ M_X2_step 52 [aR 2 0] [] μ (rV Q) := by
  refine aw_aload_n dX2_step_52 rfl ?_
  refine aw_aload_n dX2_step_53 rfl ?_
  refine aw_get dX2_step_54 rfl fk_RX2_31 (look_I rfl : look μ 2 0 4 = aI (μ 2 0 4)) ?_
  refine aw_putI dX2_step_57 rfl fk_RX2_44 (fun r h => by cases h; rfl) rfl rfl ?_
  refine aw_aload_n dX2_step_60 rfl ?_
  refine aw_aload_n dX2_step_61 rfl ?_
  refine aw_aload_n dX2_step_62 rfl ?_
  refine aw_get dX2_step_63 rfl fk_RX2_44 ((look_I rfl).trans (congrArg aI (sto_eq)) : look (sto μ 2 0 3 (μ 2 0 4)) 2 0 3 = aI (μ 2 0 4)) ?_
  refine aw_callV (M' := M_X2_kindAt) (K := 2) (i := 0) (vs := [aI (μ 2 0 4)]) (st := [aR 2 0]) dX2_step_66 mk_X2_kindAt mi_X2_kindAt ml_RX2_124 mp_X2_kindAt rc_2 rm_X2_step__X2_kindAt (Nat.le_of_ble_eq_true rfl) rfl (cw_mono h ?_)
  clear h
  rintro _ μ1 ⟨r2, rfl, h⟩
  show aw Γ M_X2_step 69 [aR 2 0] [aI r2, aR 2 0] μ1 (rV Q)
  refine aw_putI dX2_step_69 rfl fk_RX2_37 (fun r h => by cases h; rfl) rfl rfl ?_
  refine aw_aload_n dX2_step_72 rfl ?_
  refine aw_iconst (v := (0 : Int32)) dX2_step_73 rfl ?_
  refine aw_putI dX2_step_74 rfl fk_RX2_112 (fun r h => by cases h; rfl) rfl rfl ?_
  exact h
theorem u_X2_step_0 {Γ : cx_T} {μ : mH}  {Q : mH → Prop} (h : ((μ 2 0 1) ≤ (μ 2 0 4) → (aw Γ M_X2_step 52 [aR 2 0] [] μ (rV Q))) ∧ (¬ (μ 2 0 1) ≤ (μ 2 0 4) → (vp_in (μ 2 0 4) 200 ∧ (((μ 20 0 (tn (μ 2 0 4))) = (32 : Int32) → (aw Γ M_X2_step 0 [aR 2 0] [] (sto μ 2 0 4 ((μ 2 0 4) + (1 : Int32))) (rV Q))) ∧ (¬ (μ 20 0 (tn (μ 2 0 4))) = (32 : Int32) → (vp_in (μ 2 0 4) 200 ∧ ((¬ (μ 20 0 (tn (μ 2 0 4))) = (10 : Int32) → (aw Γ M_X2_step 52 [aR 2 0] [] μ (rV Q))) ∧ ((μ 20 0 (tn (μ 2 0 4))) = (10 : Int32) → (aw Γ M_X2_step 0 [aR 2 0] [] (sto μ 2 0 4 ((μ 2 0 4) + (1 : Int32))) (rV Q)))))))))) : aw Γ M_X2_step 0 [aR 2 0] [] μ (rV Q) := by
  refine aw_aload_n dX2_step_0 rfl ?_
  refine aw_get dX2_step_1 rfl fk_RX2_31 (look_I rfl : look μ 2 0 4 = aI (μ 2 0 4)) ?_
  refine aw_aload_n dX2_step_4 rfl ?_
  refine aw_get dX2_step_5 rfl fk_RX2_15 (look_I rfl : look μ 2 0 1 = aI (μ 2 0 1)) ?_
  refine aw_icmp_ge (tgt := 52) dX2_step_8 (by decide) (fun c0 => ?_) (fun c0 => ?_)
  · replace h := h.1 c0
    exact h
  · replace h := h.2 c0
    refine aw_aload_n dX2_step_11 rfl ?_
    refine aw_get dX2_step_12 rfl fk_RX2_11 (look_R rfl rfl : look _ 2 0 0 = aR 20 0) ?_
    refine aw_aload_n dX2_step_15 rfl ?_
    refine aw_get dX2_step_16 rfl fk_RX2_31 (look_I rfl : look μ 2 0 4 = aI (μ 2 0 4)) ?_
    refine aw_ia (j := tn (μ 2 0 4)) (y := μ 20 0 (tn (μ 2 0 4))) dX2_step_19 rfl (fun _ => rfl) h.1 rfl (rfl) ?_
    replace h := h.2
    refine aw_bipush (v := (32 : Int32)) dX2_step_20 rfl ?_
    refine aw_icmp_eq (tgt := 39) dX2_step_22 (by decide) (fun c0 => ?_) (fun c0 => ?_)
    · replace h := h.1 c0
      refine aw_aload_n dX2_step_39 rfl ?_
      refine aw_dup dX2_step_40 (fun _ => rfl) ?_
      refine aw_get dX2_step_41 rfl fk_RX2_31 (look_I rfl : look μ 2 0 4 = aI (μ 2 0 4)) ?_
      refine aw_iconst (v := (1 : Int32)) dX2_step_44 rfl ?_
      refine aw_iadd dX2_step_45 ?_
      refine aw_putI dX2_step_46 rfl fk_RX2_31 (fun r h => by cases h; rfl) rfl rfl ?_
      refine aw_goto (tgt := 0) dX2_step_49 (by decide) ?_
      exact h
    · replace h := h.2 c0
      refine aw_aload_n dX2_step_25 rfl ?_
      refine aw_get dX2_step_26 rfl fk_RX2_11 (look_R rfl rfl : look _ 2 0 0 = aR 20 0) ?_
      refine aw_aload_n dX2_step_29 rfl ?_
      refine aw_get dX2_step_30 rfl fk_RX2_31 (look_I rfl : look μ 2 0 4 = aI (μ 2 0 4)) ?_
      refine aw_ia (j := tn (μ 2 0 4)) (y := μ 20 0 (tn (μ 2 0 4))) dX2_step_33 rfl (fun _ => rfl) h.1 rfl (rfl) ?_
      replace h := h.2
      refine aw_bipush (v := (10 : Int32)) dX2_step_34 rfl ?_
      refine aw_icmp_ne (tgt := 52) dX2_step_36 (by decide) (fun c0 => ?_) (fun c0 => ?_)
      · replace h := h.1 c0
        exact h
      · replace h := h.2 c0
        refine aw_aload_n dX2_step_39 rfl ?_
        refine aw_dup dX2_step_40 (fun _ => rfl) ?_
        refine aw_get dX2_step_41 rfl fk_RX2_31 (look_I rfl : look μ 2 0 4 = aI (μ 2 0 4)) ?_
        refine aw_iconst (v := (1 : Int32)) dX2_step_44 rfl ?_
        refine aw_iadd dX2_step_45 ?_
        refine aw_putI dX2_step_46 rfl fk_RX2_31 (fun r h => by cases h; rfl) rfl rfl ?_
        refine aw_goto (tgt := 0) dX2_step_49 (by decide) ?_
        exact h
theorem u_X2_step_77 {Γ : cx_T} {μ : mH}  {Q : mH → Prop} (h : ((μ 2 0 1) ≤ (μ 2 0 4) → (Q μ)) ∧ (¬ (μ 2 0 1) ≤ (μ 2 0 4) → (((μ 2 0 4) = (μ 2 0 3) → (aw Γ M_X2_step 121 [aR 2 0] [] μ (rV Q))) ∧ (¬ (μ 2 0 4) = (μ 2 0 3) → (cwi Γ M_X2_isLong [aR 2 0] μ (fun r2 μ1 => (r2 = 0 → (Q μ1)) ∧ (¬ r2 = 0 → (cwi Γ M_X2_kindAt [aR 2 0, aI (μ1 2 0 4)] μ1 (fun r4 μ3 => (¬ r4 = (μ3 2 0 2) → (Q μ3)) ∧ (r4 = (μ3 2 0 2) → (aw Γ M_X2_step 121 [aR 2 0] [] μ3 (rV Q)))))))))))) : aw Γ M_X2_step 77 [aR 2 0] [] μ (rV Q) := by
  refine aw_aload_n dX2_step_77 rfl ?_
  refine aw_get dX2_step_78 rfl fk_RX2_31 (look_I rfl : look μ 2 0 4 = aI (μ 2 0 4)) ?_
  refine aw_aload_n dX2_step_81 rfl ?_
  refine aw_get dX2_step_82 rfl fk_RX2_15 (look_I rfl : look μ 2 0 1 = aI (μ 2 0 1)) ?_
  refine aw_icmp_ge (tgt := 171) dX2_step_85 (by decide) (fun c0 => ?_) (fun c0 => ?_)
  · replace h := h.1 c0
    exact aw_vret dX2_step_171 rfl h
  · replace h := h.2 c0
    refine aw_aload_n dX2_step_88 rfl ?_
    refine aw_get dX2_step_89 rfl fk_RX2_31 (look_I rfl : look μ 2 0 4 = aI (μ 2 0 4)) ?_
    refine aw_aload_n dX2_step_92 rfl ?_
    refine aw_get dX2_step_93 rfl fk_RX2_44 (look_I rfl : look μ 2 0 3 = aI (μ 2 0 3)) ?_
    refine aw_icmp_eq (tgt := 121) dX2_step_96 (by decide) (fun c0 => ?_) (fun c0 => ?_)
    · replace h := h.1 c0
      exact h
    · replace h := h.2 c0
      refine aw_aload_n dX2_step_99 rfl ?_
      refine aw_callV (M' := M_X2_isLong) (K := 2) (i := 0) (vs := []) (st := []) dX2_step_100 mk_X2_isLong mi_X2_isLong ml_RX2_128 mp_X2_isLong rc_2 rm_X2_step__X2_isLong (Nat.le_of_ble_eq_true rfl) rfl (cw_mono h ?_)
      clear h
      rintro _ μ1 ⟨r2, rfl, h⟩
      show aw Γ M_X2_step 103 [aR 2 0] [aI r2] μ1 (rV Q)
      refine aw_if_eq (tgt := 171) dX2_step_103 (by decide) (fun c0 => ?_) (fun c0 => ?_)
      · replace h := h.1 c0
        exact aw_vret dX2_step_171 rfl h
      · replace h := h.2 c0
        refine aw_aload_n dX2_step_106 rfl ?_
        refine aw_aload_n dX2_step_107 rfl ?_
        refine aw_get dX2_step_108 rfl fk_RX2_31 (look_I rfl : look μ1 2 0 4 = aI (μ1 2 0 4)) ?_
        refine aw_callV (M' := M_X2_kindAt) (K := 2) (i := 0) (vs := [aI (μ1 2 0 4)]) (st := []) dX2_step_111 mk_X2_kindAt mi_X2_kindAt ml_RX2_124 mp_X2_kindAt rc_2 rm_X2_step__X2_kindAt (Nat.le_of_ble_eq_true rfl) rfl (cw_mono h ?_)
        clear h
        rintro _ μ3 ⟨r4, rfl, h⟩
        show aw Γ M_X2_step 114 [aR 2 0] [aI r4] μ3 (rV Q)
        refine aw_aload_n dX2_step_114 rfl ?_
        refine aw_get dX2_step_115 rfl fk_RX2_37 (look_I rfl : look μ3 2 0 2 = aI (μ3 2 0 2)) ?_
        refine aw_icmp_ne (tgt := 171) dX2_step_118 (by decide) (fun c0 => ?_) (fun c0 => ?_)
        · replace h := h.1 c0
          exact aw_vret dX2_step_171 rfl h
        · replace h := h.2 c0
          exact h
theorem u_X2_step_121 {Γ : cx_T} {μ : mH}  {Q : mH → Prop} (h : (¬ (μ 2 0 2) = (1 : Int32) → (aw Γ M_X2_step 77 [aR 2 0] [] (sto μ 2 0 4 ((μ 2 0 4) + (1 : Int32))) (rV Q))) ∧ ((μ 2 0 2) = (1 : Int32) → (vp_in (μ 2 0 4) 200 ∧ (cwi Γ M_J9_min_7cf53 [aI ((((μ 2 0 5) * (10 : Int32)) + (μ 20 0 (tn (μ 2 0 4)))) - (48 : Int32)), aI (1000000 : Int32)] μ (fun r2 μ1 => aw Γ M_X2_step 77 [aR 2 0] [] (sto (sto μ1 2 0 5 r2) 2 0 4 ((μ1 2 0 4) + (1 : Int32))) (rV Q)))))) : aw Γ M_X2_step 121 [aR 2 0] [] μ (rV Q) := by
  refine aw_aload_n dX2_step_121 rfl ?_
  refine aw_get dX2_step_122 rfl fk_RX2_37 (look_I rfl : look μ 2 0 2 = aI (μ 2 0 2)) ?_
  refine aw_iconst (v := (1 : Int32)) dX2_step_125 rfl ?_
  refine aw_icmp_ne (tgt := 158) dX2_step_126 (by decide) (fun c0 => ?_) (fun c0 => ?_)
  · replace h := h.1 c0
    refine aw_aload_n dX2_step_158 rfl ?_
    refine aw_dup dX2_step_159 (fun _ => rfl) ?_
    refine aw_get dX2_step_160 rfl fk_RX2_31 (look_I rfl : look μ 2 0 4 = aI (μ 2 0 4)) ?_
    refine aw_iconst (v := (1 : Int32)) dX2_step_163 rfl ?_
    refine aw_iadd dX2_step_164 ?_
    refine aw_putI dX2_step_165 rfl fk_RX2_31 (fun r h => by cases h; rfl) rfl rfl ?_
    refine aw_goto (tgt := 77) dX2_step_168 (by decide) ?_
    exact h
  · replace h := h.2 c0
    refine aw_aload_n dX2_step_129 rfl ?_
    refine aw_aload_n dX2_step_130 rfl ?_
    refine aw_get dX2_step_131 rfl fk_RX2_112 (look_I rfl : look μ 2 0 5 = aI (μ 2 0 5)) ?_
    refine aw_bipush (v := (10 : Int32)) dX2_step_134 rfl ?_
    refine aw_imul dX2_step_136 ?_
    refine aw_aload_n dX2_step_137 rfl ?_
    refine aw_get dX2_step_138 rfl fk_RX2_11 (look_R rfl rfl : look _ 2 0 0 = aR 20 0) ?_
    refine aw_aload_n dX2_step_141 rfl ?_
    refine aw_get dX2_step_142 rfl fk_RX2_31 (look_I rfl : look μ 2 0 4 = aI (μ 2 0 4)) ?_
    refine aw_ia (j := tn (μ 2 0 4)) (y := μ 20 0 (tn (μ 2 0 4))) dX2_step_145 rfl (fun _ => rfl) h.1 rfl (rfl) ?_
    replace h := h.2
    refine aw_iadd dX2_step_146 ?_
    refine aw_bipush (v := (48 : Int32)) dX2_step_147 rfl ?_
    refine aw_isub dX2_step_149 ?_
    refine aw_ldc (v := (1000000 : Int32)) dX2_step_150 kc_RX2_131 ?_
    refine aw_callS (M' := M_J9_min_7cf53) (vs := [aI ((((μ 2 0 5) * (10 : Int32)) + (μ 20 0 (tn (μ 2 0 4)))) - (48 : Int32)), aI (1000000 : Int32)]) (st := [aR 2 0]) dX2_step_152 mk_J9_min_7cf53 ms_J9_min_7cf53 ml_RX2_132 mp_J9_min_7cf53 rm_X2_step__J9_min_7cf53 (Nat.le_of_ble_eq_true rfl) rfl (cw_mono h ?_)
    clear h
    rintro _ μ1 ⟨r2, rfl, h⟩
    show aw Γ M_X2_step 155 [aR 2 0] [aI r2, aR 2 0] μ1 (rV Q)
    refine aw_putI dX2_step_155 rfl fk_RX2_112 (fun r h => by cases h; rfl) rfl rfl ?_
    refine aw_aload_n dX2_step_158 rfl ?_
    refine aw_dup dX2_step_159 (fun _ => rfl) ?_
    refine aw_get dX2_step_160 rfl fk_RX2_31 ((look_I rfl).trans (congrArg aI ((sto_s (by decide)).trans (rfl))) : look (sto μ1 2 0 5 r2) 2 0 4 = aI (μ1 2 0 4)) ?_
    refine aw_iconst (v := (1 : Int32)) dX2_step_163 rfl ?_
    refine aw_iadd dX2_step_164 ?_
    refine aw_putI dX2_step_165 rfl fk_RX2_31 (fun r h => by cases h; rfl) rfl rfl ?_
    refine aw_goto (tgt := 77) dX2_step_168 (by decide) ?_
    exact h
theorem u_X2_isLong {Γ : cx_T} {μ : mH}  {Q : Int32 → mH → Prop} (h : ((μ 2 0 2) = 0 → (Q (1 : Int32) μ)) ∧ (¬ (μ 2 0 2) = 0 → ((¬ (μ 2 0 2) = (1 : Int32) → (Q (0 : Int32) μ)) ∧ ((μ 2 0 2) = (1 : Int32) → (Q (1 : Int32) μ))))) : cwi Γ M_X2_isLong [aR 2 0] μ Q := by
  refine cw_ofU (ls := [aR 2 0]) (Or.inl (by decide)) rfl (Nat.le_of_ble_eq_true rfl) rfl ?_
  refine aw_aload_n dX2_isLong_0 rfl ?_
  refine aw_get dX2_isLong_1 rfl fk_RX2_37 (look_I rfl : look μ 2 0 2 = aI (μ 2 0 2)) ?_
  refine aw_if_eq (tgt := 15) dX2_isLong_4 (by decide) (fun c0 => ?_) (fun c0 => ?_)
  · replace h := h.1 c0
    refine aw_iconst (v := (1 : Int32)) dX2_isLong_15 rfl ?_
    refine aw_goto (tgt := 20) dX2_isLong_16 (by decide) ?_
    exact aw_iret (ty := .boolean) dX2_isLong_20 rfl (by decide) ⟨_, rfl, h⟩
  · replace h := h.2 c0
    refine aw_aload_n dX2_isLong_7 rfl ?_
    refine aw_get dX2_isLong_8 rfl fk_RX2_37 (look_I rfl : look μ 2 0 2 = aI (μ 2 0 2)) ?_
    refine aw_iconst (v := (1 : Int32)) dX2_isLong_11 rfl ?_
    refine aw_icmp_ne (tgt := 19) dX2_isLong_12 (by decide) (fun c0 => ?_) (fun c0 => ?_)
    · replace h := h.1 c0
      refine aw_iconst (v := (0 : Int32)) dX2_isLong_19 rfl ?_
      exact aw_iret (ty := .boolean) dX2_isLong_20 rfl (by decide) ⟨_, rfl, h⟩
    · replace h := h.2 c0
      refine aw_iconst (v := (1 : Int32)) dX2_isLong_15 rfl ?_
      refine aw_goto (tgt := 20) dX2_isLong_16 (by decide) ?_
      exact aw_iret (ty := .boolean) dX2_isLong_20 rfl (by decide) ⟨_, rfl, h⟩
theorem u_X2_kindAt {Γ : cx_T} {μ : mH} {x1 : Int32} {Q : Int32 → mH → Prop} (h : (x1 < 0 → (Q (3 : Int32) μ)) ∧ (¬ x1 < 0 → ((x1 < (μ 2 0 1) → (vp_in x1 200 ∧ (((μ 20 0 (tn x1)) < (97 : Int32) → (aw Γ M_X2_kindAt 35 [aX, aX, aI (μ 20 0 (tn x1))] [] μ (rI Q))) ∧ (¬ (μ 20 0 (tn x1)) < (97 : Int32) → (((122 : Int32) < (μ 20 0 (tn x1)) → (aw Γ M_X2_kindAt 35 [aX, aX, aI (μ 20 0 (tn x1))] [] μ (rI Q))) ∧ (¬ (122 : Int32) < (μ 20 0 (tn x1)) → (Q (0 : Int32) μ))))))) ∧ (¬ x1 < (μ 2 0 1) → (Q (3 : Int32) μ))))) : cwi Γ M_X2_kindAt [aR 2 0, aI x1] μ Q := by
  refine cw_ofU (ls := [aR 2 0, aI x1, aX]) (Or.inl (by decide)) rfl (Nat.le_of_ble_eq_true rfl) rfl ?_
  refine aw_iload_n dX2_kindAt_0 rfl ?_
  refine aw_if_lt (tgt := 12) dX2_kindAt_1 (by decide) (fun c0 => ?_) (fun c0 => ?_)
  · replace h := h.1 c0
    refine aw_iconst (v := (3 : Int32)) dX2_kindAt_12 rfl ?_
    exact aw_iret dX2_kindAt_13 rfl rfl ⟨_, rfl, h⟩
  · replace h := h.2 c0
    refine aw_iload_n dX2_kindAt_4 rfl ?_
    refine aw_aload_n dX2_kindAt_5 rfl ?_
    refine aw_get dX2_kindAt_6 rfl fk_RX2_15 (look_I rfl : look μ 2 0 1 = aI (μ 2 0 1)) ?_
    refine aw_icmp_lt (tgt := 14) dX2_kindAt_9 (by decide) (fun c0 => ?_) (fun c0 => ?_)
    · replace h := h.1 c0
      refine aw_aload_n dX2_kindAt_14 rfl ?_
      refine aw_get dX2_kindAt_15 rfl fk_RX2_11 (look_R rfl rfl : look _ 2 0 0 = aR 20 0) ?_
      refine aw_iload_n dX2_kindAt_18 rfl ?_
      refine aw_ia (j := tn x1) (y := μ 20 0 (tn x1)) dX2_kindAt_19 rfl (fun _ => rfl) h.1 rfl (rfl) ?_
      replace h := h.2
      refine aw_istore_n (ls' := [aR 2 0, aI x1, aI (μ 20 0 (tn x1))]) dX2_kindAt_20 (by decide) rfl rfl ?_
      refine aw_iload_n dX2_kindAt_21 rfl ?_
      refine aw_bipush (v := (97 : Int32)) dX2_kindAt_22 rfl ?_
      refine aw_icmp_lt (tgt := 35) dX2_kindAt_24 (by decide) (fun c0 => ?_) (fun c0 => ?_)
      · replace h := h.1 c0
        exact aw_wkk h (wk_x (wk_x (wk_e wk_n)))
      · replace h := h.2 c0
        refine aw_iload_n dX2_kindAt_27 rfl ?_
        refine aw_bipush (v := (122 : Int32)) dX2_kindAt_28 rfl ?_
        refine aw_icmp_gt (tgt := 35) dX2_kindAt_30 (by decide) (fun c0 => ?_) (fun c0 => ?_)
        · replace h := h.1 c0
          exact aw_wkk h (wk_x (wk_x (wk_e wk_n)))
        · replace h := h.2 c0
          refine aw_iconst (v := (0 : Int32)) dX2_kindAt_33 rfl ?_
          exact aw_iret dX2_kindAt_34 rfl rfl ⟨_, rfl, h⟩
    · replace h := h.2 c0
      refine aw_iconst (v := (3 : Int32)) dX2_kindAt_12 rfl ?_
      exact aw_iret dX2_kindAt_13 rfl rfl ⟨_, rfl, h⟩
theorem u_X2_kindAt_35 {Γ : cx_T} {μ : mH} {x2 : Int32} {Q : Int32 → mH → Prop} (h : (x2 < (48 : Int32) → ((¬ x2 = (59 : Int32) → (Q (4 : Int32) μ)) ∧ (x2 = (59 : Int32) → (Q (2 : Int32) μ)))) ∧ (¬ x2 < (48 : Int32) → (((57 : Int32) < x2 → ((¬ x2 = (59 : Int32) → (Q (4 : Int32) μ)) ∧ (x2 = (59 : Int32) → (Q (2 : Int32) μ)))) ∧ (¬ (57 : Int32) < x2 → (Q (1 : Int32) μ))))) : aw Γ M_X2_kindAt 35 [aX, aX, aI x2] [] μ (rI Q) := by
  refine aw_iload_n dX2_kindAt_35 rfl ?_
  refine aw_bipush (v := (48 : Int32)) dX2_kindAt_36 rfl ?_
  refine aw_icmp_lt (tgt := 49) dX2_kindAt_38 (by decide) (fun c0 => ?_) (fun c0 => ?_)
  · replace h := h.1 c0
    refine aw_iload_n dX2_kindAt_49 rfl ?_
    refine aw_bipush (v := (59 : Int32)) dX2_kindAt_50 rfl ?_
    refine aw_icmp_ne (tgt := 59) dX2_kindAt_52 (by decide) (fun c0 => ?_) (fun c0 => ?_)
    · replace h := h.1 c0
      refine aw_iconst (v := (4 : Int32)) dX2_kindAt_59 rfl ?_
      exact aw_iret dX2_kindAt_60 rfl rfl ⟨_, rfl, h⟩
    · replace h := h.2 c0
      refine aw_iconst (v := (2 : Int32)) dX2_kindAt_55 rfl ?_
      refine aw_goto (tgt := 60) dX2_kindAt_56 (by decide) ?_
      exact aw_iret dX2_kindAt_60 rfl rfl ⟨_, rfl, h⟩
  · replace h := h.2 c0
    refine aw_iload_n dX2_kindAt_41 rfl ?_
    refine aw_bipush (v := (57 : Int32)) dX2_kindAt_42 rfl ?_
    refine aw_icmp_gt (tgt := 49) dX2_kindAt_44 (by decide) (fun c0 => ?_) (fun c0 => ?_)
    · replace h := h.1 c0
      refine aw_iload_n dX2_kindAt_49 rfl ?_
      refine aw_bipush (v := (59 : Int32)) dX2_kindAt_50 rfl ?_
      refine aw_icmp_ne (tgt := 59) dX2_kindAt_52 (by decide) (fun c0 => ?_) (fun c0 => ?_)
      · replace h := h.1 c0
        refine aw_iconst (v := (4 : Int32)) dX2_kindAt_59 rfl ?_
        exact aw_iret dX2_kindAt_60 rfl rfl ⟨_, rfl, h⟩
      · replace h := h.2 c0
        refine aw_iconst (v := (2 : Int32)) dX2_kindAt_55 rfl ?_
        refine aw_goto (tgt := 60) dX2_kindAt_56 (by decide) ?_
        exact aw_iret dX2_kindAt_60 rfl rfl ⟨_, rfl, h⟩
    · replace h := h.2 c0
      refine aw_iconst (v := (1 : Int32)) dX2_kindAt_47 rfl ?_
      exact aw_iret dX2_kindAt_48 rfl rfl ⟨_, rfl, h⟩
