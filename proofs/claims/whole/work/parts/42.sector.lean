theorem u_X1_search {Γ : cx_T} {μ : mH} {i0 : Nat} {Q : mH → Prop} (h : aw Γ M_X1_search 24 [aR 1 i0, aR 5 0, aR 4 1, aI (((4 : Int32) + (μ 4 1 4)) * (16 : Int32)), aI (0 : Int32), aI (0 : Int32), aI (0 : Int32)] [] (sto μ 1 i0 1 (0 : Int32)) (rV Q)) : cwv Γ M_X1_search [aR 1 i0, aR 5 0, aR 4 1] μ Q := by
  refine cw_ofU (ls := [aR 1 i0, aR 5 0, aR 4 1, aX, aX, aX, aX]) (Or.inl (by decide)) rfl (Nat.le_of_ble_eq_true rfl) rfl ?_
  refine aw_aload_n dX1_search_0 rfl ?_
  refine aw_iconst (v := (0 : Int32)) dX1_search_1 rfl ?_
  refine aw_putI dX1_search_2 rfl fk_RX1_18 (fun r h => by cases h; rfl) rfl rfl ?_
  refine aw_iconst (v := (4 : Int32)) dX1_search_5 rfl ?_
  refine aw_aload_n dX1_search_6 rfl ?_
  refine aw_get dX1_search_7 rfl fk_RX1_22 ((look_I rfl).trans (congrArg aI ((sto_K (by decide)).trans (rfl))) : look (sto μ 1 i0 1 (0 : Int32)) 4 1 4 = aI (μ 4 1 4)) ?_
  refine aw_iadd dX1_search_10 ?_
  refine aw_bipush (v := (16 : Int32)) dX1_search_11 rfl ?_
  refine aw_imul dX1_search_13 ?_
  refine aw_istore_n (ls' := [aR 1 i0, aR 5 0, aR 4 1, aI (((4 : Int32) + (μ 4 1 4)) * (16 : Int32)), aX, aX, aX]) dX1_search_14 (by decide) rfl rfl ?_
  refine aw_iconst (v := (0 : Int32)) dX1_search_15 rfl ?_
  refine aw_istore (ls' := [aR 1 i0, aR 5 0, aR 4 1, aI (((4 : Int32) + (μ 4 1 4)) * (16 : Int32)), aI (0 : Int32), aX, aX]) dX1_search_16 (by decide) rfl rfl ?_
  refine aw_iconst (v := (0 : Int32)) dX1_search_18 rfl ?_
  refine aw_istore (ls' := [aR 1 i0, aR 5 0, aR 4 1, aI (((4 : Int32) + (μ 4 1 4)) * (16 : Int32)), aI (0 : Int32), aI (0 : Int32), aX]) dX1_search_19 (by decide) rfl rfl ?_
  refine aw_iconst (v := (0 : Int32)) dX1_search_21 rfl ?_
  refine aw_istore (ls' := [aR 1 i0, aR 5 0, aR 4 1, aI (((4 : Int32) + (μ 4 1 4)) * (16 : Int32)), aI (0 : Int32), aI (0 : Int32), aI (0 : Int32)]) dX1_search_22 (by decide) rfl rfl ?_
  exact h
theorem u_X1_search_24 {Γ : cx_T} {μ : mH} {i0 : Nat} {x3 : Int32} {x4 : Int32} {x5 : Int32} {x6 : Int32} {Q : mH → Prop} (h : ((μ 5 0 1) ≤ (x6 + x3) → (Q μ)) ∧ (¬ (μ 5 0 1) ≤ (x6 + x3) → (((8 : Int32) ≤ (μ 1 i0 1) → (Q μ)) ∧ (¬ (8 : Int32) ≤ (μ 1 i0 1) → (vp_in x6 2560 ∧ (((x5 + (1 : Int32)) < (16 : Int32) → (aw Γ M_X1_search 24 [aR 1 i0, aR 5 0, aR 4 1, aI x3, aI (((x4 <<< ((1 : Int32) &&& 31)) ||| (μ 22 0 (tn x6))) &&& (65535 : Int32)), aI (x5 + (1 : Int32)), aI (x6 + (1 : Int32))] [] μ (rV Q))) ∧ (¬ (x5 + (1 : Int32)) < (16 : Int32) → ((¬ (((x4 <<< ((1 : Int32) &&& 31)) ||| (μ 22 0 (tn x6))) &&& (65535 : Int32)) = (μ 4 1 3) → (aw Γ M_X1_search 24 [aR 1 i0, aR 5 0, aR 4 1, aI x3, aI (((x4 <<< ((1 : Int32) &&& 31)) ||| (μ 22 0 (tn x6))) &&& (65535 : Int32)), aI (x5 + (1 : Int32)), aI (x6 + (1 : Int32))] [] μ (rV Q))) ∧ ((((x4 <<< ((1 : Int32) &&& 31)) ||| (μ 22 0 (tn x6))) &&& (65535 : Int32)) = (μ 4 1 3) → (vp_in (μ 1 i0 1) 8 ∧ (cwv Γ M_X7_take [aR 7 (8 * i0 + (tn (μ 1 i0 1))), aR 5 0, aI (x6 + (1 : Int32)), aR 4 1] μ (fun μ1 => aw Γ M_X1_search 24 [aR 1 i0, aR 5 0, aR 4 1, aI x3, aI (((x4 <<< ((1 : Int32) &&& 31)) ||| (μ 22 0 (tn x6))) &&& (65535 : Int32)), aI (0 : Int32), aI (x6 + x3 + (1 : Int32))] [] (sto μ1 1 i0 1 ((μ1 1 i0 1) + (1 : Int32))) (rV Q))))))))))))) : aw Γ M_X1_search 24 [aR 1 i0, aR 5 0, aR 4 1, aI x3, aI x4, aI x5, aI x6] [] μ (rV Q) := by
  refine aw_iload dX1_search_24 rfl ?_
  refine aw_iload_n dX1_search_26 rfl ?_
  refine aw_iadd dX1_search_27 ?_
  refine aw_aload_n dX1_search_28 rfl ?_
  refine aw_get dX1_search_29 rfl fk_RX1_25 (look_I rfl : look μ 5 0 1 = aI (μ 5 0 1)) ?_
  refine aw_icmp_ge (tgt := 123) dX1_search_32 (by decide) (fun c0 => ?_) (fun c0 => ?_)
  · replace h := h.1 c0
    exact aw_vret dX1_search_123 rfl h
  · replace h := h.2 c0
    refine aw_aload_n dX1_search_35 rfl ?_
    refine aw_get dX1_search_36 rfl fk_RX1_18 (look_I rfl : look μ 1 i0 1 = aI (μ 1 i0 1)) ?_
    refine aw_bipush (v := (8 : Int32)) dX1_search_39 rfl ?_
    refine aw_icmp_ge (tgt := 123) dX1_search_41 (by decide) (fun c0 => ?_) (fun c0 => ?_)
    · replace h := h.1 c0
      exact aw_vret dX1_search_123 rfl h
    · replace h := h.2 c0
      refine aw_iload dX1_search_44 rfl ?_
      refine aw_iconst (v := (1 : Int32)) dX1_search_46 rfl ?_
      refine aw_ishl dX1_search_47 ?_
      refine aw_aload_n dX1_search_48 rfl ?_
      refine aw_get dX1_search_49 rfl fk_RX1_28 (look_R rfl rfl : look _ 5 0 0 = aR 22 0) ?_
      refine aw_iload dX1_search_52 rfl ?_
      refine aw_ia (j := tn x6) (y := μ 22 0 (tn x6)) dX1_search_54 rfl (fun _ => rfl) h.1 rfl (rfl) ?_
      replace h := h.2
      refine aw_ior dX1_search_55 ?_
      refine aw_ldc (v := (65535 : Int32)) dX1_search_56 kc_RX1_32 ?_
      refine aw_iand dX1_search_58 ?_
      refine aw_istore (ls' := [aR 1 i0, aR 5 0, aR 4 1, aI x3, aI (((x4 <<< ((1 : Int32) &&& 31)) ||| (μ 22 0 (tn x6))) &&& (65535 : Int32)), aI x5, aI x6]) dX1_search_59 (by decide) rfl rfl ?_
      refine aw_iinc (v := x5 + (1 : Int32)) (ls' := [aR 1 i0, aR 5 0, aR 4 1, aI x3, aI (((x4 <<< ((1 : Int32) &&& 31)) ||| (μ 22 0 (tn x6))) &&& (65535 : Int32)), aI (x5 + (1 : Int32)), aI x6]) dX1_search_61 rfl rfl (by decide) rfl rfl ?_
      refine aw_iload dX1_search_64 rfl ?_
      refine aw_bipush (v := (16 : Int32)) dX1_search_66 rfl ?_
      refine aw_icmp_lt (tgt := 117) dX1_search_68 (by decide) (fun c0 => ?_) (fun c0 => ?_)
      · replace h := h.1 c0
        refine aw_iinc (v := x6 + (1 : Int32)) (ls' := [aR 1 i0, aR 5 0, aR 4 1, aI x3, aI (((x4 <<< ((1 : Int32) &&& 31)) ||| (μ 22 0 (tn x6))) &&& (65535 : Int32)), aI (x5 + (1 : Int32)), aI (x6 + (1 : Int32))]) dX1_search_117 rfl rfl (by decide) rfl rfl ?_
        refine aw_goto (tgt := 24) dX1_search_120 (by decide) ?_
        exact h
      · replace h := h.2 c0
        refine aw_iload dX1_search_71 rfl ?_
        refine aw_aload_n dX1_search_73 rfl ?_
        refine aw_get dX1_search_74 rfl fk_RX1_33 (look_I rfl : look μ 4 1 3 = aI (μ 4 1 3)) ?_
        refine aw_icmp_ne (tgt := 117) dX1_search_77 (by decide) (fun c0 => ?_) (fun c0 => ?_)
        · replace h := h.1 c0
          refine aw_iinc (v := x6 + (1 : Int32)) (ls' := [aR 1 i0, aR 5 0, aR 4 1, aI x3, aI (((x4 <<< ((1 : Int32) &&& 31)) ||| (μ 22 0 (tn x6))) &&& (65535 : Int32)), aI (x5 + (1 : Int32)), aI (x6 + (1 : Int32))]) dX1_search_117 rfl rfl (by decide) rfl rfl ?_
          refine aw_goto (tgt := 24) dX1_search_120 (by decide) ?_
          exact h
        · replace h := h.2 c0
          refine aw_aload_n dX1_search_80 rfl ?_
          refine aw_get dX1_search_81 rfl fk_RX1_11 (look_R rfl rfl : look _ 1 i0 0 = aR 23 i0) ?_
          refine aw_aload_n dX1_search_84 rfl ?_
          refine aw_get dX1_search_85 rfl fk_RX1_18 (look_I rfl : look μ 1 i0 1 = aI (μ 1 i0 1)) ?_
          refine aw_aald dX1_search_88 rfl rfl h.1 ((congrArg (look _ 23 i0) (show Int32.toNatClampNeg (μ 1 i0 1) = tn (μ 1 i0 1) from rfl)).trans (look_R rfl rfl) : look _ 23 i0 _ = aR 7 (8 * i0 + (tn (μ 1 i0 1)))) ?_
          replace h := h.2
          refine aw_aload_n dX1_search_89 rfl ?_
          refine aw_iload dX1_search_90 rfl ?_
          refine aw_iconst (v := (1 : Int32)) dX1_search_92 rfl ?_
          refine aw_iadd dX1_search_93 ?_
          refine aw_aload_n dX1_search_94 rfl ?_
          refine aw_callV (M' := M_X7_take) (K := 7) (i := (8 * i0 + (tn (μ 1 i0 1)))) (vs := [aR 5 0, aI (x6 + (1 : Int32)), aR 4 1]) (st := []) dX1_search_95 mk_X7_take mi_X7_take ml_RX1_36 mp_X7_take rc_7 rm_X1_search__X7_take (Nat.le_of_ble_eq_true rfl) rfl (cw_mono h ?_)
          clear h
          intro _ μ1 h
          show aw Γ M_X1_search 98 [aR 1 i0, aR 5 0, aR 4 1, aI x3, aI (((x4 <<< ((1 : Int32) &&& 31)) ||| (μ 22 0 (tn x6))) &&& (65535 : Int32)), aI (x5 + (1 : Int32)), aI x6] [] μ1 (rV Q)
          refine aw_aload_n dX1_search_98 rfl ?_
          refine aw_dup dX1_search_99 (fun _ => rfl) ?_
          refine aw_get dX1_search_100 rfl fk_RX1_18 (look_I rfl : look μ1 1 i0 1 = aI (μ1 1 i0 1)) ?_
          refine aw_iconst (v := (1 : Int32)) dX1_search_103 rfl ?_
          refine aw_iadd dX1_search_104 ?_
          refine aw_putI dX1_search_105 rfl fk_RX1_18 (fun r h => by cases h; rfl) rfl rfl ?_
          refine aw_iload dX1_search_108 rfl ?_
          refine aw_iload_n dX1_search_110 rfl ?_
          refine aw_iadd dX1_search_111 ?_
          refine aw_istore (ls' := [aR 1 i0, aR 5 0, aR 4 1, aI x3, aI (((x4 <<< ((1 : Int32) &&& 31)) ||| (μ 22 0 (tn x6))) &&& (65535 : Int32)), aI (x5 + (1 : Int32)), aI (x6 + x3)]) dX1_search_112 (by decide) rfl rfl ?_
          refine aw_iconst (v := (0 : Int32)) dX1_search_114 rfl ?_
          refine aw_istore (ls' := [aR 1 i0, aR 5 0, aR 4 1, aI x3, aI (((x4 <<< ((1 : Int32) &&& 31)) ||| (μ 22 0 (tn x6))) &&& (65535 : Int32)), aI (0 : Int32), aI (x6 + x3)]) dX1_search_115 (by decide) rfl rfl ?_
          refine aw_iinc (v := x6 + x3 + (1 : Int32)) (ls' := [aR 1 i0, aR 5 0, aR 4 1, aI x3, aI (((x4 <<< ((1 : Int32) &&& 31)) ||| (μ 22 0 (tn x6))) &&& (65535 : Int32)), aI (0 : Int32), aI (x6 + x3 + (1 : Int32))]) dX1_search_117 rfl rfl (by decide) rfl rfl ?_
          refine aw_goto (tgt := 24) dX1_search_120 (by decide) ?_
          exact h
theorem u_X1_rightOnes {Γ : cx_T} {μ : mH} {i0 : Nat} {Q : Int32 → mH → Prop} (h : aw Γ M_X1_rightOnes 4 [aR 1 i0, aI (0 : Int32), aI (0 : Int32)] [] μ (rI Q)) : cwi Γ M_X1_rightOnes [aR 1 i0] μ Q := by
  refine cw_ofU (ls := [aR 1 i0, aX, aX]) (Or.inl (by decide)) rfl (Nat.le_of_ble_eq_true rfl) rfl ?_
  refine aw_iconst (v := (0 : Int32)) dX1_rightOnes_0 rfl ?_
  refine aw_istore_n (ls' := [aR 1 i0, aI (0 : Int32), aX]) dX1_rightOnes_1 (by decide) rfl rfl ?_
  refine aw_iconst (v := (0 : Int32)) dX1_rightOnes_2 rfl ?_
  refine aw_istore_n (ls' := [aR 1 i0, aI (0 : Int32), aI (0 : Int32)]) dX1_rightOnes_3 (by decide) rfl rfl ?_
  exact h
theorem u_X1_rightOnes_4 {Γ : cx_T} {μ : mH} {i0 : Nat} {x1 : Int32} {x2 : Int32} {Q : Int32 → mH → Prop} (h : ((μ 1 i0 1) ≤ x2 → (Q x1 μ)) ∧ (¬ (μ 1 i0 1) ≤ x2 → (vp_in x2 8 ∧ (cwi Γ M_X7_isRight [aR 7 (8 * i0 + (tn x2))] μ (fun r2 μ1 => (r2 = 0 → (aw Γ M_X1_rightOnes 4 [aR 1 i0, aI x1, aI (x2 + (1 : Int32))] [] μ1 (rI Q))) ∧ (¬ r2 = 0 → (aw Γ M_X1_rightOnes 4 [aR 1 i0, aI (x1 + (1 : Int32)), aI (x2 + (1 : Int32))] [] μ1 (rI Q)))))))) : aw Γ M_X1_rightOnes 4 [aR 1 i0, aI x1, aI x2] [] μ (rI Q) := by
  refine aw_iload_n dX1_rightOnes_4 rfl ?_
  refine aw_aload_n dX1_rightOnes_5 rfl ?_
  refine aw_get dX1_rightOnes_6 rfl fk_RX1_18 (look_I rfl : look μ 1 i0 1 = aI (μ 1 i0 1)) ?_
  refine aw_icmp_ge (tgt := 33) dX1_rightOnes_9 (by decide) (fun c0 => ?_) (fun c0 => ?_)
  · replace h := h.1 c0
    refine aw_iload_n dX1_rightOnes_33 rfl ?_
    exact aw_iret dX1_rightOnes_34 rfl rfl ⟨_, rfl, h⟩
  · replace h := h.2 c0
    refine aw_aload_n dX1_rightOnes_12 rfl ?_
    refine aw_get dX1_rightOnes_13 rfl fk_RX1_11 (look_R rfl rfl : look _ 1 i0 0 = aR 23 i0) ?_
    refine aw_iload_n dX1_rightOnes_16 rfl ?_
    refine aw_aald dX1_rightOnes_17 rfl rfl h.1 ((congrArg (look _ 23 i0) (show Int32.toNatClampNeg x2 = tn x2 from rfl)).trans (look_R rfl rfl) : look _ 23 i0 _ = aR 7 (8 * i0 + (tn x2))) ?_
    replace h := h.2
    refine aw_callV (M' := M_X7_isRight) (K := 7) (i := (8 * i0 + (tn x2))) (vs := []) (st := []) dX1_rightOnes_18 mk_X7_isRight mi_X7_isRight ml_RX1_40 mp_X7_isRight rc_7 rm_X1_rightOnes__X7_isRight (Nat.le_of_ble_eq_true rfl) rfl (cw_mono h ?_)
    clear h
    rintro _ μ1 ⟨r2, rfl, h⟩
    show aw Γ M_X1_rightOnes 21 [aR 1 i0, aI x1, aI x2] [aI r2] μ1 (rI Q)
    refine aw_if_eq (tgt := 27) dX1_rightOnes_21 (by decide) (fun c0 => ?_) (fun c0 => ?_)
    · replace h := h.1 c0
      refine aw_iinc (v := x2 + (1 : Int32)) (ls' := [aR 1 i0, aI x1, aI (x2 + (1 : Int32))]) dX1_rightOnes_27 rfl rfl (by decide) rfl rfl ?_
      refine aw_goto (tgt := 4) dX1_rightOnes_30 (by decide) ?_
      exact h
    · replace h := h.2 c0
      refine aw_iinc (v := x1 + (1 : Int32)) (ls' := [aR 1 i0, aI (x1 + (1 : Int32)), aI x2]) dX1_rightOnes_24 rfl rfl (by decide) rfl rfl ?_
      refine aw_iinc (v := x2 + (1 : Int32)) (ls' := [aR 1 i0, aI (x1 + (1 : Int32)), aI (x2 + (1 : Int32))]) dX1_rightOnes_27 rfl rfl (by decide) rfl rfl ?_
      refine aw_goto (tgt := 4) dX1_rightOnes_30 (by decide) ?_
      exact h
theorem u_X1_slipsOfRight {Γ : cx_T} {μ : mH} {i0 : Nat} {Q : Int32 → mH → Prop} (h : aw Γ M_X1_slipsOfRight 4 [aR 1 i0, aI (0 : Int32), aI (0 : Int32)] [] μ (rI Q)) : cwi Γ M_X1_slipsOfRight [aR 1 i0] μ Q := by
  refine cw_ofU (ls := [aR 1 i0, aX, aX]) (Or.inl (by decide)) rfl (Nat.le_of_ble_eq_true rfl) rfl ?_
  refine aw_iconst (v := (0 : Int32)) dX1_slipsOfRight_0 rfl ?_
  refine aw_istore_n (ls' := [aR 1 i0, aI (0 : Int32), aX]) dX1_slipsOfRight_1 (by decide) rfl rfl ?_
  refine aw_iconst (v := (0 : Int32)) dX1_slipsOfRight_2 rfl ?_
  refine aw_istore_n (ls' := [aR 1 i0, aI (0 : Int32), aI (0 : Int32)]) dX1_slipsOfRight_3 (by decide) rfl rfl ?_
  exact h
theorem u_X1_slipsOfRight_4 {Γ : cx_T} {μ : mH} {i0 : Nat} {x1 : Int32} {x2 : Int32} {Q : Int32 → mH → Prop} (h : ((μ 1 i0 1) ≤ x2 → (Q x1 μ)) ∧ (¬ (μ 1 i0 1) ≤ x2 → (vp_in x2 8 ∧ (cwi Γ M_X7_isRight [aR 7 (8 * i0 + (tn x2))] μ (fun r2 μ1 => (r2 = 0 → (aw Γ M_X1_slipsOfRight 4 [aR 1 i0, aI x1, aI (x2 + (1 : Int32))] [] μ1 (rI Q))) ∧ (¬ r2 = 0 → (vp_in x2 8 ∧ (aw Γ M_X1_slipsOfRight 4 [aR 1 i0, aI (x1 + (μ1 7 (8 * i0 + (tn x2)) 5)), aI (x2 + (1 : Int32))] [] μ1 (rI Q))))))))) : aw Γ M_X1_slipsOfRight 4 [aR 1 i0, aI x1, aI x2] [] μ (rI Q) := by
  refine aw_iload_n dX1_slipsOfRight_4 rfl ?_
  refine aw_aload_n dX1_slipsOfRight_5 rfl ?_
  refine aw_get dX1_slipsOfRight_6 rfl fk_RX1_18 (look_I rfl : look μ 1 i0 1 = aI (μ 1 i0 1)) ?_
  refine aw_icmp_ge (tgt := 42) dX1_slipsOfRight_9 (by decide) (fun c0 => ?_) (fun c0 => ?_)
  · replace h := h.1 c0
    refine aw_iload_n dX1_slipsOfRight_42 rfl ?_
    exact aw_iret dX1_slipsOfRight_43 rfl rfl ⟨_, rfl, h⟩
  · replace h := h.2 c0
    refine aw_aload_n dX1_slipsOfRight_12 rfl ?_
    refine aw_get dX1_slipsOfRight_13 rfl fk_RX1_11 (look_R rfl rfl : look _ 1 i0 0 = aR 23 i0) ?_
    refine aw_iload_n dX1_slipsOfRight_16 rfl ?_
    refine aw_aald dX1_slipsOfRight_17 rfl rfl h.1 ((congrArg (look _ 23 i0) (show Int32.toNatClampNeg x2 = tn x2 from rfl)).trans (look_R rfl rfl) : look _ 23 i0 _ = aR 7 (8 * i0 + (tn x2))) ?_
    replace h := h.2
    refine aw_callV (M' := M_X7_isRight) (K := 7) (i := (8 * i0 + (tn x2))) (vs := []) (st := []) dX1_slipsOfRight_18 mk_X7_isRight mi_X7_isRight ml_RX1_40 mp_X7_isRight rc_7 rm_X1_slipsOfRight__X7_isRight (Nat.le_of_ble_eq_true rfl) rfl (cw_mono h ?_)
    clear h
    rintro _ μ1 ⟨r2, rfl, h⟩
    show aw Γ M_X1_slipsOfRight 21 [aR 1 i0, aI x1, aI x2] [aI r2] μ1 (rI Q)
    refine aw_if_eq (tgt := 36) dX1_slipsOfRight_21 (by decide) (fun c0 => ?_) (fun c0 => ?_)
    · replace h := h.1 c0
      refine aw_iinc (v := x2 + (1 : Int32)) (ls' := [aR 1 i0, aI x1, aI (x2 + (1 : Int32))]) dX1_slipsOfRight_36 rfl rfl (by decide) rfl rfl ?_
      refine aw_goto (tgt := 4) dX1_slipsOfRight_39 (by decide) ?_
      exact h
    · replace h := h.2 c0
      refine aw_iload_n dX1_slipsOfRight_24 rfl ?_
      refine aw_aload_n dX1_slipsOfRight_25 rfl ?_
      refine aw_get dX1_slipsOfRight_26 rfl fk_RX1_11 (look_R rfl rfl : look _ 1 i0 0 = aR 23 i0) ?_
      refine aw_iload_n dX1_slipsOfRight_29 rfl ?_
      refine aw_aald dX1_slipsOfRight_30 rfl rfl h.1 ((congrArg (look _ 23 i0) (show Int32.toNatClampNeg x2 = tn x2 from rfl)).trans (look_R rfl rfl) : look _ 23 i0 _ = aR 7 (8 * i0 + (tn x2))) ?_
      replace h := h.2
      refine aw_get dX1_slipsOfRight_31 rfl fk_RX1_44 (look_I rfl : look μ1 7 (8 * i0 + (tn x2)) 5 = aI (μ1 7 (8 * i0 + (tn x2)) 5)) ?_
      refine aw_iadd dX1_slipsOfRight_34 ?_
      refine aw_istore_n (ls' := [aR 1 i0, aI (x1 + (μ1 7 (8 * i0 + (tn x2)) 5)), aI x2]) dX1_slipsOfRight_35 (by decide) rfl rfl ?_
      refine aw_iinc (v := x2 + (1 : Int32)) (ls' := [aR 1 i0, aI (x1 + (μ1 7 (8 * i0 + (tn x2)) 5)), aI (x2 + (1 : Int32))]) dX1_slipsOfRight_36 rfl rfl (by decide) rfl rfl ?_
      refine aw_goto (tgt := 4) dX1_slipsOfRight_39 (by decide) ?_
      exact h
theorem u_X7_isRight {Γ : cx_T} {μ : mH} {i0 : Nat} {Q : Int32 → mH → Prop} (h : (¬ (μ 7 i0 3) = (μ 7 i0 4) → (Q (0 : Int32) μ)) ∧ ((μ 7 i0 3) = (μ 7 i0 4) → (Q (1 : Int32) μ))) : cwi Γ M_X7_isRight [aR 7 i0] μ Q := by
  refine cw_ofU (ls := [aR 7 i0]) (Or.inl (by decide)) rfl (Nat.le_of_ble_eq_true rfl) rfl ?_
  refine aw_aload_n dX7_isRight_0 rfl ?_
  refine aw_get dX7_isRight_1 rfl fk_RX7_15 (look_I rfl : look μ 7 i0 3 = aI (μ 7 i0 3)) ?_
  refine aw_aload_n dX7_isRight_4 rfl ?_
  refine aw_get dX7_isRight_5 rfl fk_RX7_19 (look_I rfl : look μ 7 i0 4 = aI (μ 7 i0 4)) ?_
  refine aw_icmp_ne (tgt := 15) dX7_isRight_8 (by decide) (fun c0 => ?_) (fun c0 => ?_)
  · replace h := h.1 c0
    refine aw_iconst (v := (0 : Int32)) dX7_isRight_15 rfl ?_
    exact aw_iret (ty := .boolean) dX7_isRight_16 rfl (by decide) ⟨_, rfl, h⟩
  · replace h := h.2 c0
    refine aw_iconst (v := (1 : Int32)) dX7_isRight_11 rfl ?_
    refine aw_goto (tgt := 16) dX7_isRight_12 (by decide) ?_
    exact aw_iret (ty := .boolean) dX7_isRight_16 rfl (by decide) ⟨_, rfl, h⟩
theorem u_X7_take {Γ : cx_T} {μ : mH} {i0 : Nat} {x2 : Int32} {Q : mH → Prop} (h : cwi Γ M_X7_byteAt [aR 7 i0, aR 5 0, aI (0 : Int32)] (sto μ 7 i0 0 x2) (fun r2 μ1 => cwi Γ M_X7_byteAt [aR 7 i0, aR 5 0, aI (1 : Int32)] μ1 (fun r4 μ3 => cwi Γ M_X4_firstByte [aR 4 1, aI r2, aI r4] μ3 (fun r6 μ5 => cwi Γ M_X4_secondByte [aR 4 1, aI r2, aI r4] (sto μ5 7 i0 1 r6) (fun r8 μ7 => cwi Γ M_J9_min_7cf53 [aI (μ7 4 1 4), aI (8 : Int32)] (sto μ7 7 i0 2 r8) (fun r10 μ9 => aw Γ M_X7_take 59 [aR 7 i0, aR 5 0, aX, aR 4 1, aX, aX, aI r10, aI (0 : Int32)] [] μ9 (rV Q))))))) : cwv Γ M_X7_take [aR 7 i0, aR 5 0, aI x2, aR 4 1] μ Q := by
  refine cw_ofU (ls := [aR 7 i0, aR 5 0, aI x2, aR 4 1, aX, aX, aX, aX]) (Or.inl (by decide)) rfl (Nat.le_of_ble_eq_true rfl) rfl ?_
  refine aw_aload_n dX7_take_0 rfl ?_
  refine aw_iload_n dX7_take_1 rfl ?_
  refine aw_putI dX7_take_2 rfl fk_RX7_22 (fun r h => by cases h; rfl) rfl rfl ?_
  refine aw_aload_n dX7_take_5 rfl ?_
  refine aw_aload_n dX7_take_6 rfl ?_
  refine aw_iconst (v := (0 : Int32)) dX7_take_7 rfl ?_
  refine aw_callV (M' := M_X7_byteAt) (K := 7) (i := i0) (vs := [aR 5 0, aI (0 : Int32)]) (st := []) dX7_take_8 mk_X7_byteAt mi_X7_byteAt ml_RX7_25 mp_X7_byteAt rc_7 rm_X7_take__X7_byteAt (Nat.le_of_ble_eq_true rfl) rfl (cw_mono h ?_)
  clear h
  rintro _ μ1 ⟨r2, rfl, h⟩
  show aw Γ M_X7_take 11 [aR 7 i0, aR 5 0, aI x2, aR 4 1, aX, aX, aX, aX] [aI r2] μ1 (rV Q)
  refine aw_istore (ls' := [aR 7 i0, aR 5 0, aI x2, aR 4 1, aI r2, aX, aX, aX]) dX7_take_11 (by decide) rfl rfl ?_
  refine aw_aload_n dX7_take_13 rfl ?_
  refine aw_aload_n dX7_take_14 rfl ?_
  refine aw_iconst (v := (1 : Int32)) dX7_take_15 rfl ?_
  refine aw_callV (M' := M_X7_byteAt) (K := 7) (i := i0) (vs := [aR 5 0, aI (1 : Int32)]) (st := []) dX7_take_16 mk_X7_byteAt mi_X7_byteAt ml_RX7_25 mp_X7_byteAt rc_7 rm_X7_take__X7_byteAt (Nat.le_of_ble_eq_true rfl) rfl (cw_mono h ?_)
  clear h
  rintro _ μ3 ⟨r4, rfl, h⟩
  show aw Γ M_X7_take 19 [aR 7 i0, aR 5 0, aI x2, aR 4 1, aI r2, aX, aX, aX] [aI r4] μ3 (rV Q)
  refine aw_istore (ls' := [aR 7 i0, aR 5 0, aI x2, aR 4 1, aI r2, aI r4, aX, aX]) dX7_take_19 (by decide) rfl rfl ?_
  refine aw_aload_n dX7_take_21 rfl ?_
  refine aw_aload_n dX7_take_22 rfl ?_
  refine aw_iload dX7_take_23 rfl ?_
  refine aw_iload dX7_take_25 rfl ?_
  refine aw_callV (M' := M_X4_firstByte) (K := 4) (i := 1) (vs := [aI r2, aI r4]) (st := [aR 7 i0]) dX7_take_27 mk_X4_firstByte mi_X4_firstByte ml_RX7_29 mp_X4_firstByte rc_4 rm_X7_take__X4_firstByte (Nat.le_of_ble_eq_true rfl) rfl (cw_mono h ?_)
  clear h
  rintro _ μ5 ⟨r6, rfl, h⟩
  show aw Γ M_X7_take 30 [aR 7 i0, aR 5 0, aI x2, aR 4 1, aI r2, aI r4, aX, aX] [aI r6, aR 7 i0] μ5 (rV Q)
  refine aw_putI dX7_take_30 rfl fk_RX7_35 (fun r h => by cases h; rfl) rfl rfl ?_
  refine aw_aload_n dX7_take_33 rfl ?_
  refine aw_aload_n dX7_take_34 rfl ?_
  refine aw_iload dX7_take_35 rfl ?_
  refine aw_iload dX7_take_37 rfl ?_
  refine aw_callV (M' := M_X4_secondByte) (K := 4) (i := 1) (vs := [aI r2, aI r4]) (st := [aR 7 i0]) dX7_take_39 mk_X4_secondByte mi_X4_secondByte ml_RX7_38 mp_X4_secondByte rc_4 rm_X7_take__X4_secondByte (Nat.le_of_ble_eq_true rfl) rfl (cw_mono h ?_)
  clear h
  rintro _ μ7 ⟨r8, rfl, h⟩
  show aw Γ M_X7_take 42 [aR 7 i0, aR 5 0, aI x2, aR 4 1, aI r2, aI r4, aX, aX] [aI r8, aR 7 i0] μ7 (rV Q)
  refine aw_putI dX7_take_42 rfl fk_RX7_41 (fun r h => by cases h; rfl) rfl rfl ?_
  refine aw_aload_n dX7_take_45 rfl ?_
  refine aw_get dX7_take_46 rfl fk_RX7_44 ((look_I rfl).trans (congrArg aI ((sto_K (by decide)).trans (rfl))) : look (sto μ7 7 i0 2 r8) 4 1 4 = aI (μ7 4 1 4)) ?_
  refine aw_bipush (v := (8 : Int32)) dX7_take_49 rfl ?_
  refine aw_callS (M' := M_J9_min_7cf53) (vs := [aI (μ7 4 1 4), aI (8 : Int32)]) (st := []) dX7_take_51 mk_J9_min_7cf53 ms_J9_min_7cf53 ml_RX7_47 mp_J9_min_7cf53 rm_X7_take__J9_min_7cf53 (Nat.le_of_ble_eq_true rfl) rfl (cw_mono h ?_)
  clear h
  rintro _ μ9 ⟨r10, rfl, h⟩
  show aw Γ M_X7_take 54 [aR 7 i0, aR 5 0, aI x2, aR 4 1, aI r2, aI r4, aX, aX] [aI r10] μ9 (rV Q)
  refine aw_istore (ls' := [aR 7 i0, aR 5 0, aI x2, aR 4 1, aI r2, aI r4, aI r10, aX]) dX7_take_54 (by decide) rfl rfl ?_
  refine aw_iconst (v := (0 : Int32)) dX7_take_56 rfl ?_
  refine aw_istore (ls' := [aR 7 i0, aR 5 0, aI x2, aR 4 1, aI r2, aI r4, aI r10, aI (0 : Int32)]) dX7_take_57 (by decide) rfl rfl ?_
  exact aw_wkk h (wk_e (wk_e (wk_x (wk_e (wk_x (wk_x (wk_e (wk_e wk_n))))))))
theorem u_X7_take_59 {Γ : cx_T} {μ : mH} {i0 : Nat} {x6 : Int32} {x7 : Int32} {Q : mH → Prop} (h : (x6 ≤ x7 → (cwi Γ M_X7_byteAt [aR 7 i0, aR 5 0, aI ((2 : Int32) + x6)] μ (fun r2 μ1 => cwi Γ M_X7_byteAt [aR 7 i0, aR 5 0, aI ((3 : Int32) + x6)] μ1 (fun r4 μ3 => cwi Γ M_X4_sumOf [aR 4 1, aI (μ3 7 i0 1), aI (μ3 7 i0 2), aR 24 i0] (sto μ3 7 i0 3 ((r2 <<< ((8 : Int32) &&& 31)) ||| r4)) (fun r6 μ5 => cwi Γ M_X7_slipsIn [aR 7 i0, aR 5 0, aR 4 1] (sto μ5 7 i0 4 r6) (fun r8 μ7 => Q (sto μ7 7 i0 5 r8))))))) ∧ (¬ x6 ≤ x7 → (cwi Γ M_X7_byteAt [aR 7 i0, aR 5 0, aI ((2 : Int32) + x7)] μ (fun r10 μ9 => vp_in x7 8 ∧ (aw Γ M_X7_take 59 [aR 7 i0, aR 5 0, aX, aR 4 1, aX, aX, aI x6, aI (x7 + (1 : Int32))] [] (sto μ9 24 i0 (tn x7) r10) (rV Q)))))) : aw Γ M_X7_take 59 [aR 7 i0, aR 5 0, aX, aR 4 1, aX, aX, aI x6, aI x7] [] μ (rV Q) := by
  refine aw_iload dX7_take_59 rfl ?_
  refine aw_iload dX7_take_61 rfl ?_
  refine aw_icmp_ge (tgt := 88) dX7_take_63 (by decide) (fun c0 => ?_) (fun c0 => ?_)
  · replace h := h.1 c0
    refine aw_aload_n dX7_take_88 rfl ?_
    refine aw_aload_n dX7_take_89 rfl ?_
    refine aw_aload_n dX7_take_90 rfl ?_
    refine aw_iconst (v := (2 : Int32)) dX7_take_91 rfl ?_
    refine aw_iload dX7_take_92 rfl ?_
    refine aw_iadd dX7_take_94 ?_
    refine aw_callV (M' := M_X7_byteAt) (K := 7) (i := i0) (vs := [aR 5 0, aI ((2 : Int32) + x6)]) (st := [aR 7 i0]) dX7_take_95 mk_X7_byteAt mi_X7_byteAt ml_RX7_25 mp_X7_byteAt rc_7 rm_X7_take__X7_byteAt (Nat.le_of_ble_eq_true rfl) rfl (cw_mono h ?_)
    clear h
    rintro _ μ1 ⟨r2, rfl, h⟩
    show aw Γ M_X7_take 98 [aR 7 i0, aR 5 0, aX, aR 4 1, aX, aX, aI x6, aI x7] [aI r2, aR 7 i0] μ1 (rV Q)
    refine aw_bipush (v := (8 : Int32)) dX7_take_98 rfl ?_
    refine aw_ishl dX7_take_100 ?_
    refine aw_aload_n dX7_take_101 rfl ?_
    refine aw_aload_n dX7_take_102 rfl ?_
    refine aw_iconst (v := (3 : Int32)) dX7_take_103 rfl ?_
    refine aw_iload dX7_take_104 rfl ?_
    refine aw_iadd dX7_take_106 ?_
    refine aw_callV (M' := M_X7_byteAt) (K := 7) (i := i0) (vs := [aR 5 0, aI ((3 : Int32) + x6)]) (st := [aI (r2 <<< ((8 : Int32) &&& 31)), aR 7 i0]) dX7_take_107 mk_X7_byteAt mi_X7_byteAt ml_RX7_25 mp_X7_byteAt rc_7 rm_X7_take__X7_byteAt (Nat.le_of_ble_eq_true rfl) rfl (cw_mono h ?_)
    clear h
    rintro _ μ3 ⟨r4, rfl, h⟩
    show aw Γ M_X7_take 110 [aR 7 i0, aR 5 0, aX, aR 4 1, aX, aX, aI x6, aI x7] [aI r4, aI (r2 <<< ((8 : Int32) &&& 31)), aR 7 i0] μ3 (rV Q)
    refine aw_ior dX7_take_110 ?_
    refine aw_putI dX7_take_111 rfl fk_RX7_15 (fun r h => by cases h; rfl) rfl rfl ?_
    refine aw_aload_n dX7_take_114 rfl ?_
    refine aw_aload_n dX7_take_115 rfl ?_
    refine aw_aload_n dX7_take_116 rfl ?_
    refine aw_get dX7_take_117 rfl fk_RX7_35 ((look_I rfl).trans (congrArg aI ((sto_s (by decide)).trans (rfl))) : look (sto μ3 7 i0 3 ((r2 <<< ((8 : Int32) &&& 31)) ||| r4)) 7 i0 1 = aI (μ3 7 i0 1)) ?_
    refine aw_aload_n dX7_take_120 rfl ?_
    refine aw_get dX7_take_121 rfl fk_RX7_41 ((look_I rfl).trans (congrArg aI ((sto_s (by decide)).trans (rfl))) : look (sto μ3 7 i0 3 ((r2 <<< ((8 : Int32) &&& 31)) ||| r4)) 7 i0 2 = aI (μ3 7 i0 2)) ?_
    refine aw_aload_n dX7_take_124 rfl ?_
    refine aw_get dX7_take_125 rfl fk_RX7_9 (look_R rfl rfl : look _ 7 i0 6 = aR 24 i0) ?_
    refine aw_callV (M' := M_X4_sumOf) (K := 4) (i := 1) (vs := [aI (μ3 7 i0 1), aI (μ3 7 i0 2), aR 24 i0]) (st := [aR 7 i0]) dX7_take_128 mk_X4_sumOf mi_X4_sumOf ml_RX7_52 mp_X4_sumOf rc_4 rm_X7_take__X4_sumOf (Nat.le_of_ble_eq_true rfl) rfl (cw_mono h ?_)
    clear h
    rintro _ μ5 ⟨r6, rfl, h⟩
    show aw Γ M_X7_take 131 [aR 7 i0, aR 5 0, aX, aR 4 1, aX, aX, aI x6, aI x7] [aI r6, aR 7 i0] μ5 (rV Q)
    refine aw_putI dX7_take_131 rfl fk_RX7_19 (fun r h => by cases h; rfl) rfl rfl ?_
    refine aw_aload_n dX7_take_134 rfl ?_
    refine aw_aload_n dX7_take_135 rfl ?_
    refine aw_aload_n dX7_take_136 rfl ?_
    refine aw_aload_n dX7_take_137 rfl ?_
    refine aw_callV (M' := M_X7_slipsIn) (K := 7) (i := i0) (vs := [aR 5 0, aR 4 1]) (st := [aR 7 i0]) dX7_take_138 mk_X7_slipsIn mi_X7_slipsIn ml_RX7_56 mp_X7_slipsIn rc_7 rm_X7_take__X7_slipsIn (Nat.le_of_ble_eq_true rfl) rfl (cw_mono h ?_)
    clear h
    rintro _ μ7 ⟨r8, rfl, h⟩
    show aw Γ M_X7_take 141 [aR 7 i0, aR 5 0, aX, aR 4 1, aX, aX, aI x6, aI x7] [aI r8, aR 7 i0] μ7 (rV Q)
    refine aw_putI dX7_take_141 rfl fk_RX7_60 (fun r h => by cases h; rfl) rfl rfl ?_
    exact aw_vret dX7_take_144 rfl h
  · replace h := h.2 c0
    refine aw_aload_n dX7_take_66 rfl ?_
    refine aw_get dX7_take_67 rfl fk_RX7_9 (look_R rfl rfl : look _ 7 i0 6 = aR 24 i0) ?_
    refine aw_iload dX7_take_70 rfl ?_
    refine aw_aload_n dX7_take_72 rfl ?_
    refine aw_aload_n dX7_take_73 rfl ?_
    refine aw_iconst (v := (2 : Int32)) dX7_take_74 rfl ?_
    refine aw_iload dX7_take_75 rfl ?_
    refine aw_iadd dX7_take_77 ?_
    refine aw_callV (M' := M_X7_byteAt) (K := 7) (i := i0) (vs := [aR 5 0, aI ((2 : Int32) + x7)]) (st := [aI x7, aR 24 i0]) dX7_take_78 mk_X7_byteAt mi_X7_byteAt ml_RX7_25 mp_X7_byteAt rc_7 rm_X7_take__X7_byteAt (Nat.le_of_ble_eq_true rfl) rfl (cw_mono h ?_)
    clear h
    rintro _ μ9 ⟨r10, rfl, h⟩
    show aw Γ M_X7_take 81 [aR 7 i0, aR 5 0, aX, aR 4 1, aX, aX, aI x6, aI x7] [aI r10, aI x7, aR 24 i0] μ9 (rV Q)
    refine aw_is (j := tn x7) dX7_take_81 rfl (fun _ => rfl) h.1 rfl ?_
    replace h := h.2
    refine aw_iinc (v := x7 + (1 : Int32)) (ls' := [aR 7 i0, aR 5 0, aX, aR 4 1, aX, aX, aI x6, aI (x7 + (1 : Int32))]) dX7_take_82 rfl rfl (by decide) rfl rfl ?_
    refine aw_goto (tgt := 59) dX7_take_85 (by decide) ?_
    exact h
theorem u_X7_hasData {Γ : cx_T} {μ : mH} {i0 : Nat} {j2 : Nat} {x2 : Int32} {Q : Int32 → mH → Prop} (h : aw Γ M_X7_hasData 2 [aR 7 i0, aR 7 j2, aI x2, aI (0 : Int32)] [] μ (rI Q)) : cwi Γ M_X7_hasData [aR 7 i0, aR 7 j2, aI x2] μ Q := by
  refine cw_ofU (ls := [aR 7 i0, aR 7 j2, aI x2, aX]) (Or.inl (by decide)) rfl (Nat.le_of_ble_eq_true rfl) rfl ?_
  refine aw_iconst (v := (0 : Int32)) dX7_hasData_0 rfl ?_
  refine aw_istore_n (ls' := [aR 7 i0, aR 7 j2, aI x2, aI (0 : Int32)]) dX7_hasData_1 (by decide) rfl rfl ?_
  exact h
theorem u_X7_hasData_2 {Γ : cx_T} {μ : mH} {i0 : Nat} {i1 : Nat} {x2 : Int32} {x3 : Int32} {Q : Int32 → mH → Prop} (h : (x2 ≤ x3 → (Q (1 : Int32) μ)) ∧ (¬ x2 ≤ x3 → (((8 : Int32) ≤ x3 → (Q (1 : Int32) μ)) ∧ (¬ (8 : Int32) ≤ x3 → (vp_in x3 8 ∧ (vp_in x3 8 ∧ (((μ 24 i0 (tn x3)) = (μ 24 i1 (tn x3)) → (aw Γ M_X7_hasData 2 [aR 7 i0, aR 7 i1, aI x2, aI (x3 + (1 : Int32))] [] μ (rI Q))) ∧ (¬ (μ 24 i0 (tn x3)) = (μ 24 i1 (tn x3)) → (Q (0 : Int32) μ))))))))) : aw Γ M_X7_hasData 2 [aR 7 i0, aR 7 i1, aI x2, aI x3] [] μ (rI Q) := by
  refine aw_iload_n dX7_hasData_2 rfl ?_
  refine aw_iload_n dX7_hasData_3 rfl ?_
  refine aw_icmp_ge (tgt := 36) dX7_hasData_4 (by decide) (fun c0 => ?_) (fun c0 => ?_)
  · replace h := h.1 c0
    refine aw_iconst (v := (1 : Int32)) dX7_hasData_36 rfl ?_
    exact aw_iret (ty := .boolean) dX7_hasData_37 rfl (by decide) ⟨_, rfl, h⟩
  · replace h := h.2 c0
    refine aw_iload_n dX7_hasData_7 rfl ?_
    refine aw_bipush (v := (8 : Int32)) dX7_hasData_8 rfl ?_
    refine aw_icmp_ge (tgt := 36) dX7_hasData_10 (by decide) (fun c0 => ?_) (fun c0 => ?_)
    · replace h := h.1 c0
      refine aw_iconst (v := (1 : Int32)) dX7_hasData_36 rfl ?_
      exact aw_iret (ty := .boolean) dX7_hasData_37 rfl (by decide) ⟨_, rfl, h⟩
    · replace h := h.2 c0
      refine aw_aload_n dX7_hasData_13 rfl ?_
      refine aw_get dX7_hasData_14 rfl fk_RX7_9 (look_R rfl rfl : look _ 7 i0 6 = aR 24 i0) ?_
      refine aw_iload_n dX7_hasData_17 rfl ?_
      refine aw_ia (j := tn x3) (y := μ 24 i0 (tn x3)) dX7_hasData_18 rfl (fun _ => rfl) h.1 rfl (rfl) ?_
      replace h := h.2
      refine aw_aload_n dX7_hasData_19 rfl ?_
      refine aw_get dX7_hasData_20 rfl fk_RX7_9 (look_R rfl rfl : look _ 7 i1 6 = aR 24 i1) ?_
      refine aw_iload_n dX7_hasData_23 rfl ?_
      refine aw_ia (j := tn x3) (y := μ 24 i1 (tn x3)) dX7_hasData_24 rfl (fun _ => rfl) h.1 rfl (rfl) ?_
      replace h := h.2
      refine aw_icmp_eq (tgt := 30) dX7_hasData_25 (by decide) (fun c0 => ?_) (fun c0 => ?_)
      · replace h := h.1 c0
        refine aw_iinc (v := x3 + (1 : Int32)) (ls' := [aR 7 i0, aR 7 i1, aI x2, aI (x3 + (1 : Int32))]) dX7_hasData_30 rfl rfl (by decide) rfl rfl ?_
        refine aw_goto (tgt := 2) dX7_hasData_33 (by decide) ?_
        exact h
      · replace h := h.2 c0
        refine aw_iconst (v := (0 : Int32)) dX7_hasData_28 rfl ?_
        exact aw_iret (ty := .boolean) dX7_hasData_29 rfl (by decide) ⟨_, rfl, h⟩
theorem u_X7_byteOrSum {Γ : cx_T} {μ : mH} {i0 : Nat} {x1 : Int32} {x2 : Int32} {Q : Int32 → mH → Prop} (h : (x1 < 0 → ((¬ x1 = x2 → (Q ((μ 7 i0 3) &&& (255 : Int32)) μ)) ∧ (x1 = x2 → (Q ((μ 7 i0 3) >>> ((8 : Int32) &&& 31)) μ)))) ∧ (¬ x1 < 0 → ((x2 ≤ x1 → ((¬ x1 = x2 → (Q ((μ 7 i0 3) &&& (255 : Int32)) μ)) ∧ (x1 = x2 → (Q ((μ 7 i0 3) >>> ((8 : Int32) &&& 31)) μ)))) ∧ (¬ x2 ≤ x1 → (((8 : Int32) ≤ x1 → ((¬ x1 = x2 → (Q ((μ 7 i0 3) &&& (255 : Int32)) μ)) ∧ (x1 = x2 → (Q ((μ 7 i0 3) >>> ((8 : Int32) &&& 31)) μ)))) ∧ (¬ (8 : Int32) ≤ x1 → (vp_in x1 8 ∧ (Q (μ 24 i0 (tn x1)) μ)))))))) : cwi Γ M_X7_byteOrSum [aR 7 i0, aI x1, aI x2] μ Q := by
  refine cw_ofU (ls := [aR 7 i0, aI x1, aI x2]) (Or.inl (by decide)) rfl (Nat.le_of_ble_eq_true rfl) rfl ?_
  refine aw_iload_n dX7_byteOrSum_0 rfl ?_
  refine aw_if_lt (tgt := 22) dX7_byteOrSum_1 (by decide) (fun c0 => ?_) (fun c0 => ?_)
  · replace h := h.1 c0
    refine aw_iload_n dX7_byteOrSum_22 rfl ?_
    refine aw_iload_n dX7_byteOrSum_23 rfl ?_
    refine aw_icmp_ne (tgt := 37) dX7_byteOrSum_24 (by decide) (fun c0 => ?_) (fun c0 => ?_)
    · replace h := h.1 c0
      refine aw_aload_n dX7_byteOrSum_37 rfl ?_
      refine aw_get dX7_byteOrSum_38 rfl fk_RX7_15 (look_I rfl : look μ 7 i0 3 = aI (μ 7 i0 3)) ?_
      refine aw_sipush (v := (255 : Int32)) dX7_byteOrSum_41 rfl ?_
      refine aw_iand dX7_byteOrSum_44 ?_
      exact aw_iret dX7_byteOrSum_45 rfl rfl ⟨_, rfl, h⟩
    · replace h := h.2 c0
      refine aw_aload_n dX7_byteOrSum_27 rfl ?_
      refine aw_get dX7_byteOrSum_28 rfl fk_RX7_15 (look_I rfl : look μ 7 i0 3 = aI (μ 7 i0 3)) ?_
      refine aw_bipush (v := (8 : Int32)) dX7_byteOrSum_31 rfl ?_
      refine aw_ishr dX7_byteOrSum_33 ?_
      refine aw_goto (tgt := 45) dX7_byteOrSum_34 (by decide) ?_
      exact aw_iret dX7_byteOrSum_45 rfl rfl ⟨_, rfl, h⟩
  · replace h := h.2 c0
    refine aw_iload_n dX7_byteOrSum_4 rfl ?_
    refine aw_iload_n dX7_byteOrSum_5 rfl ?_
    refine aw_icmp_ge (tgt := 22) dX7_byteOrSum_6 (by decide) (fun c0 => ?_) (fun c0 => ?_)
    · replace h := h.1 c0
      refine aw_iload_n dX7_byteOrSum_22 rfl ?_
      refine aw_iload_n dX7_byteOrSum_23 rfl ?_
      refine aw_icmp_ne (tgt := 37) dX7_byteOrSum_24 (by decide) (fun c0 => ?_) (fun c0 => ?_)
      · replace h := h.1 c0
        refine aw_aload_n dX7_byteOrSum_37 rfl ?_
        refine aw_get dX7_byteOrSum_38 rfl fk_RX7_15 (look_I rfl : look μ 7 i0 3 = aI (μ 7 i0 3)) ?_
        refine aw_sipush (v := (255 : Int32)) dX7_byteOrSum_41 rfl ?_
        refine aw_iand dX7_byteOrSum_44 ?_
        exact aw_iret dX7_byteOrSum_45 rfl rfl ⟨_, rfl, h⟩
      · replace h := h.2 c0
        refine aw_aload_n dX7_byteOrSum_27 rfl ?_
        refine aw_get dX7_byteOrSum_28 rfl fk_RX7_15 (look_I rfl : look μ 7 i0 3 = aI (μ 7 i0 3)) ?_
        refine aw_bipush (v := (8 : Int32)) dX7_byteOrSum_31 rfl ?_
        refine aw_ishr dX7_byteOrSum_33 ?_
        refine aw_goto (tgt := 45) dX7_byteOrSum_34 (by decide) ?_
        exact aw_iret dX7_byteOrSum_45 rfl rfl ⟨_, rfl, h⟩
    · replace h := h.2 c0
      refine aw_iload_n dX7_byteOrSum_9 rfl ?_
      refine aw_bipush (v := (8 : Int32)) dX7_byteOrSum_10 rfl ?_
      refine aw_icmp_ge (tgt := 22) dX7_byteOrSum_12 (by decide) (fun c0 => ?_) (fun c0 => ?_)
      · replace h := h.1 c0
        refine aw_iload_n dX7_byteOrSum_22 rfl ?_
        refine aw_iload_n dX7_byteOrSum_23 rfl ?_
        refine aw_icmp_ne (tgt := 37) dX7_byteOrSum_24 (by decide) (fun c0 => ?_) (fun c0 => ?_)
        · replace h := h.1 c0
          refine aw_aload_n dX7_byteOrSum_37 rfl ?_
          refine aw_get dX7_byteOrSum_38 rfl fk_RX7_15 (look_I rfl : look μ 7 i0 3 = aI (μ 7 i0 3)) ?_
          refine aw_sipush (v := (255 : Int32)) dX7_byteOrSum_41 rfl ?_
          refine aw_iand dX7_byteOrSum_44 ?_
          exact aw_iret dX7_byteOrSum_45 rfl rfl ⟨_, rfl, h⟩
        · replace h := h.2 c0
          refine aw_aload_n dX7_byteOrSum_27 rfl ?_
          refine aw_get dX7_byteOrSum_28 rfl fk_RX7_15 (look_I rfl : look μ 7 i0 3 = aI (μ 7 i0 3)) ?_
          refine aw_bipush (v := (8 : Int32)) dX7_byteOrSum_31 rfl ?_
          refine aw_ishr dX7_byteOrSum_33 ?_
          refine aw_goto (tgt := 45) dX7_byteOrSum_34 (by decide) ?_
          exact aw_iret dX7_byteOrSum_45 rfl rfl ⟨_, rfl, h⟩
      · replace h := h.2 c0
        refine aw_aload_n dX7_byteOrSum_15 rfl ?_
        refine aw_get dX7_byteOrSum_16 rfl fk_RX7_9 (look_R rfl rfl : look _ 7 i0 6 = aR 24 i0) ?_
        refine aw_iload_n dX7_byteOrSum_19 rfl ?_
        refine aw_ia (j := tn x1) (y := μ 24 i0 (tn x1)) dX7_byteOrSum_20 rfl (fun _ => rfl) h.1 rfl (rfl) ?_
        replace h := h.2
        exact aw_iret dX7_byteOrSum_21 rfl rfl ⟨_, rfl, h⟩
theorem u_X7_byteAt {Γ : cx_T} {μ : mH} {i0 : Nat} {x2 : Int32} {Q : Int32 → mH → Prop} (h : aw Γ M_X7_byteAt 18 [aX, aR 5 0, aX, aI ((μ 7 i0 0) + (x2 * (16 : Int32))), aI (0 : Int32), aI (((μ 7 i0 0) + (x2 * (16 : Int32))) + (1 : Int32))] [] μ (rI Q)) : cwi Γ M_X7_byteAt [aR 7 i0, aR 5 0, aI x2] μ Q := by
  refine cw_ofU (ls := [aR 7 i0, aR 5 0, aI x2, aX, aX, aX]) (Or.inl (by decide)) rfl (Nat.le_of_ble_eq_true rfl) rfl ?_
  refine aw_aload_n dX7_byteAt_0 rfl ?_
  refine aw_get dX7_byteAt_1 rfl fk_RX7_22 (look_I rfl : look μ 7 i0 0 = aI (μ 7 i0 0)) ?_
  refine aw_iload_n dX7_byteAt_4 rfl ?_
  refine aw_bipush (v := (16 : Int32)) dX7_byteAt_5 rfl ?_
  refine aw_imul dX7_byteAt_7 ?_
  refine aw_iadd dX7_byteAt_8 ?_
  refine aw_istore_n (ls' := [aR 7 i0, aR 5 0, aI x2, aI ((μ 7 i0 0) + (x2 * (16 : Int32))), aX, aX]) dX7_byteAt_9 (by decide) rfl rfl ?_
  refine aw_iconst (v := (0 : Int32)) dX7_byteAt_10 rfl ?_
  refine aw_istore (ls' := [aR 7 i0, aR 5 0, aI x2, aI ((μ 7 i0 0) + (x2 * (16 : Int32))), aI (0 : Int32), aX]) dX7_byteAt_11 (by decide) rfl rfl ?_
  refine aw_iload_n dX7_byteAt_13 rfl ?_
  refine aw_iconst (v := (1 : Int32)) dX7_byteAt_14 rfl ?_
  refine aw_iadd dX7_byteAt_15 ?_
  refine aw_istore (ls' := [aR 7 i0, aR 5 0, aI x2, aI ((μ 7 i0 0) + (x2 * (16 : Int32))), aI (0 : Int32), aI (((μ 7 i0 0) + (x2 * (16 : Int32))) + (1 : Int32))]) dX7_byteAt_16 (by decide) rfl rfl ?_
  exact aw_wkk h (wk_x (wk_e (wk_x (wk_e (wk_e (wk_e wk_n))))))
theorem u_X7_byteAt_18 {Γ : cx_T} {μ : mH} {x3 : Int32} {x4 : Int32} {x5 : Int32} {Q : Int32 → mH → Prop} (h : ((x3 + (16 : Int32)) ≤ x5 → (Q x4 μ)) ∧ (¬ (x3 + (16 : Int32)) ≤ x5 → (((μ 5 0 1) ≤ x5 → (Q x4 μ)) ∧ (¬ (μ 5 0 1) ≤ x5 → (vp_in x5 2560 ∧ (aw Γ M_X7_byteAt 18 [aX, aR 5 0, aX, aI x3, aI ((x4 <<< ((1 : Int32) &&& 31)) ||| (μ 22 0 (tn x5))), aI (x5 + (2 : Int32))] [] μ (rI Q))))))) : aw Γ M_X7_byteAt 18 [aX, aR 5 0, aX, aI x3, aI x4, aI x5] [] μ (rI Q) := by
  refine aw_iload dX7_byteAt_18 rfl ?_
  refine aw_iload_n dX7_byteAt_20 rfl ?_
  refine aw_bipush (v := (16 : Int32)) dX7_byteAt_21 rfl ?_
  refine aw_iadd dX7_byteAt_23 ?_
  refine aw_icmp_ge (tgt := 56) dX7_byteAt_24 (by decide) (fun c0 => ?_) (fun c0 => ?_)
  · replace h := h.1 c0
    refine aw_iload dX7_byteAt_56 rfl ?_
    exact aw_iret dX7_byteAt_58 rfl rfl ⟨_, rfl, h⟩
  · replace h := h.2 c0
    refine aw_iload dX7_byteAt_27 rfl ?_
    refine aw_aload_n dX7_byteAt_29 rfl ?_
    refine aw_get dX7_byteAt_30 rfl fk_RX7_63 (look_I rfl : look μ 5 0 1 = aI (μ 5 0 1)) ?_
    refine aw_icmp_ge (tgt := 56) dX7_byteAt_33 (by decide) (fun c0 => ?_) (fun c0 => ?_)
    · replace h := h.1 c0
      refine aw_iload dX7_byteAt_56 rfl ?_
      exact aw_iret dX7_byteAt_58 rfl rfl ⟨_, rfl, h⟩
    · replace h := h.2 c0
      refine aw_iload dX7_byteAt_36 rfl ?_
      refine aw_iconst (v := (1 : Int32)) dX7_byteAt_38 rfl ?_
      refine aw_ishl dX7_byteAt_39 ?_
      refine aw_aload_n dX7_byteAt_40 rfl ?_
      refine aw_get dX7_byteAt_41 rfl fk_RX7_66 (look_R rfl rfl : look _ 5 0 0 = aR 22 0) ?_
      refine aw_iload dX7_byteAt_44 rfl ?_
      refine aw_ia (j := tn x5) (y := μ 22 0 (tn x5)) dX7_byteAt_46 rfl (fun _ => rfl) h.1 rfl (rfl) ?_
      replace h := h.2
      refine aw_ior dX7_byteAt_47 ?_
      refine aw_istore (ls' := [aX, aR 5 0, aX, aI x3, aI ((x4 <<< ((1 : Int32) &&& 31)) ||| (μ 22 0 (tn x5))), aI x5]) dX7_byteAt_48 (by decide) rfl rfl ?_
      refine aw_iinc (v := x5 + (2 : Int32)) (ls' := [aX, aR 5 0, aX, aI x3, aI ((x4 <<< ((1 : Int32) &&& 31)) ||| (μ 22 0 (tn x5))), aI (x5 + (2 : Int32))]) dX7_byteAt_50 rfl rfl (by decide) rfl rfl ?_
      refine aw_goto (tgt := 18) dX7_byteAt_53 (by decide) ?_
      exact h
theorem u_X7_slipsIn {Γ : cx_T} {μ : mH} {i0 : Nat} {Q : Int32 → mH → Prop} (h : aw Γ M_X7_slipsIn 32 [aX, aR 5 0, aX, aI ((μ 7 i0 0) + (((4 : Int32) + (μ 4 1 4)) * (16 : Int32))), aI (0 : Int32), aI ((μ 4 1 3) &&& (1 : Int32)), aI (μ 7 i0 0), aX] [] μ (rI Q)) : cwi Γ M_X7_slipsIn [aR 7 i0, aR 5 0, aR 4 1] μ Q := by
  refine cw_ofU (ls := [aR 7 i0, aR 5 0, aR 4 1, aX, aX, aX, aX, aX]) (Or.inl (by decide)) rfl (Nat.le_of_ble_eq_true rfl) rfl ?_
  refine aw_aload_n dX7_slipsIn_0 rfl ?_
  refine aw_get dX7_slipsIn_1 rfl fk_RX7_22 (look_I rfl : look μ 7 i0 0 = aI (μ 7 i0 0)) ?_
  refine aw_iconst (v := (4 : Int32)) dX7_slipsIn_4 rfl ?_
  refine aw_aload_n dX7_slipsIn_5 rfl ?_
  refine aw_get dX7_slipsIn_6 rfl fk_RX7_44 (look_I rfl : look μ 4 1 4 = aI (μ 4 1 4)) ?_
  refine aw_iadd dX7_slipsIn_9 ?_
  refine aw_bipush (v := (16 : Int32)) dX7_slipsIn_10 rfl ?_
  refine aw_imul dX7_slipsIn_12 ?_
  refine aw_iadd dX7_slipsIn_13 ?_
  refine aw_istore_n (ls' := [aR 7 i0, aR 5 0, aR 4 1, aI ((μ 7 i0 0) + (((4 : Int32) + (μ 4 1 4)) * (16 : Int32))), aX, aX, aX, aX]) dX7_slipsIn_14 (by decide) rfl rfl ?_
  refine aw_iconst (v := (0 : Int32)) dX7_slipsIn_15 rfl ?_
  refine aw_istore (ls' := [aR 7 i0, aR 5 0, aR 4 1, aI ((μ 7 i0 0) + (((4 : Int32) + (μ 4 1 4)) * (16 : Int32))), aI (0 : Int32), aX, aX, aX]) dX7_slipsIn_16 (by decide) rfl rfl ?_
  refine aw_aload_n dX7_slipsIn_18 rfl ?_
  refine aw_get dX7_slipsIn_19 rfl fk_RX7_69 (look_I rfl : look μ 4 1 3 = aI (μ 4 1 3)) ?_
  refine aw_iconst (v := (1 : Int32)) dX7_slipsIn_22 rfl ?_
  refine aw_iand dX7_slipsIn_23 ?_
  refine aw_istore (ls' := [aR 7 i0, aR 5 0, aR 4 1, aI ((μ 7 i0 0) + (((4 : Int32) + (μ 4 1 4)) * (16 : Int32))), aI (0 : Int32), aI ((μ 4 1 3) &&& (1 : Int32)), aX, aX]) dX7_slipsIn_24 (by decide) rfl rfl ?_
  refine aw_aload_n dX7_slipsIn_26 rfl ?_
  refine aw_get dX7_slipsIn_27 rfl fk_RX7_22 (look_I rfl : look μ 7 i0 0 = aI (μ 7 i0 0)) ?_
  refine aw_istore (ls' := [aR 7 i0, aR 5 0, aR 4 1, aI ((μ 7 i0 0) + (((4 : Int32) + (μ 4 1 4)) * (16 : Int32))), aI (0 : Int32), aI ((μ 4 1 3) &&& (1 : Int32)), aI (μ 7 i0 0), aX]) dX7_slipsIn_30 (by decide) rfl rfl ?_
  exact aw_wkk h (wk_x (wk_e (wk_x (wk_e (wk_e (wk_e (wk_e (wk_e wk_n))))))))
theorem u_X7_slipsIn_32 {Γ : cx_T} {μ : mH} {x3 : Int32} {x4 : Int32} {x5 : Int32} {x6 : Int32} {Q : Int32 → mH → Prop} (h : (x3 ≤ (x6 + (1 : Int32)) → (Q x4 μ)) ∧ (¬ x3 ≤ (x6 + (1 : Int32)) → (((μ 5 0 1) ≤ (x6 + (1 : Int32)) → (Q x4 μ)) ∧ (¬ (μ 5 0 1) ≤ (x6 + (1 : Int32)) → (vp_in (x6 + (1 : Int32)) 2560 ∧ (vp_in x6 2560 ∧ (cwi Γ M_X11_clockDue [aI x5, aI (μ 22 0 (tn (x6 + (1 : Int32))))] μ (fun r2 μ1 => ((μ 22 0 (tn x6)) = r2 → (aw Γ M_X7_slipsIn 32 [aX, aR 5 0, aX, aI x3, aI x4, aI (μ 22 0 (tn (x6 + (1 : Int32)))), aI (x6 + (2 : Int32)), aX] [] μ1 (rI Q))) ∧ (¬ (μ 22 0 (tn x6)) = r2 → (aw Γ M_X7_slipsIn 32 [aX, aR 5 0, aX, aI x3, aI (x4 + (1 : Int32)), aI (μ 22 0 (tn (x6 + (1 : Int32)))), aI (x6 + (2 : Int32)), aX] [] μ1 (rI Q))))))))))) : aw Γ M_X7_slipsIn 32 [aX, aR 5 0, aX, aI x3, aI x4, aI x5, aI x6, aX] [] μ (rI Q) := by
  refine aw_iload dX7_slipsIn_32 rfl ?_
  refine aw_iconst (v := (1 : Int32)) dX7_slipsIn_34 rfl ?_
  refine aw_iadd dX7_slipsIn_35 ?_
  refine aw_iload_n dX7_slipsIn_36 rfl ?_
  refine aw_icmp_ge (tgt := 92) dX7_slipsIn_37 (by decide) (fun c0 => ?_) (fun c0 => ?_)
  · replace h := h.1 c0
    refine aw_iload dX7_slipsIn_92 rfl ?_
    exact aw_iret dX7_slipsIn_94 rfl rfl ⟨_, rfl, h⟩
  · replace h := h.2 c0
    refine aw_iload dX7_slipsIn_40 rfl ?_
    refine aw_iconst (v := (1 : Int32)) dX7_slipsIn_42 rfl ?_
    refine aw_iadd dX7_slipsIn_43 ?_
    refine aw_aload_n dX7_slipsIn_44 rfl ?_
    refine aw_get dX7_slipsIn_45 rfl fk_RX7_63 (look_I rfl : look μ 5 0 1 = aI (μ 5 0 1)) ?_
    refine aw_icmp_ge (tgt := 92) dX7_slipsIn_48 (by decide) (fun c0 => ?_) (fun c0 => ?_)
    · replace h := h.1 c0
      refine aw_iload dX7_slipsIn_92 rfl ?_
      exact aw_iret dX7_slipsIn_94 rfl rfl ⟨_, rfl, h⟩
    · replace h := h.2 c0
      refine aw_aload_n dX7_slipsIn_51 rfl ?_
      refine aw_get dX7_slipsIn_52 rfl fk_RX7_66 (look_R rfl rfl : look _ 5 0 0 = aR 22 0) ?_
      refine aw_iload dX7_slipsIn_55 rfl ?_
      refine aw_iconst (v := (1 : Int32)) dX7_slipsIn_57 rfl ?_
      refine aw_iadd dX7_slipsIn_58 ?_
      refine aw_ia (j := tn (x6 + (1 : Int32))) (y := μ 22 0 (tn (x6 + (1 : Int32)))) dX7_slipsIn_59 rfl (fun _ => rfl) h.1 rfl (rfl) ?_
      replace h := h.2
      refine aw_istore (ls' := [aX, aR 5 0, aX, aI x3, aI x4, aI x5, aI x6, aI (μ 22 0 (tn (x6 + (1 : Int32))))]) dX7_slipsIn_60 (by decide) rfl rfl ?_
      refine aw_aload_n dX7_slipsIn_62 rfl ?_
      refine aw_get dX7_slipsIn_63 rfl fk_RX7_66 (look_R rfl rfl : look _ 5 0 0 = aR 22 0) ?_
      refine aw_iload dX7_slipsIn_66 rfl ?_
      refine aw_ia (j := tn x6) (y := μ 22 0 (tn x6)) dX7_slipsIn_68 rfl (fun _ => rfl) h.1 rfl (rfl) ?_
      replace h := h.2
      refine aw_iload dX7_slipsIn_69 rfl ?_
      refine aw_iload dX7_slipsIn_71 rfl ?_
      refine aw_callSN (M' := M_X11_clockDue) (vs := [aI x5, aI (μ 22 0 (tn (x6 + (1 : Int32))))]) (st := [aI (μ 22 0 (tn x6))]) dX7_slipsIn_73 mk_X11_clockDue ms_X11_clockDue ml_RX7_72 mp_X11_clockDue rm_X7_slipsIn__X11_clockDue (Nat.le_of_ble_eq_true rfl) rfl (cw_mono h ?_)
      clear h
      rintro _ μ1 ⟨r2, rfl, h⟩
      show aw Γ M_X7_slipsIn 76 [aX, aR 5 0, aX, aI x3, aI x4, aI x5, aI x6, aI (μ 22 0 (tn (x6 + (1 : Int32))))] [aI r2, aI (μ 22 0 (tn x6))] μ1 (rI Q)
      refine aw_icmp_eq (tgt := 82) dX7_slipsIn_76 (by decide) (fun c0 => ?_) (fun c0 => ?_)
      · replace h := h.1 c0
        refine aw_iload dX7_slipsIn_82 rfl ?_
        refine aw_istore (ls' := [aX, aR 5 0, aX, aI x3, aI x4, aI (μ 22 0 (tn (x6 + (1 : Int32)))), aI x6, aI (μ 22 0 (tn (x6 + (1 : Int32))))]) dX7_slipsIn_84 (by decide) rfl rfl ?_
        refine aw_iinc (v := x6 + (2 : Int32)) (ls' := [aX, aR 5 0, aX, aI x3, aI x4, aI (μ 22 0 (tn (x6 + (1 : Int32)))), aI (x6 + (2 : Int32)), aI (μ 22 0 (tn (x6 + (1 : Int32))))]) dX7_slipsIn_86 rfl rfl (by decide) rfl rfl ?_
        refine aw_goto (tgt := 32) dX7_slipsIn_89 (by decide) ?_
        exact aw_wkk h (wk_e (wk_e (wk_e (wk_e (wk_e (wk_e (wk_e (wk_x wk_n))))))))
      · replace h := h.2 c0
        refine aw_iinc (v := x4 + (1 : Int32)) (ls' := [aX, aR 5 0, aX, aI x3, aI (x4 + (1 : Int32)), aI x5, aI x6, aI (μ 22 0 (tn (x6 + (1 : Int32))))]) dX7_slipsIn_79 rfl rfl (by decide) rfl rfl ?_
        refine aw_iload dX7_slipsIn_82 rfl ?_
        refine aw_istore (ls' := [aX, aR 5 0, aX, aI x3, aI (x4 + (1 : Int32)), aI (μ 22 0 (tn (x6 + (1 : Int32)))), aI x6, aI (μ 22 0 (tn (x6 + (1 : Int32))))]) dX7_slipsIn_84 (by decide) rfl rfl ?_
        refine aw_iinc (v := x6 + (2 : Int32)) (ls' := [aX, aR 5 0, aX, aI x3, aI (x4 + (1 : Int32)), aI (μ 22 0 (tn (x6 + (1 : Int32)))), aI (x6 + (2 : Int32)), aI (μ 22 0 (tn (x6 + (1 : Int32))))]) dX7_slipsIn_86 rfl rfl (by decide) rfl rfl ?_
        refine aw_goto (tgt := 32) dX7_slipsIn_89 (by decide) ?_
        exact aw_wkk h (wk_e (wk_e (wk_e (wk_e (wk_e (wk_e (wk_e (wk_x wk_n))))))))
