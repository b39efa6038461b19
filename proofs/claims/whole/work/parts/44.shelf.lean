theorem u_X6_write {Γ : cx_T} {μ : mH} {x2 : Int32} {x3 : Int32} {Q : Int32 → mH → Prop} (h : aw Γ M_X6_write 26 [aR 6 0, aR 4 1, aI x2, aI x3, aR 24 88, aI (0 : Int32)] [] (sto (sto (sto (sto μ 6 0 1 (0 : Int32)) 6 0 3 (-1 : Int32)) 6 0 2 (μ 4 1 1)) 6 0 5 (1 : Int32)) (rI Q)) : cwi Γ M_X6_write [aR 6 0, aR 4 1, aI x2, aI x3, aR 24 88] μ Q := by
  refine cw_ofU (ls := [aR 6 0, aR 4 1, aI x2, aI x3, aR 24 88, aX]) (Or.inl (by decide)) rfl (Nat.le_of_ble_eq_true rfl) rfl ?_
  refine aw_aload_n dX6_write_0 rfl ?_
  refine aw_iconst (v := (0 : Int32)) dX6_write_1 rfl ?_
  refine aw_putI dX6_write_2 rfl fk_RX6_15 (fun r h => by cases h; rfl) rfl rfl ?_
  refine aw_aload_n dX6_write_5 rfl ?_
  refine aw_iconst (v := (-1 : Int32)) dX6_write_6 rfl ?_
  refine aw_putI dX6_write_7 rfl fk_RX6_19 (fun r h => by cases h; rfl) rfl rfl ?_
  refine aw_aload_n dX6_write_10 rfl ?_
  refine aw_aload_n dX6_write_11 rfl ?_
  refine aw_get dX6_write_12 rfl fk_RX6_22 ((look_I rfl).trans (congrArg aI ((sto_K (by decide)).trans ((sto_K (by decide)).trans (rfl)))) : look (sto (sto μ 6 0 1 (0 : Int32)) 6 0 3 (-1 : Int32)) 4 1 1 = aI (μ 4 1 1)) ?_
  refine aw_putI dX6_write_15 rfl fk_RX6_27 (fun r h => by cases h; rfl) rfl rfl ?_
  refine aw_aload_n dX6_write_18 rfl ?_
  refine aw_iconst (v := (1 : Int32)) dX6_write_19 rfl ?_
  refine aw_putZ dX6_write_20 rfl fk_RX6_28 (fun r h => by cases h; rfl) rfl rfl (Or.inr rfl) ?_
  refine aw_iconst (v := (0 : Int32)) dX6_write_23 rfl ?_
  refine aw_istore (ls' := [aR 6 0, aR 4 1, aI x2, aI x3, aR 24 88, aI (0 : Int32)]) dX6_write_24 (by decide) rfl rfl ?_
  exact h
theorem u_X6_write_26 {Γ : cx_T} {μ : mH} {x2 : Int32} {x3 : Int32} {x5 : Int32} {Q : Int32 → mH → Prop} (h : ((8 : Int32) ≤ x5 → (aw Γ M_X6_write 53 [aR 6 0, aR 4 1, aI x2, aI x3, aR 24 88, aI (15 : Int32)] [] μ (rI Q))) ∧ (¬ (8 : Int32) ≤ x5 → (cwv Γ M_X6_pushBit [aR 6 0, aI (1 : Int32)] μ (fun μ1 => cwv Γ M_X6_pushBit [aR 6 0, aI (0 : Int32)] μ1 (fun μ2 => aw Γ M_X6_write 26 [aR 6 0, aR 4 1, aI x2, aI x3, aR 24 88, aI (x5 + (1 : Int32))] [] μ2 (rI Q)))))) : aw Γ M_X6_write 26 [aR 6 0, aR 4 1, aI x2, aI x3, aR 24 88, aI x5] [] μ (rI Q) := by
  refine aw_iload dX6_write_26 rfl ?_
  refine aw_bipush (v := (8 : Int32)) dX6_write_28 rfl ?_
  refine aw_icmp_ge (tgt := 49) dX6_write_30 (by decide) (fun c0 => ?_) (fun c0 => ?_)
  · replace h := h.1 c0
    refine aw_bipush (v := (15 : Int32)) dX6_write_49 rfl ?_
    refine aw_istore (ls' := [aR 6 0, aR 4 1, aI x2, aI x3, aR 24 88, aI (15 : Int32)]) dX6_write_51 (by decide) rfl rfl ?_
    exact h
  · replace h := h.2 c0
    refine aw_aload_n dX6_write_33 rfl ?_
    refine aw_iconst (v := (1 : Int32)) dX6_write_34 rfl ?_
    refine aw_callV (M' := M_X6_pushBit) (K := 6) (i := 0) (vs := [aI (1 : Int32)]) (st := []) dX6_write_35 mk_X6_pushBit mi_X6_pushBit ml_RX6_32 mp_X6_pushBit rc_6 rm_X6_write__X6_pushBit (Nat.le_of_ble_eq_true rfl) rfl (cw_mono h ?_)
    clear h
    intro _ μ1 h
    show aw Γ M_X6_write 38 [aR 6 0, aR 4 1, aI x2, aI x3, aR 24 88, aI x5] [] μ1 (rI Q)
    refine aw_aload_n dX6_write_38 rfl ?_
    refine aw_iconst (v := (0 : Int32)) dX6_write_39 rfl ?_
    refine aw_callV (M' := M_X6_pushBit) (K := 6) (i := 0) (vs := [aI (0 : Int32)]) (st := []) dX6_write_40 mk_X6_pushBit mi_X6_pushBit ml_RX6_32 mp_X6_pushBit rc_6 rm_X6_write__X6_pushBit (Nat.le_of_ble_eq_true rfl) rfl (cw_mono h ?_)
    clear h
    intro _ μ2 h
    show aw Γ M_X6_write 43 [aR 6 0, aR 4 1, aI x2, aI x3, aR 24 88, aI x5] [] μ2 (rI Q)
    refine aw_iinc (v := x5 + (1 : Int32)) (ls' := [aR 6 0, aR 4 1, aI x2, aI x3, aR 24 88, aI (x5 + (1 : Int32))]) dX6_write_43 rfl rfl (by decide) rfl rfl ?_
    refine aw_goto (tgt := 26) dX6_write_46 (by decide) ?_
    exact h
theorem u_X6_write_53 {Γ : cx_T} {μ : mH} {x2 : Int32} {x3 : Int32} {x5 : Int32} {Q : Int32 → mH → Prop} (h : (x5 < 0 → (cwi Γ M_X4_firstByte [aR 4 1, aI x2, aI x3] (sto μ 6 0 4 ((μ 4 1 3) &&& (1 : Int32))) (fun r2 μ1 => cwv Γ M_X6_pushByte [aR 6 0, aI r2] μ1 (fun μ3 => cwi Γ M_X4_secondByte [aR 4 1, aI x2, aI x3] μ3 (fun r5 μ4 => cwv Γ M_X6_pushByte [aR 6 0, aI r5] μ4 (fun μ6 => aw Γ M_X6_write 110 [aR 6 0, aR 4 1, aI x2, aI x3, aR 24 88, aI (0 : Int32)] [] μ6 (rI Q))))))) ∧ (¬ x5 < 0 → (cwv Γ M_X6_pushBit [aR 6 0, aI (((μ 4 1 3) >>> (x5 &&& 31)) &&& (1 : Int32))] μ (fun μ7 => aw Γ M_X6_write 53 [aR 6 0, aR 4 1, aI x2, aI x3, aR 24 88, aI (x5 + (-1 : Int32))] [] μ7 (rI Q))))) : aw Γ M_X6_write 53 [aR 6 0, aR 4 1, aI x2, aI x3, aR 24 88, aI x5] [] μ (rI Q) := by
  refine aw_iload dX6_write_53 rfl ?_
  refine aw_if_lt (tgt := 77) dX6_write_55 (by decide) (fun c0 => ?_) (fun c0 => ?_)
  · replace h := h.1 c0
    refine aw_aload_n dX6_write_77 rfl ?_
    refine aw_aload_n dX6_write_78 rfl ?_
    refine aw_get dX6_write_79 rfl fk_RX6_36 (look_I rfl : look μ 4 1 3 = aI (μ 4 1 3)) ?_
    refine aw_iconst (v := (1 : Int32)) dX6_write_82 rfl ?_
    refine aw_iand dX6_write_83 ?_
    refine aw_putI dX6_write_84 rfl fk_RX6_39 (fun r h => by cases h; rfl) rfl rfl ?_
    refine aw_aload_n dX6_write_87 rfl ?_
    refine aw_aload_n dX6_write_88 rfl ?_
    refine aw_iload_n dX6_write_89 rfl ?_
    refine aw_iload_n dX6_write_90 rfl ?_
    refine aw_callV (M' := M_X4_firstByte) (K := 4) (i := 1) (vs := [aI x2, aI x3]) (st := [aR 6 0]) dX6_write_91 mk_X4_firstByte mi_X4_firstByte ml_RX6_42 mp_X4_firstByte rc_4 rm_X6_write__X4_firstByte (Nat.le_of_ble_eq_true rfl) rfl (cw_mono h ?_)
    clear h
    rintro _ μ1 ⟨r2, rfl, h⟩
    show aw Γ M_X6_write 94 [aR 6 0, aR 4 1, aI x2, aI x3, aR 24 88, aI x5] [aI r2, aR 6 0] μ1 (rI Q)
    refine aw_callV (M' := M_X6_pushByte) (K := 6) (i := 0) (vs := [aI r2]) (st := []) dX6_write_94 mk_X6_pushByte mi_X6_pushByte ml_RX6_46 mp_X6_pushByte rc_6 rm_X6_write__X6_pushByte (Nat.le_of_ble_eq_true rfl) rfl (cw_mono h ?_)
    clear h
    intro _ μ3 h
    show aw Γ M_X6_write 97 [aR 6 0, aR 4 1, aI x2, aI x3, aR 24 88, aI x5] [] μ3 (rI Q)
    refine aw_aload_n dX6_write_97 rfl ?_
    refine aw_aload_n dX6_write_98 rfl ?_
    refine aw_iload_n dX6_write_99 rfl ?_
    refine aw_iload_n dX6_write_100 rfl ?_
    refine aw_callV (M' := M_X4_secondByte) (K := 4) (i := 1) (vs := [aI x2, aI x3]) (st := [aR 6 0]) dX6_write_101 mk_X4_secondByte mi_X4_secondByte ml_RX6_49 mp_X4_secondByte rc_4 rm_X6_write__X4_secondByte (Nat.le_of_ble_eq_true rfl) rfl (cw_mono h ?_)
    clear h
    rintro _ μ4 ⟨r5, rfl, h⟩
    show aw Γ M_X6_write 104 [aR 6 0, aR 4 1, aI x2, aI x3, aR 24 88, aI x5] [aI r5, aR 6 0] μ4 (rI Q)
    refine aw_callV (M' := M_X6_pushByte) (K := 6) (i := 0) (vs := [aI r5]) (st := []) dX6_write_104 mk_X6_pushByte mi_X6_pushByte ml_RX6_46 mp_X6_pushByte rc_6 rm_X6_write__X6_pushByte (Nat.le_of_ble_eq_true rfl) rfl (cw_mono h ?_)
    clear h
    intro _ μ6 h
    show aw Γ M_X6_write 107 [aR 6 0, aR 4 1, aI x2, aI x3, aR 24 88, aI x5] [] μ6 (rI Q)
    refine aw_iconst (v := (0 : Int32)) dX6_write_107 rfl ?_
    refine aw_istore (ls' := [aR 6 0, aR 4 1, aI x2, aI x3, aR 24 88, aI (0 : Int32)]) dX6_write_108 (by decide) rfl rfl ?_
    exact h
  · replace h := h.2 c0
    refine aw_aload_n dX6_write_58 rfl ?_
    refine aw_aload_n dX6_write_59 rfl ?_
    refine aw_get dX6_write_60 rfl fk_RX6_36 (look_I rfl : look μ 4 1 3 = aI (μ 4 1 3)) ?_
    refine aw_iload dX6_write_63 rfl ?_
    refine aw_ishr dX6_write_65 ?_
    refine aw_iconst (v := (1 : Int32)) dX6_write_66 rfl ?_
    refine aw_iand dX6_write_67 ?_
    refine aw_callV (M' := M_X6_pushBit) (K := 6) (i := 0) (vs := [aI (((μ 4 1 3) >>> (x5 &&& 31)) &&& (1 : Int32))]) (st := []) dX6_write_68 mk_X6_pushBit mi_X6_pushBit ml_RX6_32 mp_X6_pushBit rc_6 rm_X6_write__X6_pushBit (Nat.le_of_ble_eq_true rfl) rfl (cw_mono h ?_)
    clear h
    intro _ μ7 h
    show aw Γ M_X6_write 71 [aR 6 0, aR 4 1, aI x2, aI x3, aR 24 88, aI x5] [] μ7 (rI Q)
    refine aw_iinc (v := x5 + (-1 : Int32)) (ls' := [aR 6 0, aR 4 1, aI x2, aI x3, aR 24 88, aI (x5 + (-1 : Int32))]) dX6_write_71 rfl rfl (by decide) rfl rfl ?_
    refine aw_goto (tgt := 53) dX6_write_74 (by decide) ?_
    exact h
theorem u_X6_write_110 {Γ : cx_T} {μ : mH} {x2 : Int32} {x3 : Int32} {x5 : Int32} {Q : Int32 → mH → Prop} (h : ((μ 4 1 4) ≤ x5 → (aw Γ M_X6_write 142 [aR 6 0, aR 4 1, aI x2, aI x3, aR 24 88, aX] [] μ (rI Q))) ∧ (¬ (μ 4 1 4) ≤ x5 → (((8 : Int32) ≤ x5 → (aw Γ M_X6_write 142 [aR 6 0, aR 4 1, aI x2, aI x3, aR 24 88, aX] [] μ (rI Q))) ∧ (¬ (8 : Int32) ≤ x5 → (vp_in x5 8 ∧ (cwv Γ M_X6_pushByte [aR 6 0, aI (μ 24 88 (tn x5))] μ (fun μ1 => aw Γ M_X6_write 110 [aR 6 0, aR 4 1, aI x2, aI x3, aR 24 88, aI (x5 + (1 : Int32))] [] μ1 (rI Q)))))))) : aw Γ M_X6_write 110 [aR 6 0, aR 4 1, aI x2, aI x3, aR 24 88, aI x5] [] μ (rI Q) := by
  refine aw_iload dX6_write_110 rfl ?_
  refine aw_aload_n dX6_write_112 rfl ?_
  refine aw_get dX6_write_113 rfl fk_RX6_52 (look_I rfl : look μ 4 1 4 = aI (μ 4 1 4)) ?_
  refine aw_icmp_ge (tgt := 142) dX6_write_116 (by decide) (fun c0 => ?_) (fun c0 => ?_)
  · replace h := h.1 c0
    exact aw_wkk h (wk_e (wk_e (wk_e (wk_e (wk_e (wk_x wk_n))))))
  · replace h := h.2 c0
    refine aw_iload dX6_write_119 rfl ?_
    refine aw_aload dX6_write_121 rfl ?_
    refine aw_alen (v := (8 : Int32)) dX6_write_123 rfl rfl ?_
    refine aw_icmp_ge (tgt := 142) dX6_write_124 (by decide) (fun c0 => ?_) (fun c0 => ?_)
    · replace h := h.1 c0
      exact aw_wkk h (wk_e (wk_e (wk_e (wk_e (wk_e (wk_x wk_n))))))
    · replace h := h.2 c0
      refine aw_aload_n dX6_write_127 rfl ?_
      refine aw_aload dX6_write_128 rfl ?_
      refine aw_iload dX6_write_130 rfl ?_
      refine aw_ia (j := tn x5) (y := μ 24 88 (tn x5)) dX6_write_132 rfl (fun _ => rfl) h.1 rfl (rfl) ?_
      replace h := h.2
      refine aw_callV (M' := M_X6_pushByte) (K := 6) (i := 0) (vs := [aI (μ 24 88 (tn x5))]) (st := []) dX6_write_133 mk_X6_pushByte mi_X6_pushByte ml_RX6_46 mp_X6_pushByte rc_6 rm_X6_write__X6_pushByte (Nat.le_of_ble_eq_true rfl) rfl (cw_mono h ?_)
      clear h
      intro _ μ1 h
      show aw Γ M_X6_write 136 [aR 6 0, aR 4 1, aI x2, aI x3, aR 24 88, aI x5] [] μ1 (rI Q)
      refine aw_iinc (v := x5 + (1 : Int32)) (ls' := [aR 6 0, aR 4 1, aI x2, aI x3, aR 24 88, aI (x5 + (1 : Int32))]) dX6_write_136 rfl rfl (by decide) rfl rfl ?_
      refine aw_goto (tgt := 110) dX6_write_139 (by decide) ?_
      exact h
theorem u_X6_write_142 {Γ : cx_T} {μ : mH} {x2 : Int32} {x3 : Int32} {Q : Int32 → mH → Prop} (h : cwi Γ M_X4_sumOf [aR 4 1, aI x2, aI x3, aR 24 88] μ (fun r2 μ1 => cwv Γ M_X6_pushByte [aR 6 0, aI (r2 >>> ((8 : Int32) &&& 31))] μ1 (fun μ3 => cwv Γ M_X6_pushByte [aR 6 0, aI (r2 &&& (255 : Int32))] μ3 (fun μ4 => cwv Γ M_X6_pushBit [aR 6 0, aI (1 : Int32)] μ4 (fun μ5 => ((μ5 6 0 5) = 0 ∨ (μ5 6 0 5) = 1) ∧ Q (μ5 6 0 5) μ5))))) : aw Γ M_X6_write 142 [aR 6 0, aR 4 1, aI x2, aI x3, aR 24 88, aX] [] μ (rI Q) := by
  refine aw_aload_n dX6_write_142 rfl ?_
  refine aw_iload_n dX6_write_143 rfl ?_
  refine aw_iload_n dX6_write_144 rfl ?_
  refine aw_aload dX6_write_145 rfl ?_
  refine aw_callV (M' := M_X4_sumOf) (K := 4) (i := 1) (vs := [aI x2, aI x3, aR 24 88]) (st := []) dX6_write_147 mk_X4_sumOf mi_X4_sumOf ml_RX6_53 mp_X4_sumOf rc_4 rm_X6_write__X4_sumOf (Nat.le_of_ble_eq_true rfl) rfl (cw_mono h ?_)
  clear h
  rintro _ μ1 ⟨r2, rfl, h⟩
  show aw Γ M_X6_write 150 [aR 6 0, aR 4 1, aI x2, aI x3, aR 24 88, aX] [aI r2] μ1 (rI Q)
  refine aw_istore (ls' := [aR 6 0, aR 4 1, aI x2, aI x3, aR 24 88, aI r2]) dX6_write_150 (by decide) rfl rfl ?_
  refine aw_aload_n dX6_write_152 rfl ?_
  refine aw_iload dX6_write_153 rfl ?_
  refine aw_bipush (v := (8 : Int32)) dX6_write_155 rfl ?_
  refine aw_ishr dX6_write_157 ?_
  refine aw_callV (M' := M_X6_pushByte) (K := 6) (i := 0) (vs := [aI (r2 >>> ((8 : Int32) &&& 31))]) (st := []) dX6_write_158 mk_X6_pushByte mi_X6_pushByte ml_RX6_46 mp_X6_pushByte rc_6 rm_X6_write__X6_pushByte (Nat.le_of_ble_eq_true rfl) rfl (cw_mono h ?_)
  clear h
  intro _ μ3 h
  show aw Γ M_X6_write 161 [aR 6 0, aR 4 1, aI x2, aI x3, aR 24 88, aI r2] [] μ3 (rI Q)
  refine aw_aload_n dX6_write_161 rfl ?_
  refine aw_iload dX6_write_162 rfl ?_
  refine aw_sipush (v := (255 : Int32)) dX6_write_164 rfl ?_
  refine aw_iand dX6_write_167 ?_
  refine aw_callV (M' := M_X6_pushByte) (K := 6) (i := 0) (vs := [aI (r2 &&& (255 : Int32))]) (st := []) dX6_write_168 mk_X6_pushByte mi_X6_pushByte ml_RX6_46 mp_X6_pushByte rc_6 rm_X6_write__X6_pushByte (Nat.le_of_ble_eq_true rfl) rfl (cw_mono h ?_)
  clear h
  intro _ μ4 h
  show aw Γ M_X6_write 171 [aR 6 0, aR 4 1, aI x2, aI x3, aR 24 88, aI r2] [] μ4 (rI Q)
  refine aw_aload_n dX6_write_171 rfl ?_
  refine aw_iconst (v := (1 : Int32)) dX6_write_172 rfl ?_
  refine aw_callV (M' := M_X6_pushBit) (K := 6) (i := 0) (vs := [aI (1 : Int32)]) (st := []) dX6_write_173 mk_X6_pushBit mi_X6_pushBit ml_RX6_32 mp_X6_pushBit rc_6 rm_X6_write__X6_pushBit (Nat.le_of_ble_eq_true rfl) rfl (cw_mono h ?_)
  clear h
  intro _ μ5 h
  show aw Γ M_X6_write 176 [aR 6 0, aR 4 1, aI x2, aI x3, aR 24 88, aI r2] [] μ5 (rI Q)
  refine aw_aload_n dX6_write_176 rfl ?_
  refine aw_get dX6_write_177 rfl fk_RX6_28 (look_I rfl : look μ5 6 0 5 = aI (μ5 6 0 5)) ?_
  exact aw_iret (ty := .boolean) dX6_write_180 rfl (nar_z h.1).1 ⟨_, rfl, h.2⟩
theorem u_X6_pushByte {Γ : cx_T} {μ : mH} {x1 : Int32} {Q : mH → Prop} (h : aw Γ M_X6_pushByte 3 [aR 6 0, aI x1, aI (7 : Int32), aX] [] μ (rV Q)) : cwv Γ M_X6_pushByte [aR 6 0, aI x1] μ Q := by
  refine cw_ofU (ls := [aR 6 0, aI x1, aX, aX]) (Or.inl (by decide)) rfl (Nat.le_of_ble_eq_true rfl) rfl ?_
  refine aw_bipush (v := (7 : Int32)) dX6_pushByte_0 rfl ?_
  refine aw_istore_n (ls' := [aR 6 0, aI x1, aI (7 : Int32), aX]) dX6_pushByte_2 (by decide) rfl rfl ?_
  exact h
theorem u_X6_pushByte_3 {Γ : cx_T} {μ : mH} {x1 : Int32} {x2 : Int32} {Q : mH → Prop} (h : (x2 < 0 → (Q μ)) ∧ (¬ x2 < 0 → (cwi Γ M_X11_clockDue [aI (μ 6 0 4), aI ((x1 >>> (x2 &&& 31)) &&& (1 : Int32))] μ (fun r2 μ1 => cwv Γ M_X6_pushBit [aR 6 0, aI r2] μ1 (fun μ3 => cwv Γ M_X6_pushBit [aR 6 0, aI ((x1 >>> (x2 &&& 31)) &&& (1 : Int32))] μ3 (fun μ4 => aw Γ M_X6_pushByte 3 [aR 6 0, aI x1, aI (x2 + (-1 : Int32)), aX] [] (sto μ4 6 0 4 ((x1 >>> (x2 &&& 31)) &&& (1 : Int32))) (rV Q))))))) : aw Γ M_X6_pushByte 3 [aR 6 0, aI x1, aI x2, aX] [] μ (rV Q) := by
  refine aw_iload_n dX6_pushByte_3 rfl ?_
  refine aw_if_lt (tgt := 41) dX6_pushByte_4 (by decide) (fun c0 => ?_) (fun c0 => ?_)
  · replace h := h.1 c0
    exact aw_vret dX6_pushByte_41 rfl h
  · replace h := h.2 c0
    refine aw_iload_n dX6_pushByte_7 rfl ?_
    refine aw_iload_n dX6_pushByte_8 rfl ?_
    refine aw_ishr dX6_pushByte_9 ?_
    refine aw_iconst (v := (1 : Int32)) dX6_pushByte_10 rfl ?_
    refine aw_iand dX6_pushByte_11 ?_
    refine aw_istore_n (ls' := [aR 6 0, aI x1, aI x2, aI ((x1 >>> (x2 &&& 31)) &&& (1 : Int32))]) dX6_pushByte_12 (by decide) rfl rfl ?_
    refine aw_aload_n dX6_pushByte_13 rfl ?_
    refine aw_aload_n dX6_pushByte_14 rfl ?_
    refine aw_get dX6_pushByte_15 rfl fk_RX6_39 (look_I rfl : look μ 6 0 4 = aI (μ 6 0 4)) ?_
    refine aw_iload_n dX6_pushByte_18 rfl ?_
    refine aw_callSN (M' := M_X11_clockDue) (vs := [aI (μ 6 0 4), aI ((x1 >>> (x2 &&& 31)) &&& (1 : Int32))]) (st := [aR 6 0]) dX6_pushByte_19 mk_X11_clockDue ms_X11_clockDue ml_RX6_57 mp_X11_clockDue rm_X6_pushByte__X11_clockDue (Nat.le_of_ble_eq_true rfl) rfl (cw_mono h ?_)
    clear h
    rintro _ μ1 ⟨r2, rfl, h⟩
    show aw Γ M_X6_pushByte 22 [aR 6 0, aI x1, aI x2, aI ((x1 >>> (x2 &&& 31)) &&& (1 : Int32))] [aI r2, aR 6 0] μ1 (rV Q)
    refine aw_callV (M' := M_X6_pushBit) (K := 6) (i := 0) (vs := [aI r2]) (st := []) dX6_pushByte_22 mk_X6_pushBit mi_X6_pushBit ml_RX6_32 mp_X6_pushBit rc_6 rm_X6_pushByte__X6_pushBit (Nat.le_of_ble_eq_true rfl) rfl (cw_mono h ?_)
    clear h
    intro _ μ3 h
    show aw Γ M_X6_pushByte 25 [aR 6 0, aI x1, aI x2, aI ((x1 >>> (x2 &&& 31)) &&& (1 : Int32))] [] μ3 (rV Q)
    refine aw_aload_n dX6_pushByte_25 rfl ?_
    refine aw_iload_n dX6_pushByte_26 rfl ?_
    refine aw_callV (M' := M_X6_pushBit) (K := 6) (i := 0) (vs := [aI ((x1 >>> (x2 &&& 31)) &&& (1 : Int32))]) (st := []) dX6_pushByte_27 mk_X6_pushBit mi_X6_pushBit ml_RX6_32 mp_X6_pushBit rc_6 rm_X6_pushByte__X6_pushBit (Nat.le_of_ble_eq_true rfl) rfl (cw_mono h ?_)
    clear h
    intro _ μ4 h
    show aw Γ M_X6_pushByte 30 [aR 6 0, aI x1, aI x2, aI ((x1 >>> (x2 &&& 31)) &&& (1 : Int32))] [] μ4 (rV Q)
    refine aw_aload_n dX6_pushByte_30 rfl ?_
    refine aw_iload_n dX6_pushByte_31 rfl ?_
    refine aw_putI dX6_pushByte_32 rfl fk_RX6_39 (fun r h => by cases h; rfl) rfl rfl ?_
    refine aw_iinc (v := x2 + (-1 : Int32)) (ls' := [aR 6 0, aI x1, aI (x2 + (-1 : Int32)), aI ((x1 >>> (x2 &&& 31)) &&& (1 : Int32))]) dX6_pushByte_35 rfl rfl (by decide) rfl rfl ?_
    refine aw_goto (tgt := 3) dX6_pushByte_38 (by decide) ?_
    exact aw_wkk h (wk_e (wk_e (wk_e (wk_x wk_n))))
theorem u_X6_pushBit {Γ : cx_T} {μ : mH} {x1 : Int32} {Q : mH → Prop} (h : ((μ 6 0 3) = (-1 : Int32) → (aw Γ M_X6_pushBit 18 [aR 6 0, aI x1] [] μ (rV Q))) ∧ (¬ (μ 6 0 3) = (-1 : Int32) → (aw Γ M_X6_pushBit 18 [aR 6 0, aI x1] [] (sto μ 6 0 3 ((μ 6 0 3) + (1 : Int32))) (rV Q)))) : cwv Γ M_X6_pushBit [aR 6 0, aI x1] μ Q := by
  refine cw_ofU (ls := [aR 6 0, aI x1]) (Or.inl (by decide)) rfl (Nat.le_of_ble_eq_true rfl) rfl ?_
  refine aw_aload_n dX6_pushBit_0 rfl ?_
  refine aw_get dX6_pushBit_1 rfl fk_RX6_19 (look_I rfl : look μ 6 0 3 = aI (μ 6 0 3)) ?_
  refine aw_iconst (v := (-1 : Int32)) dX6_pushBit_4 rfl ?_
  refine aw_icmp_eq (tgt := 18) dX6_pushBit_5 (by decide) (fun c0 => ?_) (fun c0 => ?_)
  · replace h := h.1 c0
    exact h
  · replace h := h.2 c0
    refine aw_aload_n dX6_pushBit_8 rfl ?_
    refine aw_dup dX6_pushBit_9 (fun _ => rfl) ?_
    refine aw_get dX6_pushBit_10 rfl fk_RX6_19 (look_I rfl : look μ 6 0 3 = aI (μ 6 0 3)) ?_
    refine aw_iconst (v := (1 : Int32)) dX6_pushBit_13 rfl ?_
    refine aw_iadd dX6_pushBit_14 ?_
    refine aw_putI dX6_pushBit_15 rfl fk_RX6_19 (fun r h => by cases h; rfl) rfl rfl ?_
    exact h
theorem u_X6_pushBit_18 {Γ : cx_T} {μ : mH} {x1 : Int32} {Q : mH → Prop} (h : (¬ x1 = 0 → (((μ 6 0 3) = (-1 : Int32) → (Q (sto μ 6 0 3 (0 : Int32)))) ∧ (¬ (μ 6 0 3) = (-1 : Int32) → (((225 : Int32) ≤ (μ 6 0 1) → (Q (sto μ 6 0 3 (0 : Int32)))) ∧ (¬ (225 : Int32) ≤ (μ 6 0 1) → (((μ 6 0 5) = 0 → (aw Γ M_X6_pushBit 69 [aR 6 0, aX] [aI (0 : Int32), aR 6 0] μ (rV Q))) ∧ (¬ (μ 6 0 5) = 0 → (((255 : Int32) < ((μ 6 0 2) * (μ 6 0 3)) → (aw Γ M_X6_pushBit 69 [aR 6 0, aX] [aI (0 : Int32), aR 6 0] μ (rV Q))) ∧ (¬ (255 : Int32) < ((μ 6 0 2) * (μ 6 0 3)) → (aw Γ M_X6_pushBit 69 [aR 6 0, aX] [aI (1 : Int32), aR 6 0] μ (rV Q))))))))))) ∧ (x1 = 0 → (Q μ))) : aw Γ M_X6_pushBit 18 [aR 6 0, aI x1] [] μ (rV Q) := by
  refine aw_iload_n dX6_pushBit_18 rfl ?_
  refine aw_if_ne (tgt := 23) dX6_pushBit_19 (by decide) (fun c0 => ?_) (fun c0 => ?_)
  · replace h := h.1 c0
    refine aw_aload_n dX6_pushBit_23 rfl ?_
    refine aw_get dX6_pushBit_24 rfl fk_RX6_19 (look_I rfl : look μ 6 0 3 = aI (μ 6 0 3)) ?_
    refine aw_iconst (v := (-1 : Int32)) dX6_pushBit_27 rfl ?_
    refine aw_icmp_eq (tgt := 100) dX6_pushBit_28 (by decide) (fun c0 => ?_) (fun c0 => ?_)
    · replace h := h.1 c0
      refine aw_aload_n dX6_pushBit_100 rfl ?_
      refine aw_iconst (v := (0 : Int32)) dX6_pushBit_101 rfl ?_
      refine aw_putI dX6_pushBit_102 rfl fk_RX6_19 (fun r h => by cases h; rfl) rfl rfl ?_
      exact aw_vret dX6_pushBit_105 rfl h
    · replace h := h.2 c0
      refine aw_aload_n dX6_pushBit_31 rfl ?_
      refine aw_get dX6_pushBit_32 rfl fk_RX6_15 (look_I rfl : look μ 6 0 1 = aI (μ 6 0 1)) ?_
      refine aw_sipush (v := (225 : Int32)) dX6_pushBit_35 rfl ?_
      refine aw_icmp_ge (tgt := 100) dX6_pushBit_38 (by decide) (fun c0 => ?_) (fun c0 => ?_)
      · replace h := h.1 c0
        refine aw_aload_n dX6_pushBit_100 rfl ?_
        refine aw_iconst (v := (0 : Int32)) dX6_pushBit_101 rfl ?_
        refine aw_putI dX6_pushBit_102 rfl fk_RX6_19 (fun r h => by cases h; rfl) rfl rfl ?_
        exact aw_vret dX6_pushBit_105 rfl h
      · replace h := h.2 c0
        refine aw_aload_n dX6_pushBit_41 rfl ?_
        refine aw_aload_n dX6_pushBit_42 rfl ?_
        refine aw_get dX6_pushBit_43 rfl fk_RX6_28 (look_I rfl : look μ 6 0 5 = aI (μ 6 0 5)) ?_
        refine aw_if_eq (tgt := 68) dX6_pushBit_46 (by decide) (fun c0 => ?_) (fun c0 => ?_)
        · replace h := h.1 c0
          refine aw_iconst (v := (0 : Int32)) dX6_pushBit_68 rfl ?_
          exact aw_wkk h (wk_e (wk_x wk_n))
        · replace h := h.2 c0
          refine aw_aload_n dX6_pushBit_49 rfl ?_
          refine aw_get dX6_pushBit_50 rfl fk_RX6_27 (look_I rfl : look μ 6 0 2 = aI (μ 6 0 2)) ?_
          refine aw_aload_n dX6_pushBit_53 rfl ?_
          refine aw_get dX6_pushBit_54 rfl fk_RX6_19 (look_I rfl : look μ 6 0 3 = aI (μ 6 0 3)) ?_
          refine aw_imul dX6_pushBit_57 ?_
          refine aw_sipush (v := (255 : Int32)) dX6_pushBit_58 rfl ?_
          refine aw_icmp_gt (tgt := 68) dX6_pushBit_61 (by decide) (fun c0 => ?_) (fun c0 => ?_)
          · replace h := h.1 c0
            refine aw_iconst (v := (0 : Int32)) dX6_pushBit_68 rfl ?_
            exact aw_wkk h (wk_e (wk_x wk_n))
          · replace h := h.2 c0
            refine aw_iconst (v := (1 : Int32)) dX6_pushBit_64 rfl ?_
            refine aw_goto (tgt := 69) dX6_pushBit_65 (by decide) ?_
            exact aw_wkk h (wk_e (wk_x wk_n))
  · replace h := h.2 c0
    exact aw_vret dX6_pushBit_22 rfl h
theorem u_X6_pushBit_69 {Γ : cx_T} {μ : mH} {y0 : Int32} {Q : mH → Prop} (h : (y0 = 0 ∨ y0 = 1) ∧ (vp_in (μ 6 0 1) 225 ∧ (Q (sto (sto (sto (sto μ 6 0 5 y0) 39 0 (tn (μ 6 0 1)) ((μ 6 0 2) * (μ 6 0 3))) 6 0 1 ((μ 6 0 1) + (1 : Int32))) 6 0 3 (0 : Int32))))) : aw Γ M_X6_pushBit 69 [aR 6 0, aX] [aI y0, aR 6 0] μ (rV Q) := by
  refine aw_putZ dX6_pushBit_69 rfl fk_RX6_28 (fun r h => by cases h; rfl) rfl rfl h.1 ?_
  replace h := h.2
  refine aw_aload_n dX6_pushBit_72 rfl ?_
  refine aw_get dX6_pushBit_73 rfl fk_RX6_11 (look_R rfl rfl : look _ 6 0 0 = aR 39 0) ?_
  refine aw_aload_n dX6_pushBit_76 rfl ?_
  refine aw_get dX6_pushBit_77 rfl fk_RX6_15 ((look_I rfl).trans (congrArg aI ((sto_s (by decide)).trans (rfl))) : look (sto μ 6 0 5 y0) 6 0 1 = aI (μ 6 0 1)) ?_
  refine aw_aload_n dX6_pushBit_80 rfl ?_
  refine aw_get dX6_pushBit_81 rfl fk_RX6_27 ((look_I rfl).trans (congrArg aI ((sto_s (by decide)).trans (rfl))) : look (sto μ 6 0 5 y0) 6 0 2 = aI (μ 6 0 2)) ?_
  refine aw_aload_n dX6_pushBit_84 rfl ?_
  refine aw_get dX6_pushBit_85 rfl fk_RX6_19 ((look_I rfl).trans (congrArg aI ((sto_s (by decide)).trans (rfl))) : look (sto μ 6 0 5 y0) 6 0 3 = aI (μ 6 0 3)) ?_
  refine aw_imul dX6_pushBit_88 ?_
  refine aw_is (j := tn (μ 6 0 1)) dX6_pushBit_89 rfl (fun _ => rfl) h.1 rfl ?_
  replace h := h.2
  refine aw_aload_n dX6_pushBit_90 rfl ?_
  refine aw_dup dX6_pushBit_91 (fun _ => rfl) ?_
  refine aw_get dX6_pushBit_92 rfl fk_RX6_15 ((look_I rfl).trans (congrArg aI ((sto_K (by decide)).trans ((sto_s (by decide)).trans (rfl)))) : look (sto (sto μ 6 0 5 y0) 39 0 (tn (μ 6 0 1)) ((μ 6 0 2) * (μ 6 0 3))) 6 0 1 = aI (μ 6 0 1)) ?_
  refine aw_iconst (v := (1 : Int32)) dX6_pushBit_95 rfl ?_
  refine aw_iadd dX6_pushBit_96 ?_
  refine aw_putI dX6_pushBit_97 rfl fk_RX6_15 (fun r h => by cases h; rfl) rfl rfl ?_
  refine aw_aload_n dX6_pushBit_100 rfl ?_
  refine aw_iconst (v := (0 : Int32)) dX6_pushBit_101 rfl ?_
  refine aw_putI dX6_pushBit_102 rfl fk_RX6_19 (fun r h => by cases h; rfl) rfl rfl ?_
  exact aw_vret dX6_pushBit_105 rfl h
theorem u_X8_holds {Γ : cx_T} {μ : mH} {x1 : Int32} {Q : Int32 → mH → Prop} (h : (x1 < 0 → (Q (0 : Int32) μ)) ∧ (¬ x1 < 0 → (((μ 8 0 1) ≤ x1 → (Q (0 : Int32) μ)) ∧ (¬ (μ 8 0 1) ≤ x1 → (Q (1 : Int32) μ))))) : cwi Γ M_X8_holds [aR 8 0, aI x1] μ Q := by
  refine cw_ofU (ls := [aR 8 0, aI x1]) (Or.inl (by decide)) rfl (Nat.le_of_ble_eq_true rfl) rfl ?_
  refine aw_iload_n dX8_holds_0 rfl ?_
  refine aw_if_lt (tgt := 16) dX8_holds_1 (by decide) (fun c0 => ?_) (fun c0 => ?_)
  · replace h := h.1 c0
    refine aw_iconst (v := (0 : Int32)) dX8_holds_16 rfl ?_
    exact aw_iret (ty := .boolean) dX8_holds_17 rfl (by decide) ⟨_, rfl, h⟩
  · replace h := h.2 c0
    refine aw_iload_n dX8_holds_4 rfl ?_
    refine aw_aload_n dX8_holds_5 rfl ?_
    refine aw_get dX8_holds_6 rfl fk_RX8_25 (look_I rfl : look μ 8 0 1 = aI (μ 8 0 1)) ?_
    refine aw_icmp_ge (tgt := 16) dX8_holds_9 (by decide) (fun c0 => ?_) (fun c0 => ?_)
    · replace h := h.1 c0
      refine aw_iconst (v := (0 : Int32)) dX8_holds_16 rfl ?_
      exact aw_iret (ty := .boolean) dX8_holds_17 rfl (by decide) ⟨_, rfl, h⟩
    · replace h := h.2 c0
      refine aw_iconst (v := (1 : Int32)) dX8_holds_12 rfl ?_
      refine aw_goto (tgt := 17) dX8_holds_13 (by decide) ?_
      exact aw_iret (ty := .boolean) dX8_holds_17 rfl (by decide) ⟨_, rfl, h⟩
theorem u_X8_put {Γ : cx_T} {μ : mH} {x2 : Int32} {Q : mH → Prop} (h : ((μ 8 0 1) < (10 : Int32) → (vp_in (μ 8 0 1) 10 ∧ (cwv Γ M_X10_take [aR 10 (tn (μ 8 0 1) + 1), aR 10 0] μ (fun μ1 => cwv Γ M_X5_fill [aR 5 0, aR 10 0, aI (μ1 4 1 1), aI (μ1 4 1 2)] (sto (sto μ1 9 (tn (μ 8 0 1)) 2 x2) 9 (tn (μ 8 0 1)) 3 (0 : Int32)) (fun μ2 => cwv Γ M_X1_search [aR 1 (tn (μ 8 0 1)), aR 5 0, aR 4 1] μ2 (fun μ3 => Q (sto μ3 8 0 1 ((μ3 8 0 1) + (1 : Int32))))))))) ∧ (¬ (μ 8 0 1) < (10 : Int32) → (Q μ))) : cwv Γ M_X8_put [aR 8 0, aR 10 0, aI x2, aR 4 1, aR 5 0] μ Q := by
  refine cw_ofU (ls := [aR 8 0, aR 10 0, aI x2, aR 4 1, aR 5 0, aX]) (Or.inl (by decide)) rfl (Nat.le_of_ble_eq_true rfl) rfl ?_
  refine aw_aload_n dX8_put_0 rfl ?_
  refine aw_get dX8_put_1 rfl fk_RX8_25 (look_I rfl : look μ 8 0 1 = aI (μ 8 0 1)) ?_
  refine aw_bipush (v := (10 : Int32)) dX8_put_4 rfl ?_
  refine aw_icmp_lt (tgt := 10) dX8_put_6 (by decide) (fun c0 => ?_) (fun c0 => ?_)
  · replace h := h.1 c0
    refine aw_aload_n dX8_put_10 rfl ?_
    refine aw_get dX8_put_11 rfl fk_RX8_11 (look_R rfl rfl : look _ 8 0 0 = aR 25 0) ?_
    refine aw_aload_n dX8_put_14 rfl ?_
    refine aw_get dX8_put_15 rfl fk_RX8_25 (look_I rfl : look μ 8 0 1 = aI (μ 8 0 1)) ?_
    refine aw_aald dX8_put_18 rfl rfl h.1 ((congrArg (look _ 25 0) (show Int32.toNatClampNeg (μ 8 0 1) = tn (μ 8 0 1) from rfl)).trans (look_R rfl rfl) : look _ 25 0 _ = aR 9 (tn (μ 8 0 1))) ?_
    replace h := h.2
    refine aw_astore (ls' := [aR 8 0, aR 10 0, aI x2, aR 4 1, aR 5 0, aR 9 (tn (μ 8 0 1))]) dX8_put_19 (by decide) rfl rfl ?_
    refine aw_aload dX8_put_21 rfl ?_
    refine aw_get dX8_put_23 rfl fk_RX8_29 (look_R rfl rfl : look _ 9 (tn (μ 8 0 1)) 0 = aR 10 (tn (μ 8 0 1) + 1)) ?_
    refine aw_aload_n dX8_put_26 rfl ?_
    refine aw_callV (M' := M_X10_take) (K := 10) (i := (tn (μ 8 0 1) + 1)) (vs := [aR 10 0]) (st := []) dX8_put_27 mk_X10_take mi_X10_take ml_RX8_33 mp_X10_take rc_10 rm_X8_put__X10_take (Nat.le_of_ble_eq_true rfl) rfl (cw_mono h ?_)
    clear h
    intro _ μ1 h
    show aw Γ M_X8_put 30 [aR 8 0, aR 10 0, aI x2, aR 4 1, aR 5 0, aR 9 (tn (μ 8 0 1))] [] μ1 (rV Q)
    refine aw_aload dX8_put_30 rfl ?_
    refine aw_iload_n dX8_put_32 rfl ?_
    refine aw_putI dX8_put_33 rfl fk_RX8_39 (fun r h => by cases h; rfl) rfl rfl ?_
    refine aw_aload dX8_put_36 rfl ?_
    refine aw_iconst (v := (0 : Int32)) dX8_put_38 rfl ?_
    refine aw_putZ dX8_put_39 rfl fk_RX8_42 (fun r h => by cases h; rfl) rfl rfl (Or.inl rfl) ?_
    refine aw_aload dX8_put_42 rfl ?_
    refine aw_aload_n dX8_put_44 rfl ?_
    refine aw_aload_n dX8_put_45 rfl ?_
    refine aw_get dX8_put_46 rfl fk_RX8_46 ((look_I rfl).trans (congrArg aI ((sto_K (by decide)).trans ((sto_K (by decide)).trans (rfl)))) : look (sto (sto μ1 9 (tn (μ 8 0 1)) 2 x2) 9 (tn (μ 8 0 1)) 3 (0 : Int32)) 4 1 1 = aI (μ1 4 1 1)) ?_
    refine aw_aload_n dX8_put_49 rfl ?_
    refine aw_get dX8_put_50 rfl fk_RX8_51 ((look_I rfl).trans (congrArg aI ((sto_K (by decide)).trans ((sto_K (by decide)).trans (rfl)))) : look (sto (sto μ1 9 (tn (μ 8 0 1)) 2 x2) 9 (tn (μ 8 0 1)) 3 (0 : Int32)) 4 1 2 = aI (μ1 4 1 2)) ?_
    refine aw_callV (M' := M_X5_fill) (K := 5) (i := 0) (vs := [aR 10 0, aI (μ1 4 1 1), aI (μ1 4 1 2)]) (st := []) dX8_put_53 mk_X5_fill mi_X5_fill ml_RX8_54 mp_X5_fill rc_5 rm_X8_put__X5_fill (Nat.le_of_ble_eq_true rfl) rfl (cw_mono h ?_)
    clear h
    intro _ μ2 h
    show aw Γ M_X8_put 56 [aR 8 0, aR 10 0, aI x2, aR 4 1, aR 5 0, aR 9 (tn (μ 8 0 1))] [] μ2 (rV Q)
    refine aw_aload dX8_put_56 rfl ?_
    refine aw_get dX8_put_58 rfl fk_RX8_60 (look_R rfl rfl : look _ 9 (tn (μ 8 0 1)) 1 = aR 1 (tn (μ 8 0 1))) ?_
    refine aw_aload dX8_put_61 rfl ?_
    refine aw_aload_n dX8_put_63 rfl ?_
    refine aw_callV (M' := M_X1_search) (K := 1) (i := (tn (μ 8 0 1))) (vs := [aR 5 0, aR 4 1]) (st := []) dX8_put_64 mk_X1_search mi_X1_search ml_RX8_63 mp_X1_search rc_1 rm_X8_put__X1_search (Nat.le_of_ble_eq_true rfl) rfl (cw_mono h ?_)
    clear h
    intro _ μ3 h
    show aw Γ M_X8_put 67 [aR 8 0, aR 10 0, aI x2, aR 4 1, aR 5 0, aR 9 (tn (μ 8 0 1))] [] μ3 (rV Q)
    refine aw_aload_n dX8_put_67 rfl ?_
    refine aw_dup dX8_put_68 (fun _ => rfl) ?_
    refine aw_get dX8_put_69 rfl fk_RX8_25 (look_I rfl : look μ3 8 0 1 = aI (μ3 8 0 1)) ?_
    refine aw_iconst (v := (1 : Int32)) dX8_put_72 rfl ?_
    refine aw_iadd dX8_put_73 ?_
    refine aw_putI dX8_put_74 rfl fk_RX8_25 (fun r h => by cases h; rfl) rfl rfl ?_
    exact aw_vret dX8_put_77 rfl h
  · replace h := h.2 c0
    exact aw_vret dX8_put_9 rfl h
theorem u_X8_tune {Γ : cx_T} {μ : mH} {x1 : Int32} {Q : mH → Prop} (h : cwi Γ M_X8_holds [aR 8 0, aI x1] μ (fun r2 μ1 => (r2 = 0 → (Q μ1)) ∧ (¬ r2 = 0 → (vp_in x1 10 ∧ (((μ1 9 (tn x1) 3) = 0 → (vp_in x1 10 ∧ (cwi Γ M_J9_max_7cf53 [aI (8 : Int32), aI ((μ1 4 1 1) - (6 : Int32))] (sto (sto μ1 9 (tn x1) 3 (1 : Int32)) 9 (tn x1) 6 (-1 : Int32)) (fun r4 μ3 => cwi Γ M_J9_min_7cf53 [aI (60 : Int32), aI ((μ3 4 1 1) + (6 : Int32))] μ3 (fun r6 μ5 => aw Γ M_X8_tune 73 [aR 8 0, aX, aR 4 1, aR 5 0, aR 9 (tn x1), aX, aI r6, aI r4, aX] [] μ5 (rV Q)))))) ∧ (¬ (μ1 9 (tn x1) 3) = 0 → (Q μ1))))))) : cwv Γ M_X8_tune [aR 8 0, aI x1, aR 4 1, aR 5 0] μ Q := by
  refine cw_ofU (ls := [aR 8 0, aI x1, aR 4 1, aR 5 0, aX, aX, aX, aX, aX]) (Or.inl (by decide)) rfl (Nat.le_of_ble_eq_true rfl) rfl ?_
  refine aw_aload_n dX8_tune_0 rfl ?_
  refine aw_iload_n dX8_tune_1 rfl ?_
  refine aw_callV (M' := M_X8_holds) (K := 8) (i := 0) (vs := [aI x1]) (st := []) dX8_tune_2 mk_X8_holds mi_X8_holds ml_RX8_67 mp_X8_holds rc_8 rm_X8_tune__X8_holds (Nat.le_of_ble_eq_true rfl) rfl (cw_mono h ?_)
  clear h
  rintro _ μ1 ⟨r2, rfl, h⟩
  show aw Γ M_X8_tune 5 [aR 8 0, aI x1, aR 4 1, aR 5 0, aX, aX, aX, aX, aX] [aI r2] μ1 (rV Q)
  refine aw_if_eq (tgt := 20) dX8_tune_5 (by decide) (fun c0 => ?_) (fun c0 => ?_)
  · replace h := h.1 c0
    exact aw_vret dX8_tune_20 rfl h
  · replace h := h.2 c0
    refine aw_aload_n dX8_tune_8 rfl ?_
    refine aw_get dX8_tune_9 rfl fk_RX8_11 (look_R rfl rfl : look _ 8 0 0 = aR 25 0) ?_
    refine aw_iload_n dX8_tune_12 rfl ?_
    refine aw_aald dX8_tune_13 rfl rfl h.1 ((congrArg (look _ 25 0) (show Int32.toNatClampNeg x1 = tn x1 from rfl)).trans (look_R rfl rfl) : look _ 25 0 _ = aR 9 (tn x1)) ?_
    replace h := h.2
    refine aw_get dX8_tune_14 rfl fk_RX8_42 (look_I rfl : look μ1 9 (tn x1) 3 = aI (μ1 9 (tn x1) 3)) ?_
    refine aw_if_eq (tgt := 21) dX8_tune_17 (by decide) (fun c0 => ?_) (fun c0 => ?_)
    · replace h := h.1 c0
      refine aw_aload_n dX8_tune_21 rfl ?_
      refine aw_get dX8_tune_22 rfl fk_RX8_11 (look_R rfl rfl : look _ 8 0 0 = aR 25 0) ?_
      refine aw_iload_n dX8_tune_25 rfl ?_
      refine aw_aald dX8_tune_26 rfl rfl h.1 ((congrArg (look _ 25 0) (show Int32.toNatClampNeg x1 = tn x1 from rfl)).trans (look_R rfl rfl) : look _ 25 0 _ = aR 9 (tn x1)) ?_
      replace h := h.2
      refine aw_astore (ls' := [aR 8 0, aI x1, aR 4 1, aR 5 0, aR 9 (tn x1), aX, aX, aX, aX]) dX8_tune_27 (by decide) rfl rfl ?_
      refine aw_aload dX8_tune_29 rfl ?_
      refine aw_iconst (v := (1 : Int32)) dX8_tune_31 rfl ?_
      refine aw_putZ dX8_tune_32 rfl fk_RX8_42 (fun r h => by cases h; rfl) rfl rfl (Or.inr rfl) ?_
      refine aw_aload dX8_tune_35 rfl ?_
      refine aw_iconst (v := (-1 : Int32)) dX8_tune_37 rfl ?_
      refine aw_putI dX8_tune_38 rfl fk_RX8_71 (fun r h => by cases h; rfl) rfl rfl ?_
      refine aw_bipush (v := (8 : Int32)) dX8_tune_41 rfl ?_
      refine aw_aload_n dX8_tune_43 rfl ?_
      refine aw_get dX8_tune_44 rfl fk_RX8_46 ((look_I rfl).trans (congrArg aI ((sto_K (by decide)).trans ((sto_K (by decide)).trans (rfl)))) : look (sto (sto μ1 9 (tn x1) 3 (1 : Int32)) 9 (tn x1) 6 (-1 : Int32)) 4 1 1 = aI (μ1 4 1 1)) ?_
      refine aw_bipush (v := (6 : Int32)) dX8_tune_47 rfl ?_
      refine aw_isub dX8_tune_49 ?_
      refine aw_callS (M' := M_J9_max_7cf53) (vs := [aI (8 : Int32), aI ((μ1 4 1 1) - (6 : Int32))]) (st := []) dX8_tune_50 mk_J9_max_7cf53 ms_J9_max_7cf53 ml_RX8_74 mp_J9_max_7cf53 rm_X8_tune__J9_max_7cf53 (Nat.le_of_ble_eq_true rfl) rfl (cw_mono h ?_)
      clear h
      rintro _ μ3 ⟨r4, rfl, h⟩
      show aw Γ M_X8_tune 53 [aR 8 0, aI x1, aR 4 1, aR 5 0, aR 9 (tn x1), aX, aX, aX, aX] [aI r4] μ3 (rV Q)
      refine aw_istore (ls' := [aR 8 0, aI x1, aR 4 1, aR 5 0, aR 9 (tn x1), aI r4, aX, aX, aX]) dX8_tune_53 (by decide) rfl rfl ?_
      refine aw_bipush (v := (60 : Int32)) dX8_tune_55 rfl ?_
      refine aw_aload_n dX8_tune_57 rfl ?_
      refine aw_get dX8_tune_58 rfl fk_RX8_46 (look_I rfl : look μ3 4 1 1 = aI (μ3 4 1 1)) ?_
      refine aw_bipush (v := (6 : Int32)) dX8_tune_61 rfl ?_
      refine aw_iadd dX8_tune_63 ?_
      refine aw_callS (M' := M_J9_min_7cf53) (vs := [aI (60 : Int32), aI ((μ3 4 1 1) + (6 : Int32))]) (st := []) dX8_tune_64 mk_J9_min_7cf53 ms_J9_min_7cf53 ml_RX8_80 mp_J9_min_7cf53 rm_X8_tune__J9_min_7cf53 (Nat.le_of_ble_eq_true rfl) rfl (cw_mono h ?_)
      clear h
      rintro _ μ5 ⟨r6, rfl, h⟩
      show aw Γ M_X8_tune 67 [aR 8 0, aI x1, aR 4 1, aR 5 0, aR 9 (tn x1), aI r4, aX, aX, aX] [aI r6] μ5 (rV Q)
      refine aw_istore (ls' := [aR 8 0, aI x1, aR 4 1, aR 5 0, aR 9 (tn x1), aI r4, aI r6, aX, aX]) dX8_tune_67 (by decide) rfl rfl ?_
      refine aw_iload dX8_tune_69 rfl ?_
      refine aw_istore (ls' := [aR 8 0, aI x1, aR 4 1, aR 5 0, aR 9 (tn x1), aI r4, aI r6, aI r4, aX]) dX8_tune_71 (by decide) rfl rfl ?_
      exact aw_wkk h (wk_e (wk_x (wk_e (wk_e (wk_e (wk_x (wk_e (wk_e (wk_e wk_n)))))))))
    · replace h := h.2 c0
      exact aw_vret dX8_tune_20 rfl h
theorem u_X8_tune_73 {Γ : cx_T} {μ : mH} {i4 : Nat} {x6 : Int32} {x7 : Int32} {Q : mH → Prop} (h : (x6 < x7 → (Q μ)) ∧ (¬ x6 < x7 → (aw Γ M_X8_tune 83 [aR 8 0, aX, aR 4 1, aR 5 0, aR 9 i4, aX, aI x6, aI x7, aI (0 : Int32)] [] μ (rV Q)))) : aw Γ M_X8_tune 73 [aR 8 0, aX, aR 4 1, aR 5 0, aR 9 i4, aX, aI x6, aI x7, aX] [] μ (rV Q) := by
  refine aw_iload dX8_tune_73 rfl ?_
  refine aw_iload dX8_tune_75 rfl ?_
  refine aw_icmp_gt (tgt := 134) dX8_tune_77 (by decide) (fun c0 => ?_) (fun c0 => ?_)
  · replace h := h.1 c0
    exact aw_vret dX8_tune_134 rfl h
  · replace h := h.2 c0
    refine aw_iconst (v := (0 : Int32)) dX8_tune_80 rfl ?_
    refine aw_istore (ls' := [aR 8 0, aX, aR 4 1, aR 5 0, aR 9 i4, aX, aI x6, aI x7, aI (0 : Int32)]) dX8_tune_81 (by decide) rfl rfl ?_
    exact h
theorem u_X8_tune_83 {Γ : cx_T} {μ : mH} {i4 : Nat} {x6 : Int32} {x7 : Int32} {x8 : Int32} {Q : mH → Prop} (h : ((8 : Int32) < x8 → (aw Γ M_X8_tune 73 [aR 8 0, aX, aR 4 1, aR 5 0, aR 9 i4, aX, aI x6, aI (x7 + (1 : Int32)), aX] [] μ (rV Q))) ∧ (¬ (8 : Int32) < x8 → (cwv Γ M_X5_fill [aR 5 0, aR 10 (i4 + 1), aI x7, aI x8] μ (fun μ1 => cwv Γ M_X1_search [aR 1 10, aR 5 0, aR 4 1] μ1 (fun μ2 => cwv Γ M_X8_keepBetter [aR 8 0, aR 9 i4, aI x7, aI x8] μ2 (fun μ3 => aw Γ M_X8_tune 83 [aR 8 0, aX, aR 4 1, aR 5 0, aR 9 i4, aX, aI x6, aI x7, aI (x8 + (1 : Int32))] [] μ3 (rV Q))))))) : aw Γ M_X8_tune 83 [aR 8 0, aX, aR 4 1, aR 5 0, aR 9 i4, aX, aI x6, aI x7, aI x8] [] μ (rV Q) := by
  refine aw_iload dX8_tune_83 rfl ?_
  refine aw_bipush (v := (8 : Int32)) dX8_tune_85 rfl ?_
  refine aw_icmp_gt (tgt := 128) dX8_tune_87 (by decide) (fun c0 => ?_) (fun c0 => ?_)
  · replace h := h.1 c0
    refine aw_iinc (v := x7 + (1 : Int32)) (ls' := [aR 8 0, aX, aR 4 1, aR 5 0, aR 9 i4, aX, aI x6, aI (x7 + (1 : Int32)), aI x8]) dX8_tune_128 rfl rfl (by decide) rfl rfl ?_
    refine aw_goto (tgt := 73) dX8_tune_131 (by decide) ?_
    exact aw_wkk h (wk_e (wk_e (wk_e (wk_e (wk_e (wk_e (wk_e (wk_e (wk_x wk_n)))))))))
  · replace h := h.2 c0
    refine aw_aload_n dX8_tune_90 rfl ?_
    refine aw_aload dX8_tune_91 rfl ?_
    refine aw_get dX8_tune_93 rfl fk_RX8_29 (look_R rfl rfl : look _ 9 i4 0 = aR 10 (i4 + 1)) ?_
    refine aw_iload dX8_tune_96 rfl ?_
    refine aw_iload dX8_tune_98 rfl ?_
    refine aw_callV (M' := M_X5_fill) (K := 5) (i := 0) (vs := [aR 10 (i4 + 1), aI x7, aI x8]) (st := []) dX8_tune_100 mk_X5_fill mi_X5_fill ml_RX8_54 mp_X5_fill rc_5 rm_X8_tune__X5_fill (Nat.le_of_ble_eq_true rfl) rfl (cw_mono h ?_)
    clear h
    intro _ μ1 h
    show aw Γ M_X8_tune 103 [aR 8 0, aX, aR 4 1, aR 5 0, aR 9 i4, aX, aI x6, aI x7, aI x8] [] μ1 (rV Q)
    refine aw_aload_n dX8_tune_103 rfl ?_
    refine aw_get dX8_tune_104 rfl fk_RX8_20 (look_R rfl rfl : look _ 8 0 2 = aR 1 10) ?_
    refine aw_aload_n dX8_tune_107 rfl ?_
    refine aw_aload_n dX8_tune_108 rfl ?_
    refine aw_callV (M' := M_X1_search) (K := 1) (i := 10) (vs := [aR 5 0, aR 4 1]) (st := []) dX8_tune_109 mk_X1_search mi_X1_search ml_RX8_63 mp_X1_search rc_1 rm_X8_tune__X1_search (Nat.le_of_ble_eq_true rfl) rfl (cw_mono h ?_)
    clear h
    intro _ μ2 h
    show aw Γ M_X8_tune 112 [aR 8 0, aX, aR 4 1, aR 5 0, aR 9 i4, aX, aI x6, aI x7, aI x8] [] μ2 (rV Q)
    refine aw_aload_n dX8_tune_112 rfl ?_
    refine aw_aload dX8_tune_113 rfl ?_
    refine aw_iload dX8_tune_115 rfl ?_
    refine aw_iload dX8_tune_117 rfl ?_
    refine aw_callV (M' := M_X8_keepBetter) (K := 8) (i := 0) (vs := [aR 9 i4, aI x7, aI x8]) (st := []) dX8_tune_119 mk_X8_keepBetter mi_X8_keepBetter ml_RX8_83 mp_X8_keepBetter rc_8 rm_X8_tune__X8_keepBetter (Nat.le_of_ble_eq_true rfl) rfl (cw_mono h ?_)
    clear h
    intro _ μ3 h
    show aw Γ M_X8_tune 122 [aR 8 0, aX, aR 4 1, aR 5 0, aR 9 i4, aX, aI x6, aI x7, aI x8] [] μ3 (rV Q)
    refine aw_iinc (v := x8 + (1 : Int32)) (ls' := [aR 8 0, aX, aR 4 1, aR 5 0, aR 9 i4, aX, aI x6, aI x7, aI (x8 + (1 : Int32))]) dX8_tune_122 rfl rfl (by decide) rfl rfl ?_
    refine aw_goto (tgt := 83) dX8_tune_125 (by decide) ?_
    exact h
theorem u_X8_keepBetter {Γ : cx_T} {μ : mH} {t1 : Nat} {x2 : Int32} {x3 : Int32} {Q : mH → Prop} (h : cwi Γ M_X1_rightOnes [aR 1 10] μ (fun r2 μ1 => cwi Γ M_X1_slipsOfRight [aR 1 10] μ1 (fun r4 μ3 => ((μ3 9 t1 6) < r2 → (Q (sto (sto (sto (sto μ3 9 t1 4 x2) 9 t1 5 x3) 9 t1 6 r2) 9 t1 7 r4))) ∧ (¬ (μ3 9 t1 6) < r2 → ((¬ r2 = (μ3 9 t1 6) → (Q μ3)) ∧ (r2 = (μ3 9 t1 6) → (((μ3 9 t1 7) ≤ r4 → (Q μ3)) ∧ (¬ (μ3 9 t1 7) ≤ r4 → (Q (sto (sto (sto (sto μ3 9 t1 4 x2) 9 t1 5 x3) 9 t1 6 r2) 9 t1 7 r4)))))))))) : cwv Γ M_X8_keepBetter [aR 8 0, aR 9 t1, aI x2, aI x3] μ Q := by
  refine cw_ofU (ls := [aR 8 0, aR 9 t1, aI x2, aI x3, aX, aX]) (Or.inl (by decide)) rfl (Nat.le_of_ble_eq_true rfl) rfl ?_
  refine aw_aload_n dX8_keepBetter_0 rfl ?_
  refine aw_get dX8_keepBetter_1 rfl fk_RX8_20 (look_R rfl rfl : look _ 8 0 2 = aR 1 10) ?_
  refine aw_callV (M' := M_X1_rightOnes) (K := 1) (i := 10) (vs := []) (st := []) dX8_keepBetter_4 mk_X1_rightOnes mi_X1_rightOnes ml_RX8_87 mp_X1_rightOnes rc_1 rm_X8_keepBetter__X1_rightOnes (Nat.le_of_ble_eq_true rfl) rfl (cw_mono h ?_)
  clear h
  rintro _ μ1 ⟨r2, rfl, h⟩
  show aw Γ M_X8_keepBetter 7 [aR 8 0, aR 9 t1, aI x2, aI x3, aX, aX] [aI r2] μ1 (rV Q)
  refine aw_istore (ls' := [aR 8 0, aR 9 t1, aI x2, aI x3, aI r2, aX]) dX8_keepBetter_7 (by decide) rfl rfl ?_
  refine aw_aload_n dX8_keepBetter_9 rfl ?_
  refine aw_get dX8_keepBetter_10 rfl fk_RX8_20 (look_R rfl rfl : look _ 8 0 2 = aR 1 10) ?_
  refine aw_callV (M' := M_X1_slipsOfRight) (K := 1) (i := 10) (vs := []) (st := []) dX8_keepBetter_13 mk_X1_slipsOfRight mi_X1_slipsOfRight ml_RX8_91 mp_X1_slipsOfRight rc_1 rm_X8_keepBetter__X1_slipsOfRight (Nat.le_of_ble_eq_true rfl) rfl (cw_mono h ?_)
  clear h
  rintro _ μ3 ⟨r4, rfl, h⟩
  show aw Γ M_X8_keepBetter 16 [aR 8 0, aR 9 t1, aI x2, aI x3, aI r2, aX] [aI r4] μ3 (rV Q)
  refine aw_istore (ls' := [aR 8 0, aR 9 t1, aI x2, aI x3, aI r2, aI r4]) dX8_keepBetter_16 (by decide) rfl rfl ?_
  refine aw_iload dX8_keepBetter_18 rfl ?_
  refine aw_aload_n dX8_keepBetter_20 rfl ?_
  refine aw_get dX8_keepBetter_21 rfl fk_RX8_71 (look_I rfl : look μ3 9 t1 6 = aI (μ3 9 t1 6)) ?_
  refine aw_icmp_gt (tgt := 45) dX8_keepBetter_24 (by decide) (fun c0 => ?_) (fun c0 => ?_)
  · replace h := h.1 c0
    refine aw_aload_n dX8_keepBetter_45 rfl ?_
    refine aw_iload_n dX8_keepBetter_46 rfl ?_
    refine aw_putI dX8_keepBetter_47 rfl fk_RX8_97 (fun r h => by cases h; rfl) rfl rfl ?_
    refine aw_aload_n dX8_keepBetter_50 rfl ?_
    refine aw_iload_n dX8_keepBetter_51 rfl ?_
    refine aw_putI dX8_keepBetter_52 rfl fk_RX8_100 (fun r h => by cases h; rfl) rfl rfl ?_
    refine aw_aload_n dX8_keepBetter_55 rfl ?_
    refine aw_iload dX8_keepBetter_56 rfl ?_
    refine aw_putI dX8_keepBetter_58 rfl fk_RX8_71 (fun r h => by cases h; rfl) rfl rfl ?_
    refine aw_aload_n dX8_keepBetter_61 rfl ?_
    refine aw_iload dX8_keepBetter_62 rfl ?_
    refine aw_putI dX8_keepBetter_64 rfl fk_RX8_94 (fun r h => by cases h; rfl) rfl rfl ?_
    exact aw_vret dX8_keepBetter_67 rfl h
  · replace h := h.2 c0
    refine aw_iload dX8_keepBetter_27 rfl ?_
    refine aw_aload_n dX8_keepBetter_29 rfl ?_
    refine aw_get dX8_keepBetter_30 rfl fk_RX8_71 (look_I rfl : look μ3 9 t1 6 = aI (μ3 9 t1 6)) ?_
    refine aw_icmp_ne (tgt := 67) dX8_keepBetter_33 (by decide) (fun c0 => ?_) (fun c0 => ?_)
    · replace h := h.1 c0
      exact aw_vret dX8_keepBetter_67 rfl h
    · replace h := h.2 c0
      refine aw_iload dX8_keepBetter_36 rfl ?_
      refine aw_aload_n dX8_keepBetter_38 rfl ?_
      refine aw_get dX8_keepBetter_39 rfl fk_RX8_94 (look_I rfl : look μ3 9 t1 7 = aI (μ3 9 t1 7)) ?_
      refine aw_icmp_ge (tgt := 67) dX8_keepBetter_42 (by decide) (fun c0 => ?_) (fun c0 => ?_)
      · replace h := h.1 c0
        exact aw_vret dX8_keepBetter_67 rfl h
      · replace h := h.2 c0
        refine aw_aload_n dX8_keepBetter_45 rfl ?_
        refine aw_iload_n dX8_keepBetter_46 rfl ?_
        refine aw_putI dX8_keepBetter_47 rfl fk_RX8_97 (fun r h => by cases h; rfl) rfl rfl ?_
        refine aw_aload_n dX8_keepBetter_50 rfl ?_
        refine aw_iload_n dX8_keepBetter_51 rfl ?_
        refine aw_putI dX8_keepBetter_52 rfl fk_RX8_100 (fun r h => by cases h; rfl) rfl rfl ?_
        refine aw_aload_n dX8_keepBetter_55 rfl ?_
        refine aw_iload dX8_keepBetter_56 rfl ?_
        refine aw_putI dX8_keepBetter_58 rfl fk_RX8_71 (fun r h => by cases h; rfl) rfl rfl ?_
        refine aw_aload_n dX8_keepBetter_61 rfl ?_
        refine aw_iload dX8_keepBetter_62 rfl ?_
        refine aw_putI dX8_keepBetter_64 rfl fk_RX8_94 (fun r h => by cases h; rfl) rfl rfl ?_
        exact aw_vret dX8_keepBetter_67 rfl h
theorem u_X8_hopeOf {Γ : cx_T} {μ : mH} {x1 : Int32} {Q : Int32 → mH → Prop} (h : aw Γ M_X8_hopeOf 10 [aR 8 0, aI x1, aI (0 : Int32), aI (0 : Int32), aI (0 : Int32), aI (0 : Int32)] [] μ (rI Q)) : cwi Γ M_X8_hopeOf [aR 8 0, aI x1] μ Q := by
  refine cw_ofU (ls := [aR 8 0, aI x1, aX, aX, aX, aX]) (Or.inl (by decide)) rfl (Nat.le_of_ble_eq_true rfl) rfl ?_
  refine aw_iconst (v := (0 : Int32)) dX8_hopeOf_0 rfl ?_
  refine aw_istore_n (ls' := [aR 8 0, aI x1, aI (0 : Int32), aX, aX, aX]) dX8_hopeOf_1 (by decide) rfl rfl ?_
  refine aw_iconst (v := (0 : Int32)) dX8_hopeOf_2 rfl ?_
  refine aw_istore_n (ls' := [aR 8 0, aI x1, aI (0 : Int32), aI (0 : Int32), aX, aX]) dX8_hopeOf_3 (by decide) rfl rfl ?_
  refine aw_iconst (v := (0 : Int32)) dX8_hopeOf_4 rfl ?_
  refine aw_istore (ls' := [aR 8 0, aI x1, aI (0 : Int32), aI (0 : Int32), aI (0 : Int32), aX]) dX8_hopeOf_5 (by decide) rfl rfl ?_
  refine aw_iconst (v := (0 : Int32)) dX8_hopeOf_7 rfl ?_
  refine aw_istore (ls' := [aR 8 0, aI x1, aI (0 : Int32), aI (0 : Int32), aI (0 : Int32), aI (0 : Int32)]) dX8_hopeOf_8 (by decide) rfl rfl ?_
  exact h
theorem u_X8_hopeOf_10 {Γ : cx_T} {μ : mH} {x1 : Int32} {x2 : Int32} {x3 : Int32} {x4 : Int32} {x5 : Int32} {Q : Int32 → mH → Prop} (h : ((μ 8 0 1) ≤ x5 → ((x3 ≤ 0 → (Q ((50 : Int32) - ((10 : Int32) * x2)) μ)) ∧ (¬ x3 ≤ 0 → (¬ x3 = 0 ∧ (Q ((((100 : Int32) * x4) / x3) - ((10 : Int32) * x2)) μ))))) ∧ (¬ (μ 8 0 1) ≤ x5 → (vp_in x5 10 ∧ ((¬ (μ 9 (tn x5) 2) = x1 → (aw Γ M_X8_hopeOf 10 [aR 8 0, aI x1, aI x2, aI x3, aI x4, aI (x5 + (1 : Int32))] [] μ (rI Q))) ∧ ((μ 9 (tn x5) 2) = x1 → (vp_in x5 10 ∧ (vp_in x5 10 ∧ (cwi Γ M_X1_rightOnes [aR 1 (tn x5)] μ (fun r2 μ1 => aw Γ M_X8_hopeOf 10 [aR 8 0, aI x1, aI (x2 + (1 : Int32)), aI (x3 + (μ 1 (tn x5) 1)), aI (x4 + r2), aI (x5 + (1 : Int32))] [] μ1 (rI Q)))))))))) : aw Γ M_X8_hopeOf 10 [aR 8 0, aI x1, aI x2, aI x3, aI x4, aI x5] [] μ (rI Q) := by
  refine aw_iload dX8_hopeOf_10 rfl ?_
  refine aw_aload_n dX8_hopeOf_12 rfl ?_
  refine aw_get dX8_hopeOf_13 rfl fk_RX8_25 (look_I rfl : look μ 8 0 1 = aI (μ 8 0 1)) ?_
  refine aw_icmp_ge (tgt := 76) dX8_hopeOf_16 (by decide) (fun c0 => ?_) (fun c0 => ?_)
  · replace h := h.1 c0
    refine aw_iload_n dX8_hopeOf_76 rfl ?_
    refine aw_if_le (tgt := 90) dX8_hopeOf_77 (by decide) (fun c0 => ?_) (fun c0 => ?_)
    · replace h := h.1 c0
      refine aw_bipush (v := (50 : Int32)) dX8_hopeOf_90 rfl ?_
      refine aw_istore (ls' := [aR 8 0, aI x1, aI x2, aI x3, aI x4, aI (50 : Int32)]) dX8_hopeOf_92 (by decide) rfl rfl ?_
      refine aw_iload dX8_hopeOf_94 rfl ?_
      refine aw_bipush (v := (10 : Int32)) dX8_hopeOf_96 rfl ?_
      refine aw_iload_n dX8_hopeOf_98 rfl ?_
      refine aw_imul dX8_hopeOf_99 ?_
      refine aw_isub dX8_hopeOf_100 ?_
      exact aw_iret dX8_hopeOf_101 rfl rfl ⟨_, rfl, h⟩
    · replace h := h.2 c0
      refine aw_bipush (v := (100 : Int32)) dX8_hopeOf_80 rfl ?_
      refine aw_iload dX8_hopeOf_82 rfl ?_
      refine aw_imul dX8_hopeOf_84 ?_
      refine aw_iload_n dX8_hopeOf_85 rfl ?_
      refine aw_idiv dX8_hopeOf_86 h.1 ?_
      replace h := h.2
      refine aw_goto (tgt := 92) dX8_hopeOf_87 (by decide) ?_
      refine aw_istore (ls' := [aR 8 0, aI x1, aI x2, aI x3, aI x4, aI (((100 : Int32) * x4) / x3)]) dX8_hopeOf_92 (by decide) rfl rfl ?_
      refine aw_iload dX8_hopeOf_94 rfl ?_
      refine aw_bipush (v := (10 : Int32)) dX8_hopeOf_96 rfl ?_
      refine aw_iload_n dX8_hopeOf_98 rfl ?_
      refine aw_imul dX8_hopeOf_99 ?_
      refine aw_isub dX8_hopeOf_100 ?_
      exact aw_iret dX8_hopeOf_101 rfl rfl ⟨_, rfl, h⟩
  · replace h := h.2 c0
    refine aw_aload_n dX8_hopeOf_19 rfl ?_
    refine aw_get dX8_hopeOf_20 rfl fk_RX8_11 (look_R rfl rfl : look _ 8 0 0 = aR 25 0) ?_
    refine aw_iload dX8_hopeOf_23 rfl ?_
    refine aw_aald dX8_hopeOf_25 rfl rfl h.1 ((congrArg (look _ 25 0) (show Int32.toNatClampNeg x5 = tn x5 from rfl)).trans (look_R rfl rfl) : look _ 25 0 _ = aR 9 (tn x5)) ?_
    replace h := h.2
    refine aw_get dX8_hopeOf_26 rfl fk_RX8_39 (look_I rfl : look μ 9 (tn x5) 2 = aI (μ 9 (tn x5) 2)) ?_
    refine aw_iload_n dX8_hopeOf_29 rfl ?_
    refine aw_icmp_ne (tgt := 70) dX8_hopeOf_30 (by decide) (fun c0 => ?_) (fun c0 => ?_)
    · replace h := h.1 c0
      refine aw_iinc (v := x5 + (1 : Int32)) (ls' := [aR 8 0, aI x1, aI x2, aI x3, aI x4, aI (x5 + (1 : Int32))]) dX8_hopeOf_70 rfl rfl (by decide) rfl rfl ?_
      refine aw_goto (tgt := 10) dX8_hopeOf_73 (by decide) ?_
      exact h
    · replace h := h.2 c0
      refine aw_iinc (v := x2 + (1 : Int32)) (ls' := [aR 8 0, aI x1, aI (x2 + (1 : Int32)), aI x3, aI x4, aI x5]) dX8_hopeOf_33 rfl rfl (by decide) rfl rfl ?_
      refine aw_iload_n dX8_hopeOf_36 rfl ?_
      refine aw_aload_n dX8_hopeOf_37 rfl ?_
      refine aw_get dX8_hopeOf_38 rfl fk_RX8_11 (look_R rfl rfl : look _ 8 0 0 = aR 25 0) ?_
      refine aw_iload dX8_hopeOf_41 rfl ?_
      refine aw_aald dX8_hopeOf_43 rfl rfl h.1 ((congrArg (look _ 25 0) (show Int32.toNatClampNeg x5 = tn x5 from rfl)).trans (look_R rfl rfl) : look _ 25 0 _ = aR 9 (tn x5)) ?_
      replace h := h.2
      refine aw_get dX8_hopeOf_44 rfl fk_RX8_60 (look_R rfl rfl : look _ 9 (tn x5) 1 = aR 1 (tn x5)) ?_
      refine aw_get dX8_hopeOf_47 rfl fk_RX8_103 (look_I rfl : look μ 1 (tn x5) 1 = aI (μ 1 (tn x5) 1)) ?_
      refine aw_iadd dX8_hopeOf_50 ?_
      refine aw_istore_n (ls' := [aR 8 0, aI x1, aI (x2 + (1 : Int32)), aI (x3 + (μ 1 (tn x5) 1)), aI x4, aI x5]) dX8_hopeOf_51 (by decide) rfl rfl ?_
      refine aw_iload dX8_hopeOf_52 rfl ?_
      refine aw_aload_n dX8_hopeOf_54 rfl ?_
      refine aw_get dX8_hopeOf_55 rfl fk_RX8_11 (look_R rfl rfl : look _ 8 0 0 = aR 25 0) ?_
      refine aw_iload dX8_hopeOf_58 rfl ?_
      refine aw_aald dX8_hopeOf_60 rfl rfl h.1 ((congrArg (look _ 25 0) (show Int32.toNatClampNeg x5 = tn x5 from rfl)).trans (look_R rfl rfl) : look _ 25 0 _ = aR 9 (tn x5)) ?_
      replace h := h.2
      refine aw_get dX8_hopeOf_61 rfl fk_RX8_60 (look_R rfl rfl : look _ 9 (tn x5) 1 = aR 1 (tn x5)) ?_
      refine aw_callV (M' := M_X1_rightOnes) (K := 1) (i := (tn x5)) (vs := []) (st := [aI x4]) dX8_hopeOf_64 mk_X1_rightOnes mi_X1_rightOnes ml_RX8_87 mp_X1_rightOnes rc_1 rm_X8_hopeOf__X1_rightOnes (Nat.le_of_ble_eq_true rfl) rfl (cw_mono h ?_)
      clear h
      rintro _ μ1 ⟨r2, rfl, h⟩
      show aw Γ M_X8_hopeOf 67 [aR 8 0, aI x1, aI (x2 + (1 : Int32)), aI (x3 + (μ 1 (tn x5) 1)), aI x4, aI x5] [aI r2, aI x4] μ1 (rI Q)
      refine aw_iadd dX8_hopeOf_67 ?_
      refine aw_istore (ls' := [aR 8 0, aI x1, aI (x2 + (1 : Int32)), aI (x3 + (μ 1 (tn x5) 1)), aI (x4 + r2), aI x5]) dX8_hopeOf_68 (by decide) rfl rfl ?_
      refine aw_iinc (v := x5 + (1 : Int32)) (ls' := [aR 8 0, aI x1, aI (x2 + (1 : Int32)), aI (x3 + (μ 1 (tn x5) 1)), aI (x4 + r2), aI (x5 + (1 : Int32))]) dX8_hopeOf_70 rfl rfl (by decide) rfl rfl ?_
      refine aw_goto (tgt := 10) dX8_hopeOf_73 (by decide) ?_
      exact h
