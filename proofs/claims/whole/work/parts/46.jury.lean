theorem u_X3_forget {Γ : cx_T} {μ : mH}  {Q : mH → Prop} (h : cwv Γ M_J7_fill_53178 [aR 27 0, aI (-1 : Int32)] (sto (sto μ 3 0 5 (-1 : Int32)) 3 0 6 (-1 : Int32)) (fun μ1 => Q μ1)) : cwv Γ M_X3_forget [aR 3 0] μ Q := by
  refine cw_ofU (ls := [aR 3 0]) (Or.inl (by decide)) rfl (Nat.le_of_ble_eq_true rfl) rfl ?_
  refine aw_aload_n dX3_forget_0 rfl ?_
  refine aw_iconst (v := (-1 : Int32)) dX3_forget_1 rfl ?_
  refine aw_putI dX3_forget_2 rfl fk_RX3_21 (fun r h => by cases h; rfl) rfl rfl ?_
  refine aw_aload_n dX3_forget_5 rfl ?_
  refine aw_iconst (v := (-1 : Int32)) dX3_forget_6 rfl ?_
  refine aw_putI dX3_forget_7 rfl fk_RX3_25 (fun r h => by cases h; rfl) rfl rfl ?_
  refine aw_aload_n dX3_forget_10 rfl ?_
  refine aw_get dX3_forget_11 rfl fk_RX3_28 (look_R rfl rfl : look _ 3 0 7 = aR 27 0) ?_
  refine aw_iconst (v := (-1 : Int32)) dX3_forget_14 rfl ?_
  refine aw_callS (M' := M_J7_fill_53178) (vs := [aR 27 0, aI (-1 : Int32)]) (st := []) dX3_forget_15 mk_J7_fill_53178 ms_J7_fill_53178 ml_RX3_48 mp_J7_fill_53178 rm_X3_forget__J7_fill_53178 (Nat.le_of_ble_eq_true rfl) rfl (cw_mono h ?_)
  clear h
  intro _ μ1 h
  show aw Γ M_X3_forget 18 [aR 3 0] [] μ1 (rV Q)
  exact aw_vret dX3_forget_18 rfl h
theorem u_X3_judgeCluster {Γ : cx_T} {μ : mH} {x1 : Int32} {Q : Int32 → mH → Prop} (h : cwi Γ M_X11_isCluster [aI x1] μ (fun r2 μ1 => (¬ r2 = 0 → (vp_in x1 24 ∧ ((¬ (μ1 27 0 (tn x1)) = (-1 : Int32) → (vp_in x1 24 ∧ (Q (μ1 27 0 (tn x1)) μ1))) ∧ ((μ1 27 0 (tn x1)) = (-1 : Int32) → (cwv Γ M_X3_judge [aR 3 0, aI (x1 / (4 : Int32)), aI (x1 - x1 / (4 : Int32) * (4 : Int32)), aR 8 0, aR 4 1] μ1 (fun μ3 => vp_in x1 24 ∧ (vp_in x1 24 ∧ (Q (μ3 3 0 2) (sto μ3 27 0 (tn x1) (μ3 3 0 2)))))))))) ∧ (r2 = 0 → (Q (0 : Int32) μ1)))) : cwi Γ M_X3_judgeCluster [aR 3 0, aI x1, aR 8 0, aR 4 1] μ Q := by
  refine cw_ofU (ls := [aR 3 0, aI x1, aR 8 0, aR 4 1]) (Or.inl (by decide)) rfl (Nat.le_of_ble_eq_true rfl) rfl ?_
  refine aw_iload_n dX3_judgeCluster_0 rfl ?_
  refine aw_callSN (M' := M_X11_isCluster) (vs := [aI x1]) (st := []) dX3_judgeCluster_1 mk_X11_isCluster ms_X11_isCluster ml_RX3_54 mp_X11_isCluster rm_X3_judgeCluster__X11_isCluster (Nat.le_of_ble_eq_true rfl) rfl (cw_mono h ?_)
  clear h
  rintro _ μ1 ⟨r2, rfl, h⟩
  show aw Γ M_X3_judgeCluster 4 [aR 3 0, aI x1, aR 8 0, aR 4 1] [aI r2] μ1 (rI Q)
  refine aw_if_ne (tgt := 9) dX3_judgeCluster_4 (by decide) (fun c0 => ?_) (fun c0 => ?_)
  · replace h := h.1 c0
    refine aw_aload_n dX3_judgeCluster_9 rfl ?_
    refine aw_get dX3_judgeCluster_10 rfl fk_RX3_28 (look_R rfl rfl : look _ 3 0 7 = aR 27 0) ?_
    refine aw_iload_n dX3_judgeCluster_13 rfl ?_
    refine aw_ia (j := tn x1) (y := μ1 27 0 (tn x1)) dX3_judgeCluster_14 rfl (fun _ => rfl) h.1 rfl (rfl) ?_
    replace h := h.2
    refine aw_iconst (v := (-1 : Int32)) dX3_judgeCluster_15 rfl ?_
    refine aw_icmp_ne (tgt := 41) dX3_judgeCluster_16 (by decide) (fun c0 => ?_) (fun c0 => ?_)
    · replace h := h.1 c0
      refine aw_aload_n dX3_judgeCluster_41 rfl ?_
      refine aw_get dX3_judgeCluster_42 rfl fk_RX3_28 (look_R rfl rfl : look _ 3 0 7 = aR 27 0) ?_
      refine aw_iload_n dX3_judgeCluster_45 rfl ?_
      refine aw_ia (j := tn x1) (y := μ1 27 0 (tn x1)) dX3_judgeCluster_46 rfl (fun _ => rfl) h.1 rfl (rfl) ?_
      replace h := h.2
      exact aw_iret dX3_judgeCluster_47 rfl rfl ⟨_, rfl, h⟩
    · replace h := h.2 c0
      refine aw_aload_n dX3_judgeCluster_19 rfl ?_
      refine aw_iload_n dX3_judgeCluster_20 rfl ?_
      refine aw_iconst (v := (4 : Int32)) dX3_judgeCluster_21 rfl ?_
      refine aw_idiv dX3_judgeCluster_22 (by decide) ?_
      refine aw_iload_n dX3_judgeCluster_23 rfl ?_
      refine aw_iconst (v := (4 : Int32)) dX3_judgeCluster_24 rfl ?_
      refine aw_irem dX3_judgeCluster_25 (by decide) ?_
      refine aw_aload_n dX3_judgeCluster_26 rfl ?_
      refine aw_aload_n dX3_judgeCluster_27 rfl ?_
      refine aw_callV (M' := M_X3_judge) (K := 3) (i := 0) (vs := [aI (x1 / (4 : Int32)), aI (x1 - x1 / (4 : Int32) * (4 : Int32)), aR 8 0, aR 4 1]) (st := []) dX3_judgeCluster_28 mk_X3_judge mi_X3_judge ml_RX3_58 mp_X3_judge rc_3 rm_X3_judgeCluster__X3_judge (Nat.le_of_ble_eq_true rfl) rfl (cw_mono h ?_)
      clear h
      intro _ μ3 h
      show aw Γ M_X3_judgeCluster 31 [aR 3 0, aI x1, aR 8 0, aR 4 1] [] μ3 (rI Q)
      refine aw_aload_n dX3_judgeCluster_31 rfl ?_
      refine aw_get dX3_judgeCluster_32 rfl fk_RX3_28 (look_R rfl rfl : look _ 3 0 7 = aR 27 0) ?_
      refine aw_iload_n dX3_judgeCluster_35 rfl ?_
      refine aw_aload_n dX3_judgeCluster_36 rfl ?_
      refine aw_get dX3_judgeCluster_37 rfl fk_RX3_62 (look_I rfl : look μ3 3 0 2 = aI (μ3 3 0 2)) ?_
      refine aw_is (j := tn x1) dX3_judgeCluster_40 rfl (fun _ => rfl) h.1 rfl ?_
      replace h := h.2
      refine aw_aload_n dX3_judgeCluster_41 rfl ?_
      refine aw_get dX3_judgeCluster_42 rfl fk_RX3_28 (look_R rfl rfl : look _ 3 0 7 = aR 27 0) ?_
      refine aw_iload_n dX3_judgeCluster_45 rfl ?_
      refine aw_ia (j := tn x1) (y := μ3 3 0 2) dX3_judgeCluster_46 rfl (fun _ => rfl) h.1 rfl (sto_eq) ?_
      replace h := h.2
      exact aw_iret dX3_judgeCluster_47 rfl rfl ⟨_, rfl, h⟩
  · replace h := h.2 c0
    refine aw_iconst (v := (0 : Int32)) dX3_judgeCluster_7 rfl ?_
    exact aw_iret dX3_judgeCluster_8 rfl rfl ⟨_, rfl, h⟩
theorem u_X3_judge {Γ : cx_T} {μ : mH} {x1 : Int32} {x2 : Int32} {Q : mH → Prop} (h : (¬ (μ 3 0 5) = x1 → (aw Γ M_X3_judge 17 [aR 3 0, aI x1, aI x2, aR 8 0, aR 4 1] [] μ (rV Q))) ∧ ((μ 3 0 5) = x1 → ((¬ (μ 3 0 6) = x2 → (aw Γ M_X3_judge 17 [aR 3 0, aI x1, aI x2, aR 8 0, aR 4 1] [] μ (rV Q))) ∧ ((μ 3 0 6) = x2 → (Q μ))))) : cwv Γ M_X3_judge [aR 3 0, aI x1, aI x2, aR 8 0, aR 4 1] μ Q := by
  refine cw_ofU (ls := [aR 3 0, aI x1, aI x2, aR 8 0, aR 4 1]) (Or.inl (by decide)) rfl (Nat.le_of_ble_eq_true rfl) rfl ?_
  refine aw_aload_n dX3_judge_0 rfl ?_
  refine aw_get dX3_judge_1 rfl fk_RX3_21 (look_I rfl : look μ 3 0 5 = aI (μ 3 0 5)) ?_
  refine aw_iload_n dX3_judge_4 rfl ?_
  refine aw_icmp_ne (tgt := 17) dX3_judge_5 (by decide) (fun c0 => ?_) (fun c0 => ?_)
  · replace h := h.1 c0
    exact h
  · replace h := h.2 c0
    refine aw_aload_n dX3_judge_8 rfl ?_
    refine aw_get dX3_judge_9 rfl fk_RX3_25 (look_I rfl : look μ 3 0 6 = aI (μ 3 0 6)) ?_
    refine aw_iload_n dX3_judge_12 rfl ?_
    refine aw_icmp_ne (tgt := 17) dX3_judge_13 (by decide) (fun c0 => ?_) (fun c0 => ?_)
    · replace h := h.1 c0
      exact h
    · replace h := h.2 c0
      exact aw_vret dX3_judge_16 rfl h
theorem u_X3_judge_17 {Γ : cx_T} {μ : mH} {x1 : Int32} {x2 : Int32} {Q : mH → Prop} (h : cwv Γ M_X3_gather [aR 3 0, aR 8 0] (sto (sto μ 3 0 5 x1) 3 0 6 x2) (fun μ1 => (¬ (μ1 3 0 0) = 0 → (((μ1 3 0 1) ≤ 0 → (cwi Γ M_X3_mend [aR 3 0, aR 4 1] μ1 (fun r3 μ2 => (r3 = 0 → (Q (sto μ2 3 0 2 (4 : Int32)))) ∧ (¬ r3 = 0 → (Q (sto μ2 3 0 2 (3 : Int32))))))) ∧ (¬ (μ1 3 0 1) ≤ 0 → (cwi Γ M_X3_rightAgree [aR 3 0, aI (μ1 4 1 4)] μ1 (fun r5 μ4 => (r5 = 0 → (Q (sto μ4 3 0 2 (2 : Int32)))) ∧ (¬ r5 = 0 → (Q (sto μ4 3 0 2 (1 : Int32))))))))) ∧ ((μ1 3 0 0) = 0 → (Q (sto μ1 3 0 2 (0 : Int32)))))) : aw Γ M_X3_judge 17 [aR 3 0, aI x1, aI x2, aR 8 0, aR 4 1] [] μ (rV Q) := by
  refine aw_aload_n dX3_judge_17 rfl ?_
  refine aw_iload_n dX3_judge_18 rfl ?_
  refine aw_putI dX3_judge_19 rfl fk_RX3_21 (fun r h => by cases h; rfl) rfl rfl ?_
  refine aw_aload_n dX3_judge_22 rfl ?_
  refine aw_iload_n dX3_judge_23 rfl ?_
  refine aw_putI dX3_judge_24 rfl fk_RX3_25 (fun r h => by cases h; rfl) rfl rfl ?_
  refine aw_aload_n dX3_judge_27 rfl ?_
  refine aw_aload_n dX3_judge_28 rfl ?_
  refine aw_callV (M' := M_X3_gather) (K := 3) (i := 0) (vs := [aR 8 0]) (st := []) dX3_judge_29 mk_X3_gather mi_X3_gather ml_RX3_65 mp_X3_gather rc_3 rm_X3_judge__X3_gather (Nat.le_of_ble_eq_true rfl) rfl (cw_mono h ?_)
  clear h
  intro _ μ1 h
  show aw Γ M_X3_judge 32 [aR 3 0, aI x1, aI x2, aR 8 0, aR 4 1] [] μ1 (rV Q)
  refine aw_aload_n dX3_judge_32 rfl ?_
  refine aw_get dX3_judge_33 rfl fk_RX3_69 (look_I rfl : look μ1 3 0 0 = aI (μ1 3 0 0)) ?_
  refine aw_if_ne (tgt := 47) dX3_judge_36 (by decide) (fun c0 => ?_) (fun c0 => ?_)
  · replace h := h.1 c0
    refine aw_aload_n dX3_judge_47 rfl ?_
    refine aw_get dX3_judge_48 rfl fk_RX3_72 (look_I rfl : look μ1 3 0 1 = aI (μ1 3 0 1)) ?_
    refine aw_if_le (tgt := 78) dX3_judge_51 (by decide) (fun c0 => ?_) (fun c0 => ?_)
    · replace h := h.1 c0
      refine aw_aload_n dX3_judge_78 rfl ?_
      refine aw_aload_n dX3_judge_79 rfl ?_
      refine aw_aload dX3_judge_80 rfl ?_
      refine aw_callV (M' := M_X3_mend) (K := 3) (i := 0) (vs := [aR 4 1]) (st := [aR 3 0]) dX3_judge_82 mk_X3_mend mi_X3_mend ml_RX3_81 mp_X3_mend rc_3 rm_X3_judge__X3_mend (Nat.le_of_ble_eq_true rfl) rfl (cw_mono h ?_)
      clear h
      rintro _ μ2 ⟨r3, rfl, h⟩
      show aw Γ M_X3_judge 85 [aR 3 0, aI x1, aI x2, aR 8 0, aR 4 1] [aI r3, aR 3 0] μ2 (rV Q)
      refine aw_if_eq (tgt := 92) dX3_judge_85 (by decide) (fun c0 => ?_) (fun c0 => ?_)
      · replace h := h.1 c0
        refine aw_iconst (v := (4 : Int32)) dX3_judge_92 rfl ?_
        refine aw_putI dX3_judge_93 rfl fk_RX3_62 (fun r h => by cases h; rfl) rfl rfl ?_
        exact aw_vret dX3_judge_96 rfl h
      · replace h := h.2 c0
        refine aw_iconst (v := (3 : Int32)) dX3_judge_88 rfl ?_
        refine aw_goto (tgt := 93) dX3_judge_89 (by decide) ?_
        refine aw_putI dX3_judge_93 rfl fk_RX3_62 (fun r h => by cases h; rfl) rfl rfl ?_
        exact aw_vret dX3_judge_96 rfl h
    · replace h := h.2 c0
      refine aw_aload_n dX3_judge_54 rfl ?_
      refine aw_aload_n dX3_judge_55 rfl ?_
      refine aw_aload dX3_judge_56 rfl ?_
      refine aw_get dX3_judge_58 rfl fk_RX3_75 (look_I rfl : look μ1 4 1 4 = aI (μ1 4 1 4)) ?_
      refine aw_callV (M' := M_X3_rightAgree) (K := 3) (i := 0) (vs := [aI (μ1 4 1 4)]) (st := [aR 3 0]) dX3_judge_61 mk_X3_rightAgree mi_X3_rightAgree ml_RX3_78 mp_X3_rightAgree rc_3 rm_X3_judge__X3_rightAgree (Nat.le_of_ble_eq_true rfl) rfl (cw_mono h ?_)
      clear h
      rintro _ μ4 ⟨r5, rfl, h⟩
      show aw Γ M_X3_judge 64 [aR 3 0, aI x1, aI x2, aR 8 0, aR 4 1] [aI r5, aR 3 0] μ4 (rV Q)
      refine aw_if_eq (tgt := 71) dX3_judge_64 (by decide) (fun c0 => ?_) (fun c0 => ?_)
      · replace h := h.1 c0
        refine aw_iconst (v := (2 : Int32)) dX3_judge_71 rfl ?_
        refine aw_putI dX3_judge_72 rfl fk_RX3_62 (fun r h => by cases h; rfl) rfl rfl ?_
        refine aw_goto (tgt := 96) dX3_judge_75 (by decide) ?_
        exact aw_vret dX3_judge_96 rfl h
      · replace h := h.2 c0
        refine aw_iconst (v := (1 : Int32)) dX3_judge_67 rfl ?_
        refine aw_goto (tgt := 72) dX3_judge_68 (by decide) ?_
        refine aw_putI dX3_judge_72 rfl fk_RX3_62 (fun r h => by cases h; rfl) rfl rfl ?_
        refine aw_goto (tgt := 96) dX3_judge_75 (by decide) ?_
        exact aw_vret dX3_judge_96 rfl h
  · replace h := h.2 c0
    refine aw_aload_n dX3_judge_39 rfl ?_
    refine aw_iconst (v := (0 : Int32)) dX3_judge_40 rfl ?_
    refine aw_putI dX3_judge_41 rfl fk_RX3_62 (fun r h => by cases h; rfl) rfl rfl ?_
    refine aw_goto (tgt := 96) dX3_judge_44 (by decide) ?_
    exact aw_vret dX3_judge_96 rfl h
theorem u_X3_vote {Γ : cx_T} {μ : mH} {x1 : Int32} {Q : Int32 → mH → Prop} (h : ((μ 3 0 0) = 0 → (Q (-1 : Int32) μ)) ∧ (¬ (μ 3 0 0) = 0 → ((x1 < 0 → (Q (-1 : Int32) μ)) ∧ (¬ x1 < 0 → ((x1 < (8 : Int32) → (cwi Γ M_X11_soundStatus [aI (μ 3 0 2)] μ (fun r2 μ1 => (r2 = 0 → (cwv Γ M_J7_fill_53178 [aR 33 0, aI (0 : Int32)] μ1 (fun μ3 => aw Γ M_X3_vote 50 [aR 3 0, aI x1, aI (0 : Int32), aX] [] μ3 (rI Q)))) ∧ (¬ r2 = 0 → (vp_in x1 8 ∧ (Q ((μ1 24 88 (tn x1)) + (256 : Int32)) μ1)))))) ∧ (¬ x1 < (8 : Int32) → (Q (-1 : Int32) μ))))))) : cwi Γ M_X3_vote [aR 3 0, aI x1] μ Q := by
  refine cw_ofU (ls := [aR 3 0, aI x1, aX, aX]) (Or.inl (by decide)) rfl (Nat.le_of_ble_eq_true rfl) rfl ?_
  refine aw_aload_n dX3_vote_0 rfl ?_
  refine aw_get dX3_vote_1 rfl fk_RX3_69 (look_I rfl : look μ 3 0 0 = aI (μ 3 0 0)) ?_
  refine aw_if_eq (tgt := 17) dX3_vote_4 (by decide) (fun c0 => ?_) (fun c0 => ?_)
  · replace h := h.1 c0
    refine aw_iconst (v := (-1 : Int32)) dX3_vote_17 rfl ?_
    exact aw_iret dX3_vote_18 rfl rfl ⟨_, rfl, h⟩
  · replace h := h.2 c0
    refine aw_iload_n dX3_vote_7 rfl ?_
    refine aw_if_lt (tgt := 17) dX3_vote_8 (by decide) (fun c0 => ?_) (fun c0 => ?_)
    · replace h := h.1 c0
      refine aw_iconst (v := (-1 : Int32)) dX3_vote_17 rfl ?_
      exact aw_iret dX3_vote_18 rfl rfl ⟨_, rfl, h⟩
    · replace h := h.2 c0
      refine aw_iload_n dX3_vote_11 rfl ?_
      refine aw_bipush (v := (8 : Int32)) dX3_vote_12 rfl ?_
      refine aw_icmp_lt (tgt := 19) dX3_vote_14 (by decide) (fun c0 => ?_) (fun c0 => ?_)
      · replace h := h.1 c0
        refine aw_aload_n dX3_vote_19 rfl ?_
        refine aw_get dX3_vote_20 rfl fk_RX3_62 (look_I rfl : look μ 3 0 2 = aI (μ 3 0 2)) ?_
        refine aw_callSN (M' := M_X11_soundStatus) (vs := [aI (μ 3 0 2)]) (st := []) dX3_vote_23 mk_X11_soundStatus ms_X11_soundStatus ml_RX3_85 mp_X11_soundStatus rm_X3_vote__X11_soundStatus (Nat.le_of_ble_eq_true rfl) rfl (cw_mono h ?_)
        clear h
        rintro _ μ1 ⟨r2, rfl, h⟩
        show aw Γ M_X3_vote 26 [aR 3 0, aI x1, aX, aX] [aI r2] μ1 (rI Q)
        refine aw_if_eq (tgt := 40) dX3_vote_26 (by decide) (fun c0 => ?_) (fun c0 => ?_)
        · replace h := h.1 c0
          refine aw_aload_n dX3_vote_40 rfl ?_
          refine aw_get dX3_vote_41 rfl fk_RX3_45 (look_R rfl rfl : look _ 3 0 12 = aR 33 0) ?_
          refine aw_iconst (v := (0 : Int32)) dX3_vote_44 rfl ?_
          refine aw_callS (M' := M_J7_fill_53178) (vs := [aR 33 0, aI (0 : Int32)]) (st := []) dX3_vote_45 mk_J7_fill_53178 ms_J7_fill_53178 ml_RX3_48 mp_J7_fill_53178 rm_X3_vote__J7_fill_53178 (Nat.le_of_ble_eq_true rfl) rfl (cw_mono h ?_)
          clear h
          intro _ μ3 h
          show aw Γ M_X3_vote 48 [aR 3 0, aI x1, aX, aX] [] μ3 (rI Q)
          refine aw_iconst (v := (0 : Int32)) dX3_vote_48 rfl ?_
          refine aw_istore_n (ls' := [aR 3 0, aI x1, aI (0 : Int32), aX]) dX3_vote_49 (by decide) rfl rfl ?_
          exact h
        · replace h := h.2 c0
          refine aw_aload_n dX3_vote_29 rfl ?_
          refine aw_get dX3_vote_30 rfl fk_RX3_9 (look_R rfl rfl : look _ 3 0 3 = aR 24 88) ?_
          refine aw_iload_n dX3_vote_33 rfl ?_
          refine aw_ia (j := tn x1) (y := μ1 24 88 (tn x1)) dX3_vote_34 rfl (fun _ => rfl) h.1 rfl (rfl) ?_
          replace h := h.2
          refine aw_sipush (v := (256 : Int32)) dX3_vote_35 rfl ?_
          refine aw_iadd dX3_vote_38 ?_
          exact aw_iret dX3_vote_39 rfl rfl ⟨_, rfl, h⟩
      · replace h := h.2 c0
        refine aw_iconst (v := (-1 : Int32)) dX3_vote_17 rfl ?_
        exact aw_iret dX3_vote_18 rfl rfl ⟨_, rfl, h⟩
theorem u_X3_vote_50 {Γ : cx_T} {μ : mH} {x1 : Int32} {x2 : Int32} {Q : Int32 → mH → Prop} (h : ((μ 3 0 0) ≤ x2 → (aw Γ M_X3_vote 92 [aR 3 0, aX, aI (0 : Int32), aI (1 : Int32)] [] μ (rI Q))) ∧ (¬ (μ 3 0 0) ≤ x2 → (vp_in x2 80 ∧ ∃ j1, cpo (μ 26 0 (tn x2)) = some j1 ∧ j1 < 88 ∧ (vp_in x1 8 ∧ (vp_in ((μ 24 j1 (tn x1)) &&& (255 : Int32)) 256 ∧ (vp_in ((μ 24 j1 (tn x1)) &&& (255 : Int32)) 256 ∧ (aw Γ M_X3_vote 50 [aR 3 0, aI x1, aI (x2 + (1 : Int32)), aX] [] (sto μ 33 0 (tn ((μ 24 j1 (tn x1)) &&& (255 : Int32))) ((μ 33 0 (tn ((μ 24 j1 (tn x1)) &&& (255 : Int32)))) + (1 : Int32))) (rI Q)))))))) : aw Γ M_X3_vote 50 [aR 3 0, aI x1, aI x2, aX] [] μ (rI Q) := by
  refine aw_iload_n dX3_vote_50 rfl ?_
  refine aw_aload_n dX3_vote_51 rfl ?_
  refine aw_get dX3_vote_52 rfl fk_RX3_69 (look_I rfl : look μ 3 0 0 = aI (μ 3 0 0)) ?_
  refine aw_icmp_ge (tgt := 88) dX3_vote_55 (by decide) (fun c0 => ?_) (fun c0 => ?_)
  · replace h := h.1 c0
    refine aw_iconst (v := (0 : Int32)) dX3_vote_88 rfl ?_
    refine aw_istore_n (ls' := [aR 3 0, aI x1, aI (0 : Int32), aX]) dX3_vote_89 (by decide) rfl rfl ?_
    refine aw_iconst (v := (1 : Int32)) dX3_vote_90 rfl ?_
    refine aw_istore_n (ls' := [aR 3 0, aI x1, aI (0 : Int32), aI (1 : Int32)]) dX3_vote_91 (by decide) rfl rfl ?_
    exact aw_wkk h (wk_e (wk_x (wk_e (wk_e wk_n))))
  · replace h := h.2 c0
    refine aw_aload_n dX3_vote_58 rfl ?_
    refine aw_get dX3_vote_59 rfl fk_RX3_45 (look_R rfl rfl : look _ 3 0 12 = aR 33 0) ?_
    refine aw_aload_n dX3_vote_62 rfl ?_
    refine aw_get dX3_vote_63 rfl fk_RX3_17 (look_R rfl rfl : look _ 3 0 4 = aR 26 0) ?_
    refine aw_iload_n dX3_vote_66 rfl ?_
    obtain ⟨hi0, j1, hc0, hc1, h⟩ := h
    refine aw_aald dX3_vote_67 rfl rfl hi0 (look_cpo hc0) ?_
    refine aw_get dX3_vote_68 rfl fk_RX3_88 (look_R rfl rfl : look _ 7 j1 6 = aR 24 j1) ?_
    refine aw_iload_n dX3_vote_71 rfl ?_
    refine aw_ia (j := tn x1) (y := μ 24 j1 (tn x1)) dX3_vote_72 rfl (fun _ => rfl) h.1 rfl (rfl) ?_
    replace h := h.2
    refine aw_sipush (v := (255 : Int32)) dX3_vote_73 rfl ?_
    refine aw_iand dX3_vote_76 ?_
    refine aw_dup2 dX3_vote_77 (fun _ => rfl) (fun _ => rfl) ?_
    refine aw_ia (j := tn ((μ 24 j1 (tn x1)) &&& (255 : Int32))) (y := μ 33 0 (tn ((μ 24 j1 (tn x1)) &&& (255 : Int32)))) dX3_vote_78 rfl (fun _ => rfl) h.1 rfl (rfl) ?_
    replace h := h.2
    refine aw_iconst (v := (1 : Int32)) dX3_vote_79 rfl ?_
    refine aw_iadd dX3_vote_80 ?_
    refine aw_is (j := tn ((μ 24 j1 (tn x1)) &&& (255 : Int32))) dX3_vote_81 rfl (fun _ => rfl) h.1 rfl ?_
    replace h := h.2
    refine aw_iinc (v := x2 + (1 : Int32)) (ls' := [aR 3 0, aI x1, aI (x2 + (1 : Int32)), aX]) dX3_vote_82 rfl rfl (by decide) rfl rfl ?_
    refine aw_goto (tgt := 50) dX3_vote_85 (by decide) ?_
    exact h
theorem u_X3_vote_92 {Γ : cx_T} {μ : mH} {x2 : Int32} {x3 : Int32} {Q : Int32 → mH → Prop} (h : ((255 : Int32) < x3 → (vp_in x2 256 ∧ ((((2 : Int32) * (μ 33 0 (tn x2))) ≤ (μ 3 0 0) → (Q x2 μ)) ∧ (¬ ((2 : Int32) * (μ 33 0 (tn x2))) ≤ (μ 3 0 0) → (Q (x2 + (256 : Int32)) μ))))) ∧ (¬ (255 : Int32) < x3 → (vp_in x3 256 ∧ (vp_in x2 256 ∧ (((μ 33 0 (tn x3)) ≤ (μ 33 0 (tn x2)) → (aw Γ M_X3_vote 92 [aR 3 0, aX, aI x2, aI (x3 + (1 : Int32))] [] μ (rI Q))) ∧ (¬ (μ 33 0 (tn x3)) ≤ (μ 33 0 (tn x2)) → (aw Γ M_X3_vote 92 [aR 3 0, aX, aI x3, aI (x3 + (1 : Int32))] [] μ (rI Q)))))))) : aw Γ M_X3_vote 92 [aR 3 0, aX, aI x2, aI x3] [] μ (rI Q) := by
  refine aw_iload_n dX3_vote_92 rfl ?_
  refine aw_sipush (v := (255 : Int32)) dX3_vote_93 rfl ?_
  refine aw_icmp_gt (tgt := 122) dX3_vote_96 (by decide) (fun c0 => ?_) (fun c0 => ?_)
  · replace h := h.1 c0
    refine aw_iconst (v := (2 : Int32)) dX3_vote_122 rfl ?_
    refine aw_aload_n dX3_vote_123 rfl ?_
    refine aw_get dX3_vote_124 rfl fk_RX3_45 (look_R rfl rfl : look _ 3 0 12 = aR 33 0) ?_
    refine aw_iload_n dX3_vote_127 rfl ?_
    refine aw_ia (j := tn x2) (y := μ 33 0 (tn x2)) dX3_vote_128 rfl (fun _ => rfl) h.1 rfl (rfl) ?_
    replace h := h.2
    refine aw_imul dX3_vote_129 ?_
    refine aw_aload_n dX3_vote_130 rfl ?_
    refine aw_get dX3_vote_131 rfl fk_RX3_69 (look_I rfl : look μ 3 0 0 = aI (μ 3 0 0)) ?_
    refine aw_icmp_le (tgt := 145) dX3_vote_134 (by decide) (fun c0 => ?_) (fun c0 => ?_)
    · replace h := h.1 c0
      refine aw_iload_n dX3_vote_145 rfl ?_
      exact aw_iret dX3_vote_146 rfl rfl ⟨_, rfl, h⟩
    · replace h := h.2 c0
      refine aw_iload_n dX3_vote_137 rfl ?_
      refine aw_sipush (v := (256 : Int32)) dX3_vote_138 rfl ?_
      refine aw_iadd dX3_vote_141 ?_
      refine aw_goto (tgt := 146) dX3_vote_142 (by decide) ?_
      exact aw_iret dX3_vote_146 rfl rfl ⟨_, rfl, h⟩
  · replace h := h.2 c0
    refine aw_aload_n dX3_vote_99 rfl ?_
    refine aw_get dX3_vote_100 rfl fk_RX3_45 (look_R rfl rfl : look _ 3 0 12 = aR 33 0) ?_
    refine aw_iload_n dX3_vote_103 rfl ?_
    refine aw_ia (j := tn x3) (y := μ 33 0 (tn x3)) dX3_vote_104 rfl (fun _ => rfl) h.1 rfl (rfl) ?_
    replace h := h.2
    refine aw_aload_n dX3_vote_105 rfl ?_
    refine aw_get dX3_vote_106 rfl fk_RX3_45 (look_R rfl rfl : look _ 3 0 12 = aR 33 0) ?_
    refine aw_iload_n dX3_vote_109 rfl ?_
    refine aw_ia (j := tn x2) (y := μ 33 0 (tn x2)) dX3_vote_110 rfl (fun _ => rfl) h.1 rfl (rfl) ?_
    replace h := h.2
    refine aw_icmp_le (tgt := 116) dX3_vote_111 (by decide) (fun c0 => ?_) (fun c0 => ?_)
    · replace h := h.1 c0
      refine aw_iinc (v := x3 + (1 : Int32)) (ls' := [aR 3 0, aX, aI x2, aI (x3 + (1 : Int32))]) dX3_vote_116 rfl rfl (by decide) rfl rfl ?_
      refine aw_goto (tgt := 92) dX3_vote_119 (by decide) ?_
      exact h
    · replace h := h.2 c0
      refine aw_iload_n dX3_vote_114 rfl ?_
      refine aw_istore_n (ls' := [aR 3 0, aX, aI x3, aI x3]) dX3_vote_115 (by decide) rfl rfl ?_
      refine aw_iinc (v := x3 + (1 : Int32)) (ls' := [aR 3 0, aX, aI x3, aI (x3 + (1 : Int32))]) dX3_vote_116 rfl rfl (by decide) rfl rfl ?_
      refine aw_goto (tgt := 92) dX3_vote_119 (by decide) ?_
      exact h
theorem u_X3_gather {Γ : cx_T} {μ : mH}  {Q : mH → Prop} (h : aw Γ M_X3_gather 12 [aR 3 0, aR 8 0, aI (0 : Int32), aX, aX, aX] [] (sto (sto μ 3 0 0 (0 : Int32)) 3 0 1 (0 : Int32)) (rV Q)) : cwv Γ M_X3_gather [aR 3 0, aR 8 0] μ Q := by
  refine cw_ofU (ls := [aR 3 0, aR 8 0, aX, aX, aX, aX]) (Or.inl (by decide)) rfl (Nat.le_of_ble_eq_true rfl) rfl ?_
  refine aw_aload_n dX3_gather_0 rfl ?_
  refine aw_iconst (v := (0 : Int32)) dX3_gather_1 rfl ?_
  refine aw_putI dX3_gather_2 rfl fk_RX3_69 (fun r h => by cases h; rfl) rfl rfl ?_
  refine aw_aload_n dX3_gather_5 rfl ?_
  refine aw_iconst (v := (0 : Int32)) dX3_gather_6 rfl ?_
  refine aw_putI dX3_gather_7 rfl fk_RX3_72 (fun r h => by cases h; rfl) rfl rfl ?_
  refine aw_iconst (v := (0 : Int32)) dX3_gather_10 rfl ?_
  refine aw_istore_n (ls' := [aR 3 0, aR 8 0, aI (0 : Int32), aX, aX, aX]) dX3_gather_11 (by decide) rfl rfl ?_
  exact h
theorem u_X3_gather_12 {Γ : cx_T} {μ : mH} {x2 : Int32} {Q : mH → Prop} (h : ((μ 8 0 1) ≤ x2 → (Q μ)) ∧ (¬ (μ 8 0 1) ≤ x2 → (vp_in x2 10 ∧ (aw Γ M_X3_gather 33 [aR 3 0, aR 8 0, aI x2, aR 1 (tn x2), aI (0 : Int32), aX] [] μ (rV Q))))) : aw Γ M_X3_gather 12 [aR 3 0, aR 8 0, aI x2, aX, aX, aX] [] μ (rV Q) := by
  refine aw_iload_n dX3_gather_12 rfl ?_
  refine aw_aload_n dX3_gather_13 rfl ?_
  refine aw_get dX3_gather_14 rfl fk_RX3_89 (look_I rfl : look μ 8 0 1 = aI (μ 8 0 1)) ?_
  refine aw_icmp_ge (tgt := 139) dX3_gather_17 (by decide) (fun c0 => ?_) (fun c0 => ?_)
  · replace h := h.1 c0
    exact aw_vret dX3_gather_139 rfl h
  · replace h := h.2 c0
    refine aw_aload_n dX3_gather_20 rfl ?_
    refine aw_get dX3_gather_21 rfl fk_RX3_92 (look_R rfl rfl : look _ 8 0 0 = aR 25 0) ?_
    refine aw_iload_n dX3_gather_24 rfl ?_
    refine aw_aald dX3_gather_25 rfl rfl h.1 ((congrArg (look _ 25 0) (show Int32.toNatClampNeg x2 = tn x2 from rfl)).trans (look_R rfl rfl) : look _ 25 0 _ = aR 9 (tn x2)) ?_
    replace h := h.2
    refine aw_get dX3_gather_26 rfl fk_RX3_96 (look_R rfl rfl : look _ 9 (tn x2) 1 = aR 1 (tn x2)) ?_
    refine aw_astore_n (ls' := [aR 3 0, aR 8 0, aI x2, aR 1 (tn x2), aX, aX]) dX3_gather_29 (by decide) rfl rfl ?_
    refine aw_iconst (v := (0 : Int32)) dX3_gather_30 rfl ?_
    refine aw_istore (ls' := [aR 3 0, aR 8 0, aI x2, aR 1 (tn x2), aI (0 : Int32), aX]) dX3_gather_31 (by decide) rfl rfl ?_
    exact h
theorem u_X3_gather_33 {Γ : cx_T} {μ : mH} {x2 : Int32} {i3 : Nat} {x4 : Int32} {Q : mH → Prop} (h : ((μ 1 i3 1) ≤ x4 → (aw Γ M_X3_gather 12 [aR 3 0, aR 8 0, aI (x2 + (1 : Int32)), aX, aX, aX] [] μ (rV Q))) ∧ (¬ (μ 1 i3 1) ≤ x4 → (((80 : Int32) ≤ (μ 3 0 0) → (aw Γ M_X3_gather 12 [aR 3 0, aR 8 0, aI (x2 + (1 : Int32)), aX, aX, aX] [] μ (rV Q))) ∧ (¬ (80 : Int32) ≤ (μ 3 0 0) → (vp_in x4 8 ∧ ((¬ (μ 7 (8 * i3 + (tn x4)) 1) = (μ 3 0 5) → (aw Γ M_X3_gather 33 [aR 3 0, aR 8 0, aI x2, aR 1 i3, aI (x4 + (1 : Int32)), aX] [] μ (rV Q))) ∧ ((μ 7 (8 * i3 + (tn x4)) 1) = (μ 3 0 5) → ((¬ (μ 7 (8 * i3 + (tn x4)) 2) = (μ 3 0 6) → (aw Γ M_X3_gather 33 [aR 3 0, aR 8 0, aI x2, aR 1 i3, aI (x4 + (1 : Int32)), aX] [] μ (rV Q))) ∧ ((μ 7 (8 * i3 + (tn x4)) 2) = (μ 3 0 6) → (vp_in (μ 3 0 0) 80 ∧ (cwi Γ M_X7_isRight [aR 7 (8 * i3 + (tn x4))] (sto (sto μ 26 0 (tn (μ 3 0 0)) (nI ((8 * i3 + (tn x4)) + 1))) 3 0 0 ((μ 3 0 0) + (1 : Int32))) (fun r2 μ1 => (r2 = 0 → (aw Γ M_X3_gather 33 [aR 3 0, aR 8 0, aI x2, aR 1 i3, aI (x4 + (1 : Int32)), aX] [] (sto μ1 3 0 1 ((μ 3 0 1) + (0 : Int32))) (rV Q))) ∧ (¬ r2 = 0 → (aw Γ M_X3_gather 33 [aR 3 0, aR 8 0, aI x2, aR 1 i3, aI (x4 + (1 : Int32)), aX] [] (sto μ1 3 0 1 ((μ 3 0 1) + (1 : Int32))) (rV Q))))))))))))))) : aw Γ M_X3_gather 33 [aR 3 0, aR 8 0, aI x2, aR 1 i3, aI x4, aX] [] μ (rV Q) := by
  refine aw_iload dX3_gather_33 rfl ?_
  refine aw_aload_n dX3_gather_35 rfl ?_
  refine aw_get dX3_gather_36 rfl fk_RX3_102 (look_I rfl : look μ 1 i3 1 = aI (μ 1 i3 1)) ?_
  refine aw_icmp_ge (tgt := 133) dX3_gather_39 (by decide) (fun c0 => ?_) (fun c0 => ?_)
  · replace h := h.1 c0
    refine aw_iinc (v := x2 + (1 : Int32)) (ls' := [aR 3 0, aR 8 0, aI (x2 + (1 : Int32)), aR 1 i3, aI x4, aX]) dX3_gather_133 rfl rfl (by decide) rfl rfl ?_
    refine aw_goto (tgt := 12) dX3_gather_136 (by decide) ?_
    exact aw_wkk h (wk_e (wk_e (wk_e (wk_x (wk_x (wk_e wk_n))))))
  · replace h := h.2 c0
    refine aw_aload_n dX3_gather_42 rfl ?_
    refine aw_get dX3_gather_43 rfl fk_RX3_69 (look_I rfl : look μ 3 0 0 = aI (μ 3 0 0)) ?_
    refine aw_bipush (v := (80 : Int32)) dX3_gather_46 rfl ?_
    refine aw_icmp_ge (tgt := 133) dX3_gather_48 (by decide) (fun c0 => ?_) (fun c0 => ?_)
    · replace h := h.1 c0
      refine aw_iinc (v := x2 + (1 : Int32)) (ls' := [aR 3 0, aR 8 0, aI (x2 + (1 : Int32)), aR 1 i3, aI x4, aX]) dX3_gather_133 rfl rfl (by decide) rfl rfl ?_
      refine aw_goto (tgt := 12) dX3_gather_136 (by decide) ?_
      exact aw_wkk h (wk_e (wk_e (wk_e (wk_x (wk_x (wk_e wk_n))))))
    · replace h := h.2 c0
      refine aw_aload_n dX3_gather_51 rfl ?_
      refine aw_get dX3_gather_52 rfl fk_RX3_105 (look_R rfl rfl : look _ 1 i3 0 = aR 23 i3) ?_
      refine aw_iload dX3_gather_55 rfl ?_
      refine aw_aald dX3_gather_57 rfl rfl h.1 ((congrArg (look _ 23 i3) (show Int32.toNatClampNeg x4 = tn x4 from rfl)).trans (look_R rfl rfl) : look _ 23 i3 _ = aR 7 (8 * i3 + (tn x4))) ?_
      replace h := h.2
      refine aw_astore (ls' := [aR 3 0, aR 8 0, aI x2, aR 1 i3, aI x4, aR 7 (8 * i3 + (tn x4))]) dX3_gather_58 (by decide) rfl rfl ?_
      refine aw_aload dX3_gather_60 rfl ?_
      refine aw_get dX3_gather_62 rfl fk_RX3_108 (look_I rfl : look μ 7 (8 * i3 + (tn x4)) 1 = aI (μ 7 (8 * i3 + (tn x4)) 1)) ?_
      refine aw_aload_n dX3_gather_65 rfl ?_
      refine aw_get dX3_gather_66 rfl fk_RX3_21 (look_I rfl : look μ 3 0 5 = aI (μ 3 0 5)) ?_
      refine aw_icmp_ne (tgt := 127) dX3_gather_69 (by decide) (fun c0 => ?_) (fun c0 => ?_)
      · replace h := h.1 c0
        refine aw_iinc (v := x4 + (1 : Int32)) (ls' := [aR 3 0, aR 8 0, aI x2, aR 1 i3, aI (x4 + (1 : Int32)), aR 7 (8 * i3 + (tn x4))]) dX3_gather_127 rfl rfl (by decide) rfl rfl ?_
        refine aw_goto (tgt := 33) dX3_gather_130 (by decide) ?_
        exact aw_wkk h (wk_e (wk_e (wk_e (wk_e (wk_e (wk_x wk_n))))))
      · replace h := h.2 c0
        refine aw_aload dX3_gather_72 rfl ?_
        refine aw_get dX3_gather_74 rfl fk_RX3_109 (look_I rfl : look μ 7 (8 * i3 + (tn x4)) 2 = aI (μ 7 (8 * i3 + (tn x4)) 2)) ?_
        refine aw_aload_n dX3_gather_77 rfl ?_
        refine aw_get dX3_gather_78 rfl fk_RX3_25 (look_I rfl : look μ 3 0 6 = aI (μ 3 0 6)) ?_
        refine aw_icmp_ne (tgt := 127) dX3_gather_81 (by decide) (fun c0 => ?_) (fun c0 => ?_)
        · replace h := h.1 c0
          refine aw_iinc (v := x4 + (1 : Int32)) (ls' := [aR 3 0, aR 8 0, aI x2, aR 1 i3, aI (x4 + (1 : Int32)), aR 7 (8 * i3 + (tn x4))]) dX3_gather_127 rfl rfl (by decide) rfl rfl ?_
          refine aw_goto (tgt := 33) dX3_gather_130 (by decide) ?_
          exact aw_wkk h (wk_e (wk_e (wk_e (wk_e (wk_e (wk_x wk_n))))))
        · replace h := h.2 c0
          refine aw_aload_n dX3_gather_84 rfl ?_
          refine aw_get dX3_gather_85 rfl fk_RX3_17 (look_R rfl rfl : look _ 3 0 4 = aR 26 0) ?_
          refine aw_aload_n dX3_gather_88 rfl ?_
          refine aw_get dX3_gather_89 rfl fk_RX3_69 (look_I rfl : look μ 3 0 0 = aI (μ 3 0 0)) ?_
          refine aw_aload dX3_gather_92 rfl ?_
          refine aw_aast dX3_gather_94 h.1 ?_
          replace h := h.2
          refine aw_aload_n dX3_gather_95 rfl ?_
          refine aw_dup dX3_gather_96 (fun _ => rfl) ?_
          refine aw_get dX3_gather_97 rfl fk_RX3_69 ((look_I rfl).trans (congrArg aI ((sto_K (by decide)).trans (rfl))) : look (sto μ 26 0 (tn (μ 3 0 0)) (nI ((8 * i3 + (tn x4)) + 1))) 3 0 0 = aI (μ 3 0 0)) ?_
          refine aw_iconst (v := (1 : Int32)) dX3_gather_100 rfl ?_
          refine aw_iadd dX3_gather_101 ?_
          refine aw_putI dX3_gather_102 rfl fk_RX3_69 (fun r h => by cases h; rfl) rfl rfl ?_
          refine aw_aload_n dX3_gather_105 rfl ?_
          refine aw_dup dX3_gather_106 (fun _ => rfl) ?_
          refine aw_get dX3_gather_107 rfl fk_RX3_72 ((look_I rfl).trans (congrArg aI ((sto_s (by decide)).trans ((sto_K (by decide)).trans (rfl)))) : look (sto (sto μ 26 0 (tn (μ 3 0 0)) (nI ((8 * i3 + (tn x4)) + 1))) 3 0 0 ((μ 3 0 0) + (1 : Int32))) 3 0 1 = aI (μ 3 0 1)) ?_
          refine aw_aload dX3_gather_110 rfl ?_
          refine aw_callV (M' := M_X7_isRight) (K := 7) (i := (8 * i3 + (tn x4))) (vs := []) (st := [aI (μ 3 0 1), aR 3 0]) dX3_gather_112 mk_X7_isRight mi_X7_isRight ml_RX3_110 mp_X7_isRight rc_7 rm_X3_gather__X7_isRight (Nat.le_of_ble_eq_true rfl) rfl (cw_mono h ?_)
          clear h
          rintro _ μ1 ⟨r2, rfl, h⟩
          show aw Γ M_X3_gather 115 [aR 3 0, aR 8 0, aI x2, aR 1 i3, aI x4, aR 7 (8 * i3 + (tn x4))] [aI r2, aI (μ 3 0 1), aR 3 0] μ1 (rV Q)
          refine aw_if_eq (tgt := 122) dX3_gather_115 (by decide) (fun c0 => ?_) (fun c0 => ?_)
          · replace h := h.1 c0
            refine aw_iconst (v := (0 : Int32)) dX3_gather_122 rfl ?_
            refine aw_iadd dX3_gather_123 ?_
            refine aw_putI dX3_gather_124 rfl fk_RX3_72 (fun r h => by cases h; rfl) rfl rfl ?_
            refine aw_iinc (v := x4 + (1 : Int32)) (ls' := [aR 3 0, aR 8 0, aI x2, aR 1 i3, aI (x4 + (1 : Int32)), aR 7 (8 * i3 + (tn x4))]) dX3_gather_127 rfl rfl (by decide) rfl rfl ?_
            refine aw_goto (tgt := 33) dX3_gather_130 (by decide) ?_
            exact aw_wkk h (wk_e (wk_e (wk_e (wk_e (wk_e (wk_x wk_n))))))
          · replace h := h.2 c0
            refine aw_iconst (v := (1 : Int32)) dX3_gather_118 rfl ?_
            refine aw_goto (tgt := 123) dX3_gather_119 (by decide) ?_
            refine aw_iadd dX3_gather_123 ?_
            refine aw_putI dX3_gather_124 rfl fk_RX3_72 (fun r h => by cases h; rfl) rfl rfl ?_
            refine aw_iinc (v := x4 + (1 : Int32)) (ls' := [aR 3 0, aR 8 0, aI x2, aR 1 i3, aI (x4 + (1 : Int32)), aR 7 (8 * i3 + (tn x4))]) dX3_gather_127 rfl rfl (by decide) rfl rfl ?_
            refine aw_goto (tgt := 33) dX3_gather_130 (by decide) ?_
            exact aw_wkk h (wk_e (wk_e (wk_e (wk_e (wk_e (wk_x wk_n))))))
theorem u_X3_rightAgree {Γ : cx_T} {μ : mH} {x1 : Int32} {Q : Int32 → mH → Prop} (h : aw Γ M_X3_rightAgree 4 [aR 3 0, aI x1, aQ 7 none, aI (0 : Int32)] [] μ (rI Q)) : cwi Γ M_X3_rightAgree [aR 3 0, aI x1] μ Q := by
  refine cw_ofU (ls := [aR 3 0, aI x1, aX, aX]) (Or.inl (by decide)) rfl (Nat.le_of_ble_eq_true rfl) rfl ?_
  refine aw_null dX3_rightAgree_0 ?_
  refine aw_astore_nQ (K := 7) (o := none) (ls' := [aR 3 0, aI x1, aQ 7 none, aX]) dX3_rightAgree_1 (by decide) rfl rfl ?_
  refine aw_iconst (v := (0 : Int32)) dX3_rightAgree_2 rfl ?_
  refine aw_istore_n (ls' := [aR 3 0, aI x1, aQ 7 none, aI (0 : Int32)]) dX3_rightAgree_3 (by decide) rfl rfl ?_
  exact h
theorem u_X3_rightAgree_4 {Γ : cx_T} {μ : mH} {x1 : Int32} {o2 : Option Nat} {x3 : Int32} {Q : Int32 → mH → Prop} (h : ((μ 3 0 0) ≤ x3 → ((o2 = none → (Q (0 : Int32) μ)) ∧ (∀ j1, o2 = some j1 → j1 < kn 7 → (Q (1 : Int32) (cpy μ 24 j1 24 88 0 0 8))))) ∧ (¬ (μ 3 0 0) ≤ x3 → (vp_in x3 80 ∧ ∃ j2, cpo (μ 26 0 (tn x3)) = some j2 ∧ j2 < 88 ∧ (cwi Γ M_X7_isRight [aR 7 j2] μ (fun r4 μ3 => (r4 = 0 → (aw Γ M_X3_rightAgree 4 [aR 3 0, aI x1, aQ 7 o2, aI (x3 + (1 : Int32))] [] μ3 (rI Q))) ∧ (¬ r4 = 0 → ((o2 = none → (vp_in x3 80 ∧ ∃ j6, cpo (μ3 26 0 (tn x3)) = some j6 ∧ j6 < 88 ∧ (aw Γ M_X3_rightAgree 4 [aR 3 0, aI x1, aR 7 j6, aI (x3 + (1 : Int32))] [] μ3 (rI Q)))) ∧ (∀ j5, o2 = some j5 → j5 < kn 7 → (vp_in x3 80 ∧ ∃ j7, cpo (μ3 26 0 (tn x3)) = some j7 ∧ j7 < 88 ∧ (cwi Γ M_X7_hasData [aR 7 j5, aR 7 j7, aI x1] μ3 (fun r9 μ8 => (¬ r9 = 0 → (aw Γ M_X3_rightAgree 4 [aR 3 0, aI x1, aR 7 j5, aI (x3 + (1 : Int32))] [] μ8 (rI Q))) ∧ (r9 = 0 → (Q (0 : Int32) μ8))))))))))))) : aw Γ M_X3_rightAgree 4 [aR 3 0, aI x1, aQ 7 o2, aI x3] [] μ (rI Q) := by
  refine aw_iload_n dX3_rightAgree_4 rfl ?_
  refine aw_aload_n dX3_rightAgree_5 rfl ?_
  refine aw_get dX3_rightAgree_6 rfl fk_RX3_69 (look_I rfl : look μ 3 0 0 = aI (μ 3 0 0)) ?_
  refine aw_icmp_ge (tgt := 60) dX3_rightAgree_9 (by decide) (fun c0 => ?_) (fun c0 => ?_)
  · replace h := h.1 c0
    refine aw_aload_nQ (K := 7) dX3_rightAgree_60 rfl ?_
    refine aw_ifnonnull (tgt := 66) dX3_rightAgree_61 (by decide) (fun j1 c0 c1 => ?_) (fun c0 => ?_)
    · replace h := h.2 j1 c0 c1
      subst c0
      refine aw_aload_n dX3_rightAgree_66 rfl ?_
      refine aw_get dX3_rightAgree_67 rfl fk_RX3_88 (look_R rfl rfl : look _ 7 j1 6 = aR 24 j1) ?_
      refine aw_iconst (v := (0 : Int32)) dX3_rightAgree_70 rfl ?_
      refine aw_aload_n dX3_rightAgree_71 rfl ?_
      refine aw_get dX3_rightAgree_72 rfl fk_RX3_9 (look_R rfl rfl : look _ 3 0 3 = aR 24 88) ?_
      refine aw_iconst (v := (0 : Int32)) dX3_rightAgree_75 rfl ?_
      refine aw_bipush (v := (8 : Int32)) dX3_rightAgree_76 rfl ?_
      refine aw_copy0 dX3_rightAgree_78 ml_RX3_118 rfl rfl (fun _ => rfl) (fun _ => rfl) (by decide) (by decide) (by decide) (by decide) (by decide) ?_
      refine aw_iconst (v := (1 : Int32)) dX3_rightAgree_81 rfl ?_
      exact aw_iret (ty := .boolean) dX3_rightAgree_82 rfl (by decide) ⟨_, rfl, h⟩
    · replace h := h.1 c0
      subst c0
      refine aw_iconst (v := (0 : Int32)) dX3_rightAgree_64 rfl ?_
      exact aw_iret (ty := .boolean) dX3_rightAgree_65 rfl (by decide) ⟨_, rfl, h⟩
  · replace h := h.2 c0
    refine aw_aload_n dX3_rightAgree_12 rfl ?_
    refine aw_get dX3_rightAgree_13 rfl fk_RX3_17 (look_R rfl rfl : look _ 3 0 4 = aR 26 0) ?_
    refine aw_iload_n dX3_rightAgree_16 rfl ?_
    obtain ⟨hi0, j2, hc0, hc1, h⟩ := h
    refine aw_aald dX3_rightAgree_17 rfl rfl hi0 (look_cpo hc0) ?_
    refine aw_callV (M' := M_X7_isRight) (K := 7) (i := j2) (vs := []) (st := []) dX3_rightAgree_18 mk_X7_isRight mi_X7_isRight ml_RX3_110 mp_X7_isRight rc_7 rm_X3_rightAgree__X7_isRight (Nat.le_of_ble_eq_true rfl) rfl (cw_mono h ?_)
    clear h
    rintro _ μ3 ⟨r4, rfl, h⟩
    show aw Γ M_X3_rightAgree 21 [aR 3 0, aI x1, aQ 7 o2, aI x3] [aI r4] μ3 (rI Q)
    refine aw_if_eq (tgt := 54) dX3_rightAgree_21 (by decide) (fun c0 => ?_) (fun c0 => ?_)
    · replace h := h.1 c0
      refine aw_iinc (v := x3 + (1 : Int32)) (ls' := [aR 3 0, aI x1, aQ 7 o2, aI (x3 + (1 : Int32))]) dX3_rightAgree_54 rfl rfl (by decide) rfl rfl ?_
      refine aw_goto (tgt := 4) dX3_rightAgree_57 (by decide) ?_
      exact h
    · replace h := h.2 c0
      refine aw_aload_nQ (K := 7) dX3_rightAgree_24 rfl ?_
      refine aw_ifnonnull (tgt := 38) dX3_rightAgree_25 (by decide) (fun j5 c0 c1 => ?_) (fun c0 => ?_)
      · replace h := h.2 j5 c0 c1
        subst c0
        refine aw_aload_n dX3_rightAgree_38 rfl ?_
        refine aw_aload_n dX3_rightAgree_39 rfl ?_
        refine aw_get dX3_rightAgree_40 rfl fk_RX3_17 (look_R rfl rfl : look _ 3 0 4 = aR 26 0) ?_
        refine aw_iload_n dX3_rightAgree_43 rfl ?_
        obtain ⟨hi0, j7, hc0, hc1, h⟩ := h
        refine aw_aald dX3_rightAgree_44 rfl rfl hi0 (look_cpo hc0) ?_
        refine aw_iload_n dX3_rightAgree_45 rfl ?_
        refine aw_callV (M' := M_X7_hasData) (K := 7) (i := j5) (vs := [aR 7 j7, aI x1]) (st := []) dX3_rightAgree_46 mk_X7_hasData mi_X7_hasData ml_RX3_114 mp_X7_hasData rc_7 rm_X3_rightAgree__X7_hasData (Nat.le_of_ble_eq_true rfl) rfl (cw_mono h ?_)
        clear h
        rintro _ μ8 ⟨r9, rfl, h⟩
        show aw Γ M_X3_rightAgree 49 [aR 3 0, aI x1, aR 7 j5, aI x3] [aI r9] μ8 (rI Q)
        refine aw_if_ne (tgt := 54) dX3_rightAgree_49 (by decide) (fun c0 => ?_) (fun c0 => ?_)
        · replace h := h.1 c0
          refine aw_iinc (v := x3 + (1 : Int32)) (ls' := [aR 3 0, aI x1, aR 7 j5, aI (x3 + (1 : Int32))]) dX3_rightAgree_54 rfl rfl (by decide) rfl rfl ?_
          refine aw_goto (tgt := 4) dX3_rightAgree_57 (by decide) ?_
          exact h
        · replace h := h.2 c0
          refine aw_iconst (v := (0 : Int32)) dX3_rightAgree_52 rfl ?_
          exact aw_iret (ty := .boolean) dX3_rightAgree_53 rfl (by decide) ⟨_, rfl, h⟩
      · replace h := h.1 c0
        subst c0
        refine aw_aload_n dX3_rightAgree_28 rfl ?_
        refine aw_get dX3_rightAgree_29 rfl fk_RX3_17 (look_R rfl rfl : look _ 3 0 4 = aR 26 0) ?_
        refine aw_iload_n dX3_rightAgree_32 rfl ?_
        obtain ⟨hi0, j6, hc0, hc1, h⟩ := h
        refine aw_aald dX3_rightAgree_33 rfl rfl hi0 (look_cpo hc0) ?_
        refine aw_astore_n (ls' := [aR 3 0, aI x1, aR 7 j6, aI x3]) dX3_rightAgree_34 (by decide) rfl rfl ?_
        refine aw_goto (tgt := 54) dX3_rightAgree_35 (by decide) ?_
        refine aw_iinc (v := x3 + (1 : Int32)) (ls' := [aR 3 0, aI x1, aR 7 j6, aI (x3 + (1 : Int32))]) dX3_rightAgree_54 rfl rfl (by decide) rfl rfl ?_
        refine aw_goto (tgt := 4) dX3_rightAgree_57 (by decide) ?_
        exact h
theorem u_X3_mend {Γ : cx_T} {μ : mH}  {Q : Int32 → mH → Prop} (h : cwi Γ M_J9_min_7cf53 [aI (μ 4 1 4), aI (8 : Int32)] μ (fun r2 μ1 => cwi Γ M_X3_gatherKinds [aR 3 0, aI r2] μ1 (fun r4 μ3 => (¬ r4 = 0 → (aw Γ M_X3_mend 25 [aR 3 0, aR 4 1, aI r2, aI (1 : Int32), aI (0 : Int32), aX, aX, aX] [] μ3 (rI Q))) ∧ (r4 = 0 → (Q (0 : Int32) μ3))))) : cwi Γ M_X3_mend [aR 3 0, aR 4 1] μ Q := by
  refine cw_ofU (ls := [aR 3 0, aR 4 1, aX, aX, aX, aX, aX, aX]) (Or.inl (by decide)) rfl (Nat.le_of_ble_eq_true rfl) rfl ?_
  refine aw_aload_n dX3_mend_0 rfl ?_
  refine aw_get dX3_mend_1 rfl fk_RX3_75 (look_I rfl : look μ 4 1 4 = aI (μ 4 1 4)) ?_
  refine aw_bipush (v := (8 : Int32)) dX3_mend_4 rfl ?_
  refine aw_callS (M' := M_J9_min_7cf53) (vs := [aI (μ 4 1 4), aI (8 : Int32)]) (st := []) dX3_mend_6 mk_J9_min_7cf53 ms_J9_min_7cf53 ml_RX3_124 mp_J9_min_7cf53 rm_X3_mend__J9_min_7cf53 (Nat.le_of_ble_eq_true rfl) rfl (cw_mono h ?_)
  clear h
  rintro _ μ1 ⟨r2, rfl, h⟩
  show aw Γ M_X3_mend 9 [aR 3 0, aR 4 1, aX, aX, aX, aX, aX, aX] [aI r2] μ1 (rI Q)
  refine aw_istore_n (ls' := [aR 3 0, aR 4 1, aI r2, aX, aX, aX, aX, aX]) dX3_mend_9 (by decide) rfl rfl ?_
  refine aw_aload_n dX3_mend_10 rfl ?_
  refine aw_iload_n dX3_mend_11 rfl ?_
  refine aw_callV (M' := M_X3_gatherKinds) (K := 3) (i := 0) (vs := [aI r2]) (st := []) dX3_mend_12 mk_X3_gatherKinds mi_X3_gatherKinds ml_RX3_130 mp_X3_gatherKinds rc_3 rm_X3_mend__X3_gatherKinds (Nat.le_of_ble_eq_true rfl) rfl (cw_mono h ?_)
  clear h
  rintro _ μ3 ⟨r4, rfl, h⟩
  show aw Γ M_X3_mend 15 [aR 3 0, aR 4 1, aI r2, aX, aX, aX, aX, aX] [aI r4] μ3 (rI Q)
  refine aw_if_ne (tgt := 20) dX3_mend_15 (by decide) (fun c0 => ?_) (fun c0 => ?_)
  · replace h := h.1 c0
    refine aw_iconst (v := (1 : Int32)) dX3_mend_20 rfl ?_
    refine aw_istore_n (ls' := [aR 3 0, aR 4 1, aI r2, aI (1 : Int32), aX, aX, aX, aX]) dX3_mend_21 (by decide) rfl rfl ?_
    refine aw_iconst (v := (0 : Int32)) dX3_mend_22 rfl ?_
    refine aw_istore (ls' := [aR 3 0, aR 4 1, aI r2, aI (1 : Int32), aI (0 : Int32), aX, aX, aX]) dX3_mend_23 (by decide) rfl rfl ?_
    exact h
  · replace h := h.2 c0
    refine aw_iconst (v := (0 : Int32)) dX3_mend_18 rfl ?_
    exact aw_iret (ty := .boolean) dX3_mend_19 rfl (by decide) ⟨_, rfl, h⟩
theorem u_X3_mend_25 {Γ : cx_T} {μ : mH} {x2 : Int32} {x3 : Int32} {x4 : Int32} {Q : Int32 → mH → Prop} (h : (x2 ≤ x4 → (cwi Γ M_X4_sumOfHead [aR 4 1, aI (μ 3 0 5), aI (μ 3 0 6)] μ (fun r2 μ1 => aw Γ M_X3_mend 82 [aR 3 0, aR 4 1, aI x2, aI x3, aI (0 : Int32), aI (0 : Int32), aI (0 : Int32), aX] [] (sto μ1 32 0 0 r2) (rI Q)))) ∧ (¬ x2 ≤ x4 → (vp_in x4 10 ∧ (vp_in x4 8 ∧ (aw Γ M_X3_mend 25 [aR 3 0, aR 4 1, aI x2, aI (x3 * (μ 30 0 (tn x4))), aI (x4 + (1 : Int32)), aX, aX, aX] [] (sto μ 31 0 (tn x4) (0 : Int32)) (rI Q)))))) : aw Γ M_X3_mend 25 [aR 3 0, aR 4 1, aI x2, aI x3, aI x4, aX, aX, aX] [] μ (rI Q) := by
  refine aw_iload dX3_mend_25 rfl ?_
  refine aw_iload_n dX3_mend_27 rfl ?_
  refine aw_icmp_ge (tgt := 55) dX3_mend_28 (by decide) (fun c0 => ?_) (fun c0 => ?_)
  · replace h := h.1 c0
    refine aw_aload_n dX3_mend_55 rfl ?_
    refine aw_get dX3_mend_56 rfl fk_RX3_42 (look_R rfl rfl : look _ 3 0 11 = aR 32 0) ?_
    refine aw_iconst (v := (0 : Int32)) dX3_mend_59 rfl ?_
    refine aw_aload_n dX3_mend_60 rfl ?_
    refine aw_aload_n dX3_mend_61 rfl ?_
    refine aw_get dX3_mend_62 rfl fk_RX3_21 (look_I rfl : look μ 3 0 5 = aI (μ 3 0 5)) ?_
    refine aw_aload_n dX3_mend_65 rfl ?_
    refine aw_get dX3_mend_66 rfl fk_RX3_25 (look_I rfl : look μ 3 0 6 = aI (μ 3 0 6)) ?_
    refine aw_callV (M' := M_X4_sumOfHead) (K := 4) (i := 1) (vs := [aI (μ 3 0 5), aI (μ 3 0 6)]) (st := [aI (0 : Int32), aR 32 0]) dX3_mend_69 mk_X4_sumOfHead mi_X4_sumOfHead ml_RX3_133 mp_X4_sumOfHead rc_4 rm_X3_mend__X4_sumOfHead (Nat.le_of_ble_eq_true rfl) rfl (cw_mono h ?_)
    clear h
    rintro _ μ1 ⟨r2, rfl, h⟩
    show aw Γ M_X3_mend 72 [aR 3 0, aR 4 1, aI x2, aI x3, aI x4, aX, aX, aX] [aI r2, aI (0 : Int32), aR 32 0] μ1 (rI Q)
    refine aw_is (j := 0) dX3_mend_72 rfl (fun _ => rfl) (by unfold vp_in; decide) (by decide) ?_
    refine aw_iconst (v := (0 : Int32)) dX3_mend_73 rfl ?_
    refine aw_istore (ls' := [aR 3 0, aR 4 1, aI x2, aI x3, aI (0 : Int32), aX, aX, aX]) dX3_mend_74 (by decide) rfl rfl ?_
    refine aw_iconst (v := (0 : Int32)) dX3_mend_76 rfl ?_
    refine aw_istore (ls' := [aR 3 0, aR 4 1, aI x2, aI x3, aI (0 : Int32), aI (0 : Int32), aX, aX]) dX3_mend_77 (by decide) rfl rfl ?_
    refine aw_iconst (v := (0 : Int32)) dX3_mend_79 rfl ?_
    refine aw_istore (ls' := [aR 3 0, aR 4 1, aI x2, aI x3, aI (0 : Int32), aI (0 : Int32), aI (0 : Int32), aX]) dX3_mend_80 (by decide) rfl rfl ?_
    exact h
  · replace h := h.2 c0
    refine aw_iload_n dX3_mend_31 rfl ?_
    refine aw_aload_n dX3_mend_32 rfl ?_
    refine aw_get dX3_mend_33 rfl fk_RX3_36 (look_R rfl rfl : look _ 3 0 9 = aR 30 0) ?_
    refine aw_iload dX3_mend_36 rfl ?_
    refine aw_ia (j := tn x4) (y := μ 30 0 (tn x4)) dX3_mend_38 rfl (fun _ => rfl) h.1 rfl (rfl) ?_
    replace h := h.2
    refine aw_imul dX3_mend_39 ?_
    refine aw_istore_n (ls' := [aR 3 0, aR 4 1, aI x2, aI (x3 * (μ 30 0 (tn x4))), aI x4, aX, aX, aX]) dX3_mend_40 (by decide) rfl rfl ?_
    refine aw_aload_n dX3_mend_41 rfl ?_
    refine aw_get dX3_mend_42 rfl fk_RX3_39 (look_R rfl rfl : look _ 3 0 10 = aR 31 0) ?_
    refine aw_iload dX3_mend_45 rfl ?_
    refine aw_iconst (v := (0 : Int32)) dX3_mend_47 rfl ?_
    refine aw_is (j := tn x4) dX3_mend_48 rfl (fun _ => rfl) h.1 rfl ?_
    replace h := h.2
    refine aw_iinc (v := x4 + (1 : Int32)) (ls' := [aR 3 0, aR 4 1, aI x2, aI (x3 * (μ 30 0 (tn x4))), aI (x4 + (1 : Int32)), aX, aX, aX]) dX3_mend_49 rfl rfl (by decide) rfl rfl ?_
    refine aw_goto (tgt := 25) dX3_mend_52 (by decide) ?_
    exact h
theorem u_X3_mend_82 {Γ : cx_T} {μ : mH} {x2 : Int32} {x3 : Int32} {x4 : Int32} {x5 : Int32} {x6 : Int32} {Q : Int32 → mH → Prop} (h : (x3 ≤ x6 → ((¬ x5 = (1 : Int32) → (Q (0 : Int32) μ)) ∧ (x5 = (1 : Int32) → (Q (1 : Int32) μ)))) ∧ (¬ x3 ≤ x6 → (aw Γ M_X3_mend 92 [aR 3 0, aR 4 1, aI x2, aI x3, aX, aI x5, aI x6, aI x4] [] μ (rI Q)))) : aw Γ M_X3_mend 82 [aR 3 0, aR 4 1, aI x2, aI x3, aI x4, aI x5, aI x6, aX] [] μ (rI Q) := by
  refine aw_iload dX3_mend_82 rfl ?_
  refine aw_iload_n dX3_mend_84 rfl ?_
  refine aw_icmp_ge (tgt := 182) dX3_mend_85 (by decide) (fun c0 => ?_) (fun c0 => ?_)
  · replace h := h.1 c0
    refine aw_iload dX3_mend_182 rfl ?_
    refine aw_iconst (v := (1 : Int32)) dX3_mend_184 rfl ?_
    refine aw_icmp_ne (tgt := 192) dX3_mend_185 (by decide) (fun c0 => ?_) (fun c0 => ?_)
    · replace h := h.1 c0
      refine aw_iconst (v := (0 : Int32)) dX3_mend_192 rfl ?_
      exact aw_iret (ty := .boolean) dX3_mend_193 rfl (by decide) ⟨_, rfl, h⟩
    · replace h := h.2 c0
      refine aw_iconst (v := (1 : Int32)) dX3_mend_188 rfl ?_
      refine aw_goto (tgt := 193) dX3_mend_189 (by decide) ?_
      exact aw_iret (ty := .boolean) dX3_mend_193 rfl (by decide) ⟨_, rfl, h⟩
  · replace h := h.2 c0
    refine aw_iload dX3_mend_88 rfl ?_
    refine aw_istore (ls' := [aR 3 0, aR 4 1, aI x2, aI x3, aI x4, aI x5, aI x6, aI x4]) dX3_mend_90 (by decide) rfl rfl ?_
    exact aw_wkk h (wk_e (wk_e (wk_e (wk_e (wk_x (wk_e (wk_e (wk_e wk_n))))))))
theorem u_X3_mend_92 {Γ : cx_T} {μ : mH} {x2 : Int32} {x3 : Int32} {x5 : Int32} {x6 : Int32} {x7 : Int32} {Q : Int32 → mH → Prop} (h : (x2 ≤ x7 → (vp_in x2 9 ∧ (cwi Γ M_X3_hasSum [aR 3 0, aI x2, aI (μ 32 0 (tn x2))] μ (fun r2 μ1 => (r2 = 0 → (cwi Γ M_X3_chooseAnother [aR 3 0, aI x2] μ1 (fun r4 μ3 => aw Γ M_X3_mend 82 [aR 3 0, aR 4 1, aI x2, aI x3, aI r4, aI x5, aI (x6 + (1 : Int32)), aX] [] μ3 (rI Q)))) ∧ (¬ r2 = 0 → (((x5 + (1 : Int32)) ≤ (1 : Int32) → (cwv Γ M_X3_keepRow [aR 3 0, aI x2] μ1 (fun μ5 => cwi Γ M_X3_chooseAnother [aR 3 0, aI x2] μ5 (fun r7 μ6 => aw Γ M_X3_mend 82 [aR 3 0, aR 4 1, aI x2, aI x3, aI r7, aI (x5 + (1 : Int32)), aI (x6 + (1 : Int32)), aX] [] μ6 (rI Q))))) ∧ (¬ (x5 + (1 : Int32)) ≤ (1 : Int32) → (Q (0 : Int32) μ1)))))))) ∧ (¬ x2 ≤ x7 → (vp_in x7 9 ∧ (vp_in x7 10 ∧ (vp_in x7 8 ∧ (vp_in (μ 31 0 (tn x7)) 80 ∧ (cwi Γ M_X4_sumWith [aR 4 1, aI (μ 32 0 (tn x7)), aI (μ 29 (tn x7) (tn (μ 31 0 (tn x7))))] μ (fun r9 μ8 => vp_in (x7 + (1 : Int32)) 9 ∧ (aw Γ M_X3_mend 92 [aR 3 0, aR 4 1, aI x2, aI x3, aX, aI x5, aI x6, aI (x7 + (1 : Int32))] [] (sto μ8 32 0 (tn (x7 + (1 : Int32))) r9) (rI Q)))))))))) : aw Γ M_X3_mend 92 [aR 3 0, aR 4 1, aI x2, aI x3, aX, aI x5, aI x6, aI x7] [] μ (rI Q) := by
  refine aw_iload dX3_mend_92 rfl ?_
  refine aw_iload_n dX3_mend_94 rfl ?_
  refine aw_icmp_ge (tgt := 139) dX3_mend_95 (by decide) (fun c0 => ?_) (fun c0 => ?_)
  · replace h := h.1 c0
    refine aw_aload_n dX3_mend_139 rfl ?_
    refine aw_iload_n dX3_mend_140 rfl ?_
    refine aw_aload_n dX3_mend_141 rfl ?_
    refine aw_get dX3_mend_142 rfl fk_RX3_42 (look_R rfl rfl : look _ 3 0 11 = aR 32 0) ?_
    refine aw_iload_n dX3_mend_145 rfl ?_
    refine aw_ia (j := tn x2) (y := μ 32 0 (tn x2)) dX3_mend_146 rfl (fun _ => rfl) h.1 rfl (rfl) ?_
    replace h := h.2
    refine aw_callV (M' := M_X3_hasSum) (K := 3) (i := 0) (vs := [aI x2, aI (μ 32 0 (tn x2))]) (st := []) dX3_mend_147 mk_X3_hasSum mi_X3_hasSum ml_RX3_139 mp_X3_hasSum rc_3 rm_X3_mend__X3_hasSum (Nat.le_of_ble_eq_true rfl) rfl (cw_mono h ?_)
    clear h
    rintro _ μ1 ⟨r2, rfl, h⟩
    show aw Γ M_X3_mend 150 [aR 3 0, aR 4 1, aI x2, aI x3, aX, aI x5, aI x6, aI x7] [aI r2] μ1 (rI Q)
    refine aw_if_eq (tgt := 169) dX3_mend_150 (by decide) (fun c0 => ?_) (fun c0 => ?_)
    · replace h := h.1 c0
      refine aw_aload_n dX3_mend_169 rfl ?_
      refine aw_iload_n dX3_mend_170 rfl ?_
      refine aw_callV (M' := M_X3_chooseAnother) (K := 3) (i := 0) (vs := [aI x2]) (st := []) dX3_mend_171 mk_X3_chooseAnother mi_X3_chooseAnother ml_RX3_147 mp_X3_chooseAnother rc_3 rm_X3_mend__X3_chooseAnother (Nat.le_of_ble_eq_true rfl) rfl (cw_mono h ?_)
      clear h
      rintro _ μ3 ⟨r4, rfl, h⟩
      show aw Γ M_X3_mend 174 [aR 3 0, aR 4 1, aI x2, aI x3, aX, aI x5, aI x6, aI x7] [aI r4] μ3 (rI Q)
      refine aw_istore (ls' := [aR 3 0, aR 4 1, aI x2, aI x3, aI r4, aI x5, aI x6, aI x7]) dX3_mend_174 (by decide) rfl rfl ?_
      refine aw_iinc (v := x6 + (1 : Int32)) (ls' := [aR 3 0, aR 4 1, aI x2, aI x3, aI r4, aI x5, aI (x6 + (1 : Int32)), aI x7]) dX3_mend_176 rfl rfl (by decide) rfl rfl ?_
      refine aw_goto (tgt := 82) dX3_mend_179 (by decide) ?_
      exact aw_wkk h (wk_e (wk_e (wk_e (wk_e (wk_e (wk_e (wk_e (wk_x wk_n))))))))
    · replace h := h.2 c0
      refine aw_iinc (v := x5 + (1 : Int32)) (ls' := [aR 3 0, aR 4 1, aI x2, aI x3, aX, aI (x5 + (1 : Int32)), aI x6, aI x7]) dX3_mend_153 rfl rfl (by decide) rfl rfl ?_
      refine aw_iload dX3_mend_156 rfl ?_
      refine aw_iconst (v := (1 : Int32)) dX3_mend_158 rfl ?_
      refine aw_icmp_le (tgt := 164) dX3_mend_159 (by decide) (fun c0 => ?_) (fun c0 => ?_)
      · replace h := h.1 c0
        refine aw_aload_n dX3_mend_164 rfl ?_
        refine aw_iload_n dX3_mend_165 rfl ?_
        refine aw_callV (M' := M_X3_keepRow) (K := 3) (i := 0) (vs := [aI x2]) (st := []) dX3_mend_166 mk_X3_keepRow mi_X3_keepRow ml_RX3_143 mp_X3_keepRow rc_3 rm_X3_mend__X3_keepRow (Nat.le_of_ble_eq_true rfl) rfl (cw_mono h ?_)
        clear h
        intro _ μ5 h
        show aw Γ M_X3_mend 169 [aR 3 0, aR 4 1, aI x2, aI x3, aX, aI (x5 + (1 : Int32)), aI x6, aI x7] [] μ5 (rI Q)
        refine aw_aload_n dX3_mend_169 rfl ?_
        refine aw_iload_n dX3_mend_170 rfl ?_
        refine aw_callV (M' := M_X3_chooseAnother) (K := 3) (i := 0) (vs := [aI x2]) (st := []) dX3_mend_171 mk_X3_chooseAnother mi_X3_chooseAnother ml_RX3_147 mp_X3_chooseAnother rc_3 rm_X3_mend__X3_chooseAnother (Nat.le_of_ble_eq_true rfl) rfl (cw_mono h ?_)
        clear h
        rintro _ μ6 ⟨r7, rfl, h⟩
        show aw Γ M_X3_mend 174 [aR 3 0, aR 4 1, aI x2, aI x3, aX, aI (x5 + (1 : Int32)), aI x6, aI x7] [aI r7] μ6 (rI Q)
        refine aw_istore (ls' := [aR 3 0, aR 4 1, aI x2, aI x3, aI r7, aI (x5 + (1 : Int32)), aI x6, aI x7]) dX3_mend_174 (by decide) rfl rfl ?_
        refine aw_iinc (v := x6 + (1 : Int32)) (ls' := [aR 3 0, aR 4 1, aI x2, aI x3, aI r7, aI (x5 + (1 : Int32)), aI (x6 + (1 : Int32)), aI x7]) dX3_mend_176 rfl rfl (by decide) rfl rfl ?_
        refine aw_goto (tgt := 82) dX3_mend_179 (by decide) ?_
        exact aw_wkk h (wk_e (wk_e (wk_e (wk_e (wk_e (wk_e (wk_e (wk_x wk_n))))))))
      · replace h := h.2 c0
        refine aw_iconst (v := (0 : Int32)) dX3_mend_162 rfl ?_
        exact aw_iret (ty := .boolean) dX3_mend_163 rfl (by decide) ⟨_, rfl, h⟩
  · replace h := h.2 c0
    refine aw_aload_n dX3_mend_98 rfl ?_
    refine aw_get dX3_mend_99 rfl fk_RX3_42 (look_R rfl rfl : look _ 3 0 11 = aR 32 0) ?_
    refine aw_iload dX3_mend_102 rfl ?_
    refine aw_iconst (v := (1 : Int32)) dX3_mend_104 rfl ?_
    refine aw_iadd dX3_mend_105 ?_
    refine aw_aload_n dX3_mend_106 rfl ?_
    refine aw_aload_n dX3_mend_107 rfl ?_
    refine aw_get dX3_mend_108 rfl fk_RX3_42 (look_R rfl rfl : look _ 3 0 11 = aR 32 0) ?_
    refine aw_iload dX3_mend_111 rfl ?_
    refine aw_ia (j := tn x7) (y := μ 32 0 (tn x7)) dX3_mend_113 rfl (fun _ => rfl) h.1 rfl (rfl) ?_
    replace h := h.2
    refine aw_aload_n dX3_mend_114 rfl ?_
    refine aw_get dX3_mend_115 rfl fk_RX3_33 (look_R rfl rfl : look _ 3 0 8 = aR 28 0) ?_
    refine aw_iload dX3_mend_118 rfl ?_
    refine aw_aald dX3_mend_120 rfl rfl h.1 ((congrArg (look _ 28 0) (show Int32.toNatClampNeg x7 = tn x7 from rfl)).trans (look_R rfl rfl) : look _ 28 0 _ = aR 29 (tn x7)) ?_
    replace h := h.2
    refine aw_aload_n dX3_mend_121 rfl ?_
    refine aw_get dX3_mend_122 rfl fk_RX3_39 (look_R rfl rfl : look _ 3 0 10 = aR 31 0) ?_
    refine aw_iload dX3_mend_125 rfl ?_
    refine aw_ia (j := tn x7) (y := μ 31 0 (tn x7)) dX3_mend_127 rfl (fun _ => rfl) h.1 rfl (rfl) ?_
    replace h := h.2
    refine aw_ia (j := tn (μ 31 0 (tn x7))) (y := μ 29 (tn x7) (tn (μ 31 0 (tn x7)))) dX3_mend_128 rfl (fun _ => rfl) h.1 rfl (rfl) ?_
    replace h := h.2
    refine aw_callV (M' := M_X4_sumWith) (K := 4) (i := 1) (vs := [aI (μ 32 0 (tn x7)), aI (μ 29 (tn x7) (tn (μ 31 0 (tn x7))))]) (st := [aI (x7 + (1 : Int32)), aR 32 0]) dX3_mend_129 mk_X4_sumWith mi_X4_sumWith ml_RX3_136 mp_X4_sumWith rc_4 rm_X3_mend__X4_sumWith (Nat.le_of_ble_eq_true rfl) rfl (cw_mono h ?_)
    clear h
    rintro _ μ8 ⟨r9, rfl, h⟩
    show aw Γ M_X3_mend 132 [aR 3 0, aR 4 1, aI x2, aI x3, aX, aI x5, aI x6, aI x7] [aI r9, aI (x7 + (1 : Int32)), aR 32 0] μ8 (rI Q)
    refine aw_is (j := tn (x7 + (1 : Int32))) dX3_mend_132 rfl (fun _ => rfl) h.1 rfl ?_
    replace h := h.2
    refine aw_iinc (v := x7 + (1 : Int32)) (ls' := [aR 3 0, aR 4 1, aI x2, aI x3, aX, aI x5, aI x6, aI (x7 + (1 : Int32))]) dX3_mend_133 rfl rfl (by decide) rfl rfl ?_
    refine aw_goto (tgt := 92) dX3_mend_136 (by decide) ?_
    exact h
theorem u_X3_gatherKinds {Γ : cx_T} {μ : mH} {x1 : Int32} {Q : Int32 → mH → Prop} (h : aw Γ M_X3_gatherKinds 4 [aR 3 0, aI x1, aI (1 : Int32), aI (0 : Int32), aX, aX] [] μ (rI Q)) : cwi Γ M_X3_gatherKinds [aR 3 0, aI x1] μ Q := by
  refine cw_ofU (ls := [aR 3 0, aI x1, aX, aX, aX, aX]) (Or.inl (by decide)) rfl (Nat.le_of_ble_eq_true rfl) rfl ?_
  refine aw_iconst (v := (1 : Int32)) dX3_gatherKinds_0 rfl ?_
  refine aw_istore_n (ls' := [aR 3 0, aI x1, aI (1 : Int32), aX, aX, aX]) dX3_gatherKinds_1 (by decide) rfl rfl ?_
  refine aw_iconst (v := (0 : Int32)) dX3_gatherKinds_2 rfl ?_
  refine aw_istore_n (ls' := [aR 3 0, aI x1, aI (1 : Int32), aI (0 : Int32), aX, aX]) dX3_gatherKinds_3 (by decide) rfl rfl ?_
  exact h
theorem u_X3_gatherKinds_4 {Γ : cx_T} {μ : mH} {x1 : Int32} {x2 : Int32} {x3 : Int32} {Q : Int32 → mH → Prop} (h : ((x1 + (2 : Int32)) ≤ x3 → (Q (1 : Int32) μ)) ∧ (¬ (x1 + (2 : Int32)) ≤ x3 → (vp_in x3 10 ∧ (aw Γ M_X3_gatherKinds 21 [aR 3 0, aI x1, aI x2, aI x3, aI (0 : Int32), aX] [] (sto μ 30 0 (tn x3) (0 : Int32)) (rI Q))))) : aw Γ M_X3_gatherKinds 4 [aR 3 0, aI x1, aI x2, aI x3, aX, aX] [] μ (rI Q) := by
  refine aw_iload_n dX3_gatherKinds_4 rfl ?_
  refine aw_iload_n dX3_gatherKinds_5 rfl ?_
  refine aw_iconst (v := (2 : Int32)) dX3_gatherKinds_6 rfl ?_
  refine aw_iadd dX3_gatherKinds_7 ?_
  refine aw_icmp_ge (tgt := 109) dX3_gatherKinds_8 (by decide) (fun c0 => ?_) (fun c0 => ?_)
  · replace h := h.1 c0
    refine aw_iconst (v := (1 : Int32)) dX3_gatherKinds_109 rfl ?_
    exact aw_iret (ty := .boolean) dX3_gatherKinds_110 rfl (by decide) ⟨_, rfl, h⟩
  · replace h := h.2 c0
    refine aw_aload_n dX3_gatherKinds_11 rfl ?_
    refine aw_get dX3_gatherKinds_12 rfl fk_RX3_36 (look_R rfl rfl : look _ 3 0 9 = aR 30 0) ?_
    refine aw_iload_n dX3_gatherKinds_15 rfl ?_
    refine aw_iconst (v := (0 : Int32)) dX3_gatherKinds_16 rfl ?_
    refine aw_is (j := tn x3) dX3_gatherKinds_17 rfl (fun _ => rfl) h.1 rfl ?_
    replace h := h.2
    refine aw_iconst (v := (0 : Int32)) dX3_gatherKinds_18 rfl ?_
    refine aw_istore (ls' := [aR 3 0, aI x1, aI x2, aI x3, aI (0 : Int32), aX]) dX3_gatherKinds_19 (by decide) rfl rfl ?_
    exact h
theorem u_X3_gatherKinds_21 {Γ : cx_T} {μ : mH} {x1 : Int32} {x2 : Int32} {x3 : Int32} {x4 : Int32} {Q : Int32 → mH → Prop} (h : ((μ 3 0 0) ≤ x4 → (vp_in x3 10 ∧ (((x2 * (μ 30 0 (tn x3))) ≤ (4096 : Int32) → (aw Γ M_X3_gatherKinds 4 [aR 3 0, aI x1, aI (x2 * (μ 30 0 (tn x3))), aI (x3 + (1 : Int32)), aX, aX] [] μ (rI Q))) ∧ (¬ (x2 * (μ 30 0 (tn x3))) ≤ (4096 : Int32) → (Q (0 : Int32) μ))))) ∧ (¬ (μ 3 0 0) ≤ x4 → (vp_in x4 80 ∧ ∃ j1, cpo (μ 26 0 (tn x4)) = some j1 ∧ j1 < 88 ∧ (cwi Γ M_X7_byteOrSum [aR 7 j1, aI x3, aI x1] μ (fun r3 μ2 => cwi Γ M_X3_hasKind [aR 3 0, aI x3, aI r3] μ2 (fun r5 μ4 => (¬ r5 = 0 → (aw Γ M_X3_gatherKinds 21 [aR 3 0, aI x1, aI x2, aI x3, aI (x4 + (1 : Int32)), aX] [] μ4 (rI Q))) ∧ (r5 = 0 → (vp_in x3 10 ∧ (vp_in x3 10 ∧ (vp_in (μ4 30 0 (tn x3)) 80 ∧ (vp_in x3 10 ∧ (vp_in x3 10 ∧ (aw Γ M_X3_gatherKinds 21 [aR 3 0, aI x1, aI x2, aI x3, aI (x4 + (1 : Int32)), aX] [] (sto (sto μ4 29 (tn x3) (tn (μ4 30 0 (tn x3))) r3) 30 0 (tn x3) ((μ4 30 0 (tn x3)) + (1 : Int32))) (rI Q)))))))))))))) : aw Γ M_X3_gatherKinds 21 [aR 3 0, aI x1, aI x2, aI x3, aI x4, aX] [] μ (rI Q) := by
  refine aw_iload dX3_gatherKinds_21 rfl ?_
  refine aw_aload_n dX3_gatherKinds_23 rfl ?_
  refine aw_get dX3_gatherKinds_24 rfl fk_RX3_69 (look_I rfl : look μ 3 0 0 = aI (μ 3 0 0)) ?_
  refine aw_icmp_ge (tgt := 85) dX3_gatherKinds_27 (by decide) (fun c0 => ?_) (fun c0 => ?_)
  · replace h := h.1 c0
    refine aw_iload_n dX3_gatherKinds_85 rfl ?_
    refine aw_aload_n dX3_gatherKinds_86 rfl ?_
    refine aw_get dX3_gatherKinds_87 rfl fk_RX3_36 (look_R rfl rfl : look _ 3 0 9 = aR 30 0) ?_
    refine aw_iload_n dX3_gatherKinds_90 rfl ?_
    refine aw_ia (j := tn x3) (y := μ 30 0 (tn x3)) dX3_gatherKinds_91 rfl (fun _ => rfl) h.1 rfl (rfl) ?_
    replace h := h.2
    refine aw_imul dX3_gatherKinds_92 ?_
    refine aw_istore_n (ls' := [aR 3 0, aI x1, aI (x2 * (μ 30 0 (tn x3))), aI x3, aI x4, aX]) dX3_gatherKinds_93 (by decide) rfl rfl ?_
    refine aw_iload_n dX3_gatherKinds_94 rfl ?_
    refine aw_sipush (v := (4096 : Int32)) dX3_gatherKinds_95 rfl ?_
    refine aw_icmp_le (tgt := 103) dX3_gatherKinds_98 (by decide) (fun c0 => ?_) (fun c0 => ?_)
    · replace h := h.1 c0
      refine aw_iinc (v := x3 + (1 : Int32)) (ls' := [aR 3 0, aI x1, aI (x2 * (μ 30 0 (tn x3))), aI (x3 + (1 : Int32)), aI x4, aX]) dX3_gatherKinds_103 rfl rfl (by decide) rfl rfl ?_
      refine aw_goto (tgt := 4) dX3_gatherKinds_106 (by decide) ?_
      exact aw_wkk h (wk_e (wk_e (wk_e (wk_e (wk_x (wk_e wk_n))))))
    · replace h := h.2 c0
      refine aw_iconst (v := (0 : Int32)) dX3_gatherKinds_101 rfl ?_
      exact aw_iret (ty := .boolean) dX3_gatherKinds_102 rfl (by decide) ⟨_, rfl, h⟩
  · replace h := h.2 c0
    refine aw_aload_n dX3_gatherKinds_30 rfl ?_
    refine aw_get dX3_gatherKinds_31 rfl fk_RX3_17 (look_R rfl rfl : look _ 3 0 4 = aR 26 0) ?_
    refine aw_iload dX3_gatherKinds_34 rfl ?_
    obtain ⟨hi0, j1, hc0, hc1, h⟩ := h
    refine aw_aald dX3_gatherKinds_36 rfl rfl hi0 (look_cpo hc0) ?_
    refine aw_iload_n dX3_gatherKinds_37 rfl ?_
    refine aw_iload_n dX3_gatherKinds_38 rfl ?_
    refine aw_callV (M' := M_X7_byteOrSum) (K := 7) (i := j1) (vs := [aI x3, aI x1]) (st := []) dX3_gatherKinds_39 mk_X7_byteOrSum mi_X7_byteOrSum ml_RX3_151 mp_X7_byteOrSum rc_7 rm_X3_gatherKinds__X7_byteOrSum (Nat.le_of_ble_eq_true rfl) rfl (cw_mono h ?_)
    clear h
    rintro _ μ2 ⟨r3, rfl, h⟩
    show aw Γ M_X3_gatherKinds 42 [aR 3 0, aI x1, aI x2, aI x3, aI x4, aX] [aI r3] μ2 (rI Q)
    refine aw_istore (ls' := [aR 3 0, aI x1, aI x2, aI x3, aI x4, aI r3]) dX3_gatherKinds_42 (by decide) rfl rfl ?_
    refine aw_aload_n dX3_gatherKinds_44 rfl ?_
    refine aw_iload_n dX3_gatherKinds_45 rfl ?_
    refine aw_iload dX3_gatherKinds_46 rfl ?_
    refine aw_callV (M' := M_X3_hasKind) (K := 3) (i := 0) (vs := [aI x3, aI r3]) (st := []) dX3_gatherKinds_48 mk_X3_hasKind mi_X3_hasKind ml_RX3_154 mp_X3_hasKind rc_3 rm_X3_gatherKinds__X3_hasKind (Nat.le_of_ble_eq_true rfl) rfl (cw_mono h ?_)
    clear h
    rintro _ μ4 ⟨r5, rfl, h⟩
    show aw Γ M_X3_gatherKinds 51 [aR 3 0, aI x1, aI x2, aI x3, aI x4, aI r3] [aI r5] μ4 (rI Q)
    refine aw_if_ne (tgt := 79) dX3_gatherKinds_51 (by decide) (fun c0 => ?_) (fun c0 => ?_)
    · replace h := h.1 c0
      refine aw_iinc (v := x4 + (1 : Int32)) (ls' := [aR 3 0, aI x1, aI x2, aI x3, aI (x4 + (1 : Int32)), aI r3]) dX3_gatherKinds_79 rfl rfl (by decide) rfl rfl ?_
      refine aw_goto (tgt := 21) dX3_gatherKinds_82 (by decide) ?_
      exact aw_wkk h (wk_e (wk_e (wk_e (wk_e (wk_e (wk_x wk_n))))))
    · replace h := h.2 c0
      refine aw_aload_n dX3_gatherKinds_54 rfl ?_
      refine aw_get dX3_gatherKinds_55 rfl fk_RX3_33 (look_R rfl rfl : look _ 3 0 8 = aR 28 0) ?_
      refine aw_iload_n dX3_gatherKinds_58 rfl ?_
      refine aw_aald dX3_gatherKinds_59 rfl rfl h.1 ((congrArg (look _ 28 0) (show Int32.toNatClampNeg x3 = tn x3 from rfl)).trans (look_R rfl rfl) : look _ 28 0 _ = aR 29 (tn x3)) ?_
      replace h := h.2
      refine aw_aload_n dX3_gatherKinds_60 rfl ?_
      refine aw_get dX3_gatherKinds_61 rfl fk_RX3_36 (look_R rfl rfl : look _ 3 0 9 = aR 30 0) ?_
      refine aw_iload_n dX3_gatherKinds_64 rfl ?_
      refine aw_ia (j := tn x3) (y := μ4 30 0 (tn x3)) dX3_gatherKinds_65 rfl (fun _ => rfl) h.1 rfl (rfl) ?_
      replace h := h.2
      refine aw_iload dX3_gatherKinds_66 rfl ?_
      refine aw_is (j := tn (μ4 30 0 (tn x3))) dX3_gatherKinds_68 rfl (fun _ => rfl) h.1 rfl ?_
      replace h := h.2
      refine aw_aload_n dX3_gatherKinds_69 rfl ?_
      refine aw_get dX3_gatherKinds_70 rfl fk_RX3_36 (look_R rfl rfl : look _ 3 0 9 = aR 30 0) ?_
      refine aw_iload_n dX3_gatherKinds_73 rfl ?_
      refine aw_dup2 dX3_gatherKinds_74 (fun _ => rfl) (fun _ => rfl) ?_
      refine aw_ia (j := tn x3) (y := μ4 30 0 (tn x3)) dX3_gatherKinds_75 rfl (fun _ => rfl) h.1 rfl ((sto_K (by decide)).trans (rfl)) ?_
      replace h := h.2
      refine aw_iconst (v := (1 : Int32)) dX3_gatherKinds_76 rfl ?_
      refine aw_iadd dX3_gatherKinds_77 ?_
      refine aw_is (j := tn x3) dX3_gatherKinds_78 rfl (fun _ => rfl) h.1 rfl ?_
      replace h := h.2
      refine aw_iinc (v := x4 + (1 : Int32)) (ls' := [aR 3 0, aI x1, aI x2, aI x3, aI (x4 + (1 : Int32)), aI r3]) dX3_gatherKinds_79 rfl rfl (by decide) rfl rfl ?_
      refine aw_goto (tgt := 21) dX3_gatherKinds_82 (by decide) ?_
      exact aw_wkk h (wk_e (wk_e (wk_e (wk_e (wk_e (wk_x wk_n))))))
theorem u_X3_hasKind {Γ : cx_T} {μ : mH} {x1 : Int32} {x2 : Int32} {Q : Int32 → mH → Prop} (h : aw Γ M_X3_hasKind 2 [aR 3 0, aI x1, aI x2, aI (0 : Int32)] [] μ (rI Q)) : cwi Γ M_X3_hasKind [aR 3 0, aI x1, aI x2] μ Q := by
  refine cw_ofU (ls := [aR 3 0, aI x1, aI x2, aX]) (Or.inl (by decide)) rfl (Nat.le_of_ble_eq_true rfl) rfl ?_
  refine aw_iconst (v := (0 : Int32)) dX3_hasKind_0 rfl ?_
  refine aw_istore_n (ls' := [aR 3 0, aI x1, aI x2, aI (0 : Int32)]) dX3_hasKind_1 (by decide) rfl rfl ?_
  exact h
theorem u_X3_hasKind_2 {Γ : cx_T} {μ : mH} {x1 : Int32} {x2 : Int32} {x3 : Int32} {Q : Int32 → mH → Prop} (h : vp_in x1 10 ∧ (((μ 30 0 (tn x1)) ≤ x3 → (Q (0 : Int32) μ)) ∧ (¬ (μ 30 0 (tn x1)) ≤ x3 → (vp_in x1 10 ∧ (vp_in x3 80 ∧ ((¬ (μ 29 (tn x1) (tn x3)) = x2 → (aw Γ M_X3_hasKind 2 [aR 3 0, aI x1, aI x2, aI (x3 + (1 : Int32))] [] μ (rI Q))) ∧ ((μ 29 (tn x1) (tn x3)) = x2 → (Q (1 : Int32) μ)))))))) : aw Γ M_X3_hasKind 2 [aR 3 0, aI x1, aI x2, aI x3] [] μ (rI Q) := by
  refine aw_iload_n dX3_hasKind_2 rfl ?_
  refine aw_aload_n dX3_hasKind_3 rfl ?_
  refine aw_get dX3_hasKind_4 rfl fk_RX3_36 (look_R rfl rfl : look _ 3 0 9 = aR 30 0) ?_
  refine aw_iload_n dX3_hasKind_7 rfl ?_
  refine aw_ia (j := tn x1) (y := μ 30 0 (tn x1)) dX3_hasKind_8 rfl (fun _ => rfl) h.1 rfl (rfl) ?_
  replace h := h.2
  refine aw_icmp_ge (tgt := 32) dX3_hasKind_9 (by decide) (fun c0 => ?_) (fun c0 => ?_)
  · replace h := h.1 c0
    refine aw_iconst (v := (0 : Int32)) dX3_hasKind_32 rfl ?_
    exact aw_iret (ty := .boolean) dX3_hasKind_33 rfl (by decide) ⟨_, rfl, h⟩
  · replace h := h.2 c0
    refine aw_aload_n dX3_hasKind_12 rfl ?_
    refine aw_get dX3_hasKind_13 rfl fk_RX3_33 (look_R rfl rfl : look _ 3 0 8 = aR 28 0) ?_
    refine aw_iload_n dX3_hasKind_16 rfl ?_
    refine aw_aald dX3_hasKind_17 rfl rfl h.1 ((congrArg (look _ 28 0) (show Int32.toNatClampNeg x1 = tn x1 from rfl)).trans (look_R rfl rfl) : look _ 28 0 _ = aR 29 (tn x1)) ?_
    replace h := h.2
    refine aw_iload_n dX3_hasKind_18 rfl ?_
    refine aw_ia (j := tn x3) (y := μ 29 (tn x1) (tn x3)) dX3_hasKind_19 rfl (fun _ => rfl) h.1 rfl (rfl) ?_
    replace h := h.2
    refine aw_iload_n dX3_hasKind_20 rfl ?_
    refine aw_icmp_ne (tgt := 26) dX3_hasKind_21 (by decide) (fun c0 => ?_) (fun c0 => ?_)
    · replace h := h.1 c0
      refine aw_iinc (v := x3 + (1 : Int32)) (ls' := [aR 3 0, aI x1, aI x2, aI (x3 + (1 : Int32))]) dX3_hasKind_26 rfl rfl (by decide) rfl rfl ?_
      refine aw_goto (tgt := 2) dX3_hasKind_29 (by decide) ?_
      exact h
    · replace h := h.2 c0
      refine aw_iconst (v := (1 : Int32)) dX3_hasKind_24 rfl ?_
      exact aw_iret (ty := .boolean) dX3_hasKind_25 rfl (by decide) ⟨_, rfl, h⟩
theorem u_X3_hasSum {Γ : cx_T} {μ : mH} {x1 : Int32} {x2 : Int32} {Q : Int32 → mH → Prop} (h : cwi Γ M_X3_hasKind [aR 3 0, aI x1, aI (x2 >>> ((8 : Int32) &&& 31))] μ (fun r2 μ1 => (r2 = 0 → (Q (0 : Int32) μ1)) ∧ (¬ r2 = 0 → (cwi Γ M_X3_hasKind [aR 3 0, aI (x1 + (1 : Int32)), aI (x2 &&& (255 : Int32))] μ1 (fun r4 μ3 => (r4 = 0 → (Q (0 : Int32) μ3)) ∧ (¬ r4 = 0 → (Q (1 : Int32) μ3))))))) : cwi Γ M_X3_hasSum [aR 3 0, aI x1, aI x2] μ Q := by
  refine cw_ofU (ls := [aR 3 0, aI x1, aI x2]) (Or.inl (by decide)) rfl (Nat.le_of_ble_eq_true rfl) rfl ?_
  refine aw_aload_n dX3_hasSum_0 rfl ?_
  refine aw_iload_n dX3_hasSum_1 rfl ?_
  refine aw_iload_n dX3_hasSum_2 rfl ?_
  refine aw_bipush (v := (8 : Int32)) dX3_hasSum_3 rfl ?_
  refine aw_ishr dX3_hasSum_5 ?_
  refine aw_callV (M' := M_X3_hasKind) (K := 3) (i := 0) (vs := [aI x1, aI (x2 >>> ((8 : Int32) &&& 31))]) (st := []) dX3_hasSum_6 mk_X3_hasKind mi_X3_hasKind ml_RX3_154 mp_X3_hasKind rc_3 rm_X3_hasSum__X3_hasKind (Nat.le_of_ble_eq_true rfl) rfl (cw_mono h ?_)
  clear h
  rintro _ μ1 ⟨r2, rfl, h⟩
  show aw Γ M_X3_hasSum 9 [aR 3 0, aI x1, aI x2] [aI r2] μ1 (rI Q)
  refine aw_if_eq (tgt := 31) dX3_hasSum_9 (by decide) (fun c0 => ?_) (fun c0 => ?_)
  · replace h := h.1 c0
    refine aw_iconst (v := (0 : Int32)) dX3_hasSum_31 rfl ?_
    exact aw_iret (ty := .boolean) dX3_hasSum_32 rfl (by decide) ⟨_, rfl, h⟩
  · replace h := h.2 c0
    refine aw_aload_n dX3_hasSum_12 rfl ?_
    refine aw_iload_n dX3_hasSum_13 rfl ?_
    refine aw_iconst (v := (1 : Int32)) dX3_hasSum_14 rfl ?_
    refine aw_iadd dX3_hasSum_15 ?_
    refine aw_iload_n dX3_hasSum_16 rfl ?_
    refine aw_sipush (v := (255 : Int32)) dX3_hasSum_17 rfl ?_
    refine aw_iand dX3_hasSum_20 ?_
    refine aw_callV (M' := M_X3_hasKind) (K := 3) (i := 0) (vs := [aI (x1 + (1 : Int32)), aI (x2 &&& (255 : Int32))]) (st := []) dX3_hasSum_21 mk_X3_hasKind mi_X3_hasKind ml_RX3_154 mp_X3_hasKind rc_3 rm_X3_hasSum__X3_hasKind (Nat.le_of_ble_eq_true rfl) rfl (cw_mono h ?_)
    clear h
    rintro _ μ3 ⟨r4, rfl, h⟩
    show aw Γ M_X3_hasSum 24 [aR 3 0, aI x1, aI x2] [aI r4] μ3 (rI Q)
    refine aw_if_eq (tgt := 31) dX3_hasSum_24 (by decide) (fun c0 => ?_) (fun c0 => ?_)
    · replace h := h.1 c0
      refine aw_iconst (v := (0 : Int32)) dX3_hasSum_31 rfl ?_
      exact aw_iret (ty := .boolean) dX3_hasSum_32 rfl (by decide) ⟨_, rfl, h⟩
    · replace h := h.2 c0
      refine aw_iconst (v := (1 : Int32)) dX3_hasSum_27 rfl ?_
      refine aw_goto (tgt := 32) dX3_hasSum_28 (by decide) ?_
      exact aw_iret (ty := .boolean) dX3_hasSum_32 rfl (by decide) ⟨_, rfl, h⟩
theorem u_X3_keepRow {Γ : cx_T} {μ : mH} {x1 : Int32} {Q : mH → Prop} (h : aw Γ M_X3_keepRow 2 [aR 3 0, aI x1, aI (0 : Int32)] [] μ (rV Q)) : cwv Γ M_X3_keepRow [aR 3 0, aI x1] μ Q := by
  refine cw_ofU (ls := [aR 3 0, aI x1, aX]) (Or.inl (by decide)) rfl (Nat.le_of_ble_eq_true rfl) rfl ?_
  refine aw_iconst (v := (0 : Int32)) dX3_keepRow_0 rfl ?_
  refine aw_istore_n (ls' := [aR 3 0, aI x1, aI (0 : Int32)]) dX3_keepRow_1 (by decide) rfl rfl ?_
  exact h
theorem u_X3_keepRow_2 {Γ : cx_T} {μ : mH} {x1 : Int32} {x2 : Int32} {Q : mH → Prop} (h : (x1 ≤ x2 → (Q μ)) ∧ (¬ x1 ≤ x2 → (vp_in x2 10 ∧ (vp_in x2 8 ∧ (vp_in (μ 31 0 (tn x2)) 80 ∧ (vp_in x2 8 ∧ (aw Γ M_X3_keepRow 2 [aR 3 0, aI x1, aI (x2 + (1 : Int32))] [] (sto μ 24 88 (tn x2) (μ 29 (tn x2) (tn (μ 31 0 (tn x2))))) (rV Q)))))))) : aw Γ M_X3_keepRow 2 [aR 3 0, aI x1, aI x2] [] μ (rV Q) := by
  refine aw_iload_n dX3_keepRow_2 rfl ?_
  refine aw_iload_n dX3_keepRow_3 rfl ?_
  refine aw_icmp_ge (tgt := 32) dX3_keepRow_4 (by decide) (fun c0 => ?_) (fun c0 => ?_)
  · replace h := h.1 c0
    exact aw_vret dX3_keepRow_32 rfl h
  · replace h := h.2 c0
    refine aw_aload_n dX3_keepRow_7 rfl ?_
    refine aw_get dX3_keepRow_8 rfl fk_RX3_9 (look_R rfl rfl : look _ 3 0 3 = aR 24 88) ?_
    refine aw_iload_n dX3_keepRow_11 rfl ?_
    refine aw_aload_n dX3_keepRow_12 rfl ?_
    refine aw_get dX3_keepRow_13 rfl fk_RX3_33 (look_R rfl rfl : look _ 3 0 8 = aR 28 0) ?_
    refine aw_iload_n dX3_keepRow_16 rfl ?_
    refine aw_aald dX3_keepRow_17 rfl rfl h.1 ((congrArg (look _ 28 0) (show Int32.toNatClampNeg x2 = tn x2 from rfl)).trans (look_R rfl rfl) : look _ 28 0 _ = aR 29 (tn x2)) ?_
    replace h := h.2
    refine aw_aload_n dX3_keepRow_18 rfl ?_
    refine aw_get dX3_keepRow_19 rfl fk_RX3_39 (look_R rfl rfl : look _ 3 0 10 = aR 31 0) ?_
    refine aw_iload_n dX3_keepRow_22 rfl ?_
    refine aw_ia (j := tn x2) (y := μ 31 0 (tn x2)) dX3_keepRow_23 rfl (fun _ => rfl) h.1 rfl (rfl) ?_
    replace h := h.2
    refine aw_ia (j := tn (μ 31 0 (tn x2))) (y := μ 29 (tn x2) (tn (μ 31 0 (tn x2)))) dX3_keepRow_24 rfl (fun _ => rfl) h.1 rfl (rfl) ?_
    replace h := h.2
    refine aw_is (j := tn x2) dX3_keepRow_25 rfl (fun _ => rfl) h.1 rfl ?_
    replace h := h.2
    refine aw_iinc (v := x2 + (1 : Int32)) (ls' := [aR 3 0, aI x1, aI (x2 + (1 : Int32))]) dX3_keepRow_26 rfl rfl (by decide) rfl rfl ?_
    refine aw_goto (tgt := 2) dX3_keepRow_29 (by decide) ?_
    exact h
theorem u_X3_chooseAnother {Γ : cx_T} {μ : mH} {x1 : Int32} {Q : Int32 → mH → Prop} (h : aw Γ M_X3_chooseAnother 4 [aR 3 0, aX, aI (x1 - (1 : Int32))] [] μ (rI Q)) : cwi Γ M_X3_chooseAnother [aR 3 0, aI x1] μ Q := by
  refine cw_ofU (ls := [aR 3 0, aI x1, aX]) (Or.inl (by decide)) rfl (Nat.le_of_ble_eq_true rfl) rfl ?_
  refine aw_iload_n dX3_chooseAnother_0 rfl ?_
  refine aw_iconst (v := (1 : Int32)) dX3_chooseAnother_1 rfl ?_
  refine aw_isub dX3_chooseAnother_2 ?_
  refine aw_istore_n (ls' := [aR 3 0, aI x1, aI (x1 - (1 : Int32))]) dX3_chooseAnother_3 (by decide) rfl rfl ?_
  exact aw_wkk h (wk_e (wk_x (wk_e wk_n)))
theorem u_X3_chooseAnother_4 {Γ : cx_T} {μ : mH} {x2 : Int32} {Q : Int32 → mH → Prop} (h : (x2 < 0 → (Q (0 : Int32) μ)) ∧ (¬ x2 < 0 → (vp_in x2 8 ∧ (vp_in x2 8 ∧ (vp_in x2 8 ∧ (vp_in x2 10 ∧ (((μ 30 0 (tn x2)) ≤ ((μ 31 0 (tn x2)) + (1 : Int32)) → (vp_in x2 8 ∧ (aw Γ M_X3_chooseAnother 4 [aR 3 0, aX, aI (x2 + (-1 : Int32))] [] (sto (sto μ 31 0 (tn x2) ((μ 31 0 (tn x2)) + (1 : Int32))) 31 0 (tn x2) (0 : Int32)) (rI Q)))) ∧ (¬ (μ 30 0 (tn x2)) ≤ ((μ 31 0 (tn x2)) + (1 : Int32)) → (Q x2 (sto μ 31 0 (tn x2) ((μ 31 0 (tn x2)) + (1 : Int32)))))))))))) : aw Γ M_X3_chooseAnother 4 [aR 3 0, aX, aI x2] [] μ (rI Q) := by
  refine aw_iload_n dX3_chooseAnother_4 rfl ?_
  refine aw_if_lt (tgt := 48) dX3_chooseAnother_5 (by decide) (fun c0 => ?_) (fun c0 => ?_)
  · replace h := h.1 c0
    refine aw_iconst (v := (0 : Int32)) dX3_chooseAnother_48 rfl ?_
    exact aw_iret dX3_chooseAnother_49 rfl rfl ⟨_, rfl, h⟩
  · replace h := h.2 c0
    refine aw_aload_n dX3_chooseAnother_8 rfl ?_
    refine aw_get dX3_chooseAnother_9 rfl fk_RX3_39 (look_R rfl rfl : look _ 3 0 10 = aR 31 0) ?_
    refine aw_iload_n dX3_chooseAnother_12 rfl ?_
    refine aw_dup2 dX3_chooseAnother_13 (fun _ => rfl) (fun _ => rfl) ?_
    refine aw_ia (j := tn x2) (y := μ 31 0 (tn x2)) dX3_chooseAnother_14 rfl (fun _ => rfl) h.1 rfl (rfl) ?_
    replace h := h.2
    refine aw_iconst (v := (1 : Int32)) dX3_chooseAnother_15 rfl ?_
    refine aw_iadd dX3_chooseAnother_16 ?_
    refine aw_is (j := tn x2) dX3_chooseAnother_17 rfl (fun _ => rfl) h.1 rfl ?_
    replace h := h.2
    refine aw_aload_n dX3_chooseAnother_18 rfl ?_
    refine aw_get dX3_chooseAnother_19 rfl fk_RX3_39 (look_R rfl rfl : look _ 3 0 10 = aR 31 0) ?_
    refine aw_iload_n dX3_chooseAnother_22 rfl ?_
    refine aw_ia (j := tn x2) (y := (μ 31 0 (tn x2)) + (1 : Int32)) dX3_chooseAnother_23 rfl (fun _ => rfl) h.1 rfl (sto_eq) ?_
    replace h := h.2
    refine aw_aload_n dX3_chooseAnother_24 rfl ?_
    refine aw_get dX3_chooseAnother_25 rfl fk_RX3_36 (look_R rfl rfl : look _ 3 0 9 = aR 30 0) ?_
    refine aw_iload_n dX3_chooseAnother_28 rfl ?_
    refine aw_ia (j := tn x2) (y := μ 30 0 (tn x2)) dX3_chooseAnother_29 rfl (fun _ => rfl) h.1 rfl ((sto_K (by decide)).trans (rfl)) ?_
    replace h := h.2
    refine aw_icmp_ge (tgt := 35) dX3_chooseAnother_30 (by decide) (fun c0 => ?_) (fun c0 => ?_)
    · replace h := h.1 c0
      refine aw_aload_n dX3_chooseAnother_35 rfl ?_
      refine aw_get dX3_chooseAnother_36 rfl fk_RX3_39 (look_R rfl rfl : look _ 3 0 10 = aR 31 0) ?_
      refine aw_iload_n dX3_chooseAnother_39 rfl ?_
      refine aw_iconst (v := (0 : Int32)) dX3_chooseAnother_40 rfl ?_
      refine aw_is (j := tn x2) dX3_chooseAnother_41 rfl (fun _ => rfl) h.1 rfl ?_
      replace h := h.2
      refine aw_iinc (v := x2 + (-1 : Int32)) (ls' := [aR 3 0, aX, aI (x2 + (-1 : Int32))]) dX3_chooseAnother_42 rfl rfl (by decide) rfl rfl ?_
      refine aw_goto (tgt := 4) dX3_chooseAnother_45 (by decide) ?_
      exact h
    · replace h := h.2 c0
      refine aw_iload_n dX3_chooseAnother_33 rfl ?_
      exact aw_iret dX3_chooseAnother_34 rfl rfl ⟨_, rfl, h⟩
