theorem u_J6_bitCount {Γ : cx_T} {μ : mH} {x0 : Int32} {Q : Int32 → mH → Prop} (h : Q ((((((((x0 - (((x0.toUInt32 >>> ((1 : Int32).toUInt32 &&& Int32.toUInt32 31)).toInt32) &&& (1431655765 : Int32))) &&& (858993459 : Int32)) + ((((x0 - (((x0.toUInt32 >>> ((1 : Int32).toUInt32 &&& Int32.toUInt32 31)).toInt32) &&& (1431655765 : Int32))).toUInt32 >>> ((2 : Int32).toUInt32 &&& Int32.toUInt32 31)).toInt32) &&& (858993459 : Int32))) + (((((x0 - (((x0.toUInt32 >>> ((1 : Int32).toUInt32 &&& Int32.toUInt32 31)).toInt32) &&& (1431655765 : Int32))) &&& (858993459 : Int32)) + ((((x0 - (((x0.toUInt32 >>> ((1 : Int32).toUInt32 &&& Int32.toUInt32 31)).toInt32) &&& (1431655765 : Int32))).toUInt32 >>> ((2 : Int32).toUInt32 &&& Int32.toUInt32 31)).toInt32) &&& (858993459 : Int32))).toUInt32 >>> ((4 : Int32).toUInt32 &&& Int32.toUInt32 31)).toInt32)) &&& (252645135 : Int32)) + (((((((x0 - (((x0.toUInt32 >>> ((1 : Int32).toUInt32 &&& Int32.toUInt32 31)).toInt32) &&& (1431655765 : Int32))) &&& (858993459 : Int32)) + ((((x0 - (((x0.toUInt32 >>> ((1 : Int32).toUInt32 &&& Int32.toUInt32 31)).toInt32) &&& (1431655765 : Int32))).toUInt32 >>> ((2 : Int32).toUInt32 &&& Int32.toUInt32 31)).toInt32) &&& (858993459 : Int32))) + (((((x0 - (((x0.toUInt32 >>> ((1 : Int32).toUInt32 &&& Int32.toUInt32 31)).toInt32) &&& (1431655765 : Int32))) &&& (858993459 : Int32)) + ((((x0 - (((x0.toUInt32 >>> ((1 : Int32).toUInt32 &&& Int32.toUInt32 31)).toInt32) &&& (1431655765 : Int32))).toUInt32 >>> ((2 : Int32).toUInt32 &&& Int32.toUInt32 31)).toInt32) &&& (858993459 : Int32))).toUInt32 >>> ((4 : Int32).toUInt32 &&& Int32.toUInt32 31)).toInt32)) &&& (252645135 : Int32)).toUInt32 >>> ((8 : Int32).toUInt32 &&& Int32.toUInt32 31)).toInt32)) + ((((((((x0 - (((x0.toUInt32 >>> ((1 : Int32).toUInt32 &&& Int32.toUInt32 31)).toInt32) &&& (1431655765 : Int32))) &&& (858993459 : Int32)) + ((((x0 - (((x0.toUInt32 >>> ((1 : Int32).toUInt32 &&& Int32.toUInt32 31)).toInt32) &&& (1431655765 : Int32))).toUInt32 >>> ((2 : Int32).toUInt32 &&& Int32.toUInt32 31)).toInt32) &&& (858993459 : Int32))) + (((((x0 - (((x0.toUInt32 >>> ((1 : Int32).toUInt32 &&& Int32.toUInt32 31)).toInt32) &&& (1431655765 : Int32))) &&& (858993459 : Int32)) + ((((x0 - (((x0.toUInt32 >>> ((1 : Int32).toUInt32 &&& Int32.toUInt32 31)).toInt32) &&& (1431655765 : Int32))).toUInt32 >>> ((2 : Int32).toUInt32 &&& Int32.toUInt32 31)).toInt32) &&& (858993459 : Int32))).toUInt32 >>> ((4 : Int32).toUInt32 &&& Int32.toUInt32 31)).toInt32)) &&& (252645135 : Int32)) + (((((((x0 - (((x0.toUInt32 >>> ((1 : Int32).toUInt32 &&& Int32.toUInt32 31)).toInt32) &&& (1431655765 : Int32))) &&& (858993459 : Int32)) + ((((x0 - (((x0.toUInt32 >>> ((1 : Int32).toUInt32 &&& Int32.toUInt32 31)).toInt32) &&& (1431655765 : Int32))).toUInt32 >>> ((2 : Int32).toUInt32 &&& Int32.toUInt32 31)).toInt32) &&& (858993459 : Int32))) + (((((x0 - (((x0.toUInt32 >>> ((1 : Int32).toUInt32 &&& Int32.toUInt32 31)).toInt32) &&& (1431655765 : Int32))) &&& (858993459 : Int32)) + ((((x0 - (((x0.toUInt32 >>> ((1 : Int32).toUInt32 &&& Int32.toUInt32 31)).toInt32) &&& (1431655765 : Int32))).toUInt32 >>> ((2 : Int32).toUInt32 &&& Int32.toUInt32 31)).toInt32) &&& (858993459 : Int32))).toUInt32 >>> ((4 : Int32).toUInt32 &&& Int32.toUInt32 31)).toInt32)) &&& (252645135 : Int32)).toUInt32 >>> ((8 : Int32).toUInt32 &&& Int32.toUInt32 31)).toInt32)).toUInt32 >>> ((16 : Int32).toUInt32 &&& Int32.toUInt32 31)).toInt32)) &&& (63 : Int32)) μ) : cwi Γ M_J6_bitCount_0f7a4 [aI x0] μ Q := by
  refine cw_ofU (ls := [aI x0]) (Or.inr (by decide +kernel)) rfl (Nat.le_of_ble_eq_true rfl) rfl ?_
  refine aw_iload_n dJ6_bitCount_0f7a4_0 rfl ?_
  refine aw_iload_n dJ6_bitCount_0f7a4_1 rfl ?_
  refine aw_iconst (v := (1 : Int32)) dJ6_bitCount_0f7a4_2 rfl ?_
  refine aw_iushr dJ6_bitCount_0f7a4_3 ?_
  refine aw_ldcw (v := (1431655765 : Int32)) dJ6_bitCount_0f7a4_4 kc_RJ6_265 ?_
  refine aw_iand dJ6_bitCount_0f7a4_7 ?_
  refine aw_isub dJ6_bitCount_0f7a4_8 ?_
  refine aw_istore_n (ls' := [aI (x0 - (((x0.toUInt32 >>> ((1 : Int32).toUInt32 &&& Int32.toUInt32 31)).toInt32) &&& (1431655765 : Int32)))]) dJ6_bitCount_0f7a4_9 (by decide) rfl rfl ?_
  refine aw_iload_n dJ6_bitCount_0f7a4_10 rfl ?_
  refine aw_ldcw (v := (858993459 : Int32)) dJ6_bitCount_0f7a4_11 kc_RJ6_266 ?_
  refine aw_iand dJ6_bitCount_0f7a4_14 ?_
  refine aw_iload_n dJ6_bitCount_0f7a4_15 rfl ?_
  refine aw_iconst (v := (2 : Int32)) dJ6_bitCount_0f7a4_16 rfl ?_
  refine aw_iushr dJ6_bitCount_0f7a4_17 ?_
  refine aw_ldcw (v := (858993459 : Int32)) dJ6_bitCount_0f7a4_18 kc_RJ6_266 ?_
  refine aw_iand dJ6_bitCount_0f7a4_21 ?_
  refine aw_iadd dJ6_bitCount_0f7a4_22 ?_
  refine aw_istore_n (ls' := [aI (((x0 - (((x0.toUInt32 >>> ((1 : Int32).toUInt32 &&& Int32.toUInt32 31)).toInt32) &&& (1431655765 : Int32))) &&& (858993459 : Int32)) + ((((x0 - (((x0.toUInt32 >>> ((1 : Int32).toUInt32 &&& Int32.toUInt32 31)).toInt32) &&& (1431655765 : Int32))).toUInt32 >>> ((2 : Int32).toUInt32 &&& Int32.toUInt32 31)).toInt32) &&& (858993459 : Int32)))]) dJ6_bitCount_0f7a4_23 (by decide) rfl rfl ?_
  refine aw_iload_n dJ6_bitCount_0f7a4_24 rfl ?_
  refine aw_iload_n dJ6_bitCount_0f7a4_25 rfl ?_
  refine aw_iconst (v := (4 : Int32)) dJ6_bitCount_0f7a4_26 rfl ?_
  refine aw_iushr dJ6_bitCount_0f7a4_27 ?_
  refine aw_iadd dJ6_bitCount_0f7a4_28 ?_
  refine aw_ldcw (v := (252645135 : Int32)) dJ6_bitCount_0f7a4_29 kc_RJ6_267 ?_
  refine aw_iand dJ6_bitCount_0f7a4_32 ?_
  refine aw_istore_n (ls' := [aI (((((x0 - (((x0.toUInt32 >>> ((1 : Int32).toUInt32 &&& Int32.toUInt32 31)).toInt32) &&& (1431655765 : Int32))) &&& (858993459 : Int32)) + ((((x0 - (((x0.toUInt32 >>> ((1 : Int32).toUInt32 &&& Int32.toUInt32 31)).toInt32) &&& (1431655765 : Int32))).toUInt32 >>> ((2 : Int32).toUInt32 &&& Int32.toUInt32 31)).toInt32) &&& (858993459 : Int32))) + (((((x0 - (((x0.toUInt32 >>> ((1 : Int32).toUInt32 &&& Int32.toUInt32 31)).toInt32) &&& (1431655765 : Int32))) &&& (858993459 : Int32)) + ((((x0 - (((x0.toUInt32 >>> ((1 : Int32).toUInt32 &&& Int32.toUInt32 31)).toInt32) &&& (1431655765 : Int32))).toUInt32 >>> ((2 : Int32).toUInt32 &&& Int32.toUInt32 31)).toInt32) &&& (858993459 : Int32))).toUInt32 >>> ((4 : Int32).toUInt32 &&& Int32.toUInt32 31)).toInt32)) &&& (252645135 : Int32))]) dJ6_bitCount_0f7a4_33 (by decide) rfl rfl ?_
  refine aw_iload_n dJ6_bitCount_0f7a4_34 rfl ?_
  refine aw_iload_n dJ6_bitCount_0f7a4_35 rfl ?_
  refine aw_bipush (v := (8 : Int32)) dJ6_bitCount_0f7a4_36 rfl ?_
  refine aw_iushr dJ6_bitCount_0f7a4_38 ?_
  refine aw_iadd dJ6_bitCount_0f7a4_39 ?_
  refine aw_istore_n (ls' := [aI ((((((x0 - (((x0.toUInt32 >>> ((1 : Int32).toUInt32 &&& Int32.toUInt32 31)).toInt32) &&& (1431655765 : Int32))) &&& (858993459 : Int32)) + ((((x0 - (((x0.toUInt32 >>> ((1 : Int32).toUInt32 &&& Int32.toUInt32 31)).toInt32) &&& (1431655765 : Int32))).toUInt32 >>> ((2 : Int32).toUInt32 &&& Int32.toUInt32 31)).toInt32) &&& (858993459 : Int32))) + (((((x0 - (((x0.toUInt32 >>> ((1 : Int32).toUInt32 &&& Int32.toUInt32 31)).toInt32) &&& (1431655765 : Int32))) &&& (858993459 : Int32)) + ((((x0 - (((x0.toUInt32 >>> ((1 : Int32).toUInt32 &&& Int32.toUInt32 31)).toInt32) &&& (1431655765 : Int32))).toUInt32 >>> ((2 : Int32).toUInt32 &&& Int32.toUInt32 31)).toInt32) &&& (858993459 : Int32))).toUInt32 >>> ((4 : Int32).toUInt32 &&& Int32.toUInt32 31)).toInt32)) &&& (252645135 : Int32)) + (((((((x0 - (((x0.toUInt32 >>> ((1 : Int32).toUInt32 &&& Int32.toUInt32 31)).toInt32) &&& (1431655765 : Int32))) &&& (858993459 : Int32)) + ((((x0 - (((x0.toUInt32 >>> ((1 : Int32).toUInt32 &&& Int32.toUInt32 31)).toInt32) &&& (1431655765 : Int32))).toUInt32 >>> ((2 : Int32).toUInt32 &&& Int32.toUInt32 31)).toInt32) &&& (858993459 : Int32))) + (((((x0 - (((x0.toUInt32 >>> ((1 : Int32).toUInt32 &&& Int32.toUInt32 31)).toInt32) &&& (1431655765 : Int32))) &&& (858993459 : Int32)) + ((((x0 - (((x0.toUInt32 >>> ((1 : Int32).toUInt32 &&& Int32.toUInt32 31)).toInt32) &&& (1431655765 : Int32))).toUInt32 >>> ((2 : Int32).toUInt32 &&& Int32.toUInt32 31)).toInt32) &&& (858993459 : Int32))).toUInt32 >>> ((4 : Int32).toUInt32 &&& Int32.toUInt32 31)).toInt32)) &&& (252645135 : Int32)).toUInt32 >>> ((8 : Int32).toUInt32 &&& Int32.toUInt32 31)).toInt32))]) dJ6_bitCount_0f7a4_40 (by decide) rfl rfl ?_
  refine aw_iload_n dJ6_bitCount_0f7a4_41 rfl ?_
  refine aw_iload_n dJ6_bitCount_0f7a4_42 rfl ?_
  refine aw_bipush (v := (16 : Int32)) dJ6_bitCount_0f7a4_43 rfl ?_
  refine aw_iushr dJ6_bitCount_0f7a4_45 ?_
  refine aw_iadd dJ6_bitCount_0f7a4_46 ?_
  refine aw_istore_n (ls' := [aI (((((((x0 - (((x0.toUInt32 >>> ((1 : Int32).toUInt32 &&& Int32.toUInt32 31)).toInt32) &&& (1431655765 : Int32))) &&& (858993459 : Int32)) + ((((x0 - (((x0.toUInt32 >>> ((1 : Int32).toUInt32 &&& Int32.toUInt32 31)).toInt32) &&& (1431655765 : Int32))).toUInt32 >>> ((2 : Int32).toUInt32 &&& Int32.toUInt32 31)).toInt32) &&& (858993459 : Int32))) + (((((x0 - (((x0.toUInt32 >>> ((1 : Int32).toUInt32 &&& Int32.toUInt32 31)).toInt32) &&& (1431655765 : Int32))) &&& (858993459 : Int32)) + ((((x0 - (((x0.toUInt32 >>> ((1 : Int32).toUInt32 &&& Int32.toUInt32 31)).toInt32) &&& (1431655765 : Int32))).toUInt32 >>> ((2 : Int32).toUInt32 &&& Int32.toUInt32 31)).toInt32) &&& (858993459 : Int32))).toUInt32 >>> ((4 : Int32).toUInt32 &&& Int32.toUInt32 31)).toInt32)) &&& (252645135 : Int32)) + (((((((x0 - (((x0.toUInt32 >>> ((1 : Int32).toUInt32 &&& Int32.toUInt32 31)).toInt32) &&& (1431655765 : Int32))) &&& (858993459 : Int32)) + ((((x0 - (((x0.toUInt32 >>> ((1 : Int32).toUInt32 &&& Int32.toUInt32 31)).toInt32) &&& (1431655765 : Int32))).toUInt32 >>> ((2 : Int32).toUInt32 &&& Int32.toUInt32 31)).toInt32) &&& (858993459 : Int32))) + (((((x0 - (((x0.toUInt32 >>> ((1 : Int32).toUInt32 &&& Int32.toUInt32 31)).toInt32) &&& (1431655765 : Int32))) &&& (858993459 : Int32)) + ((((x0 - (((x0.toUInt32 >>> ((1 : Int32).toUInt32 &&& Int32.toUInt32 31)).toInt32) &&& (1431655765 : Int32))).toUInt32 >>> ((2 : Int32).toUInt32 &&& Int32.toUInt32 31)).toInt32) &&& (858993459 : Int32))).toUInt32 >>> ((4 : Int32).toUInt32 &&& Int32.toUInt32 31)).toInt32)) &&& (252645135 : Int32)).toUInt32 >>> ((8 : Int32).toUInt32 &&& Int32.toUInt32 31)).toInt32)) + ((((((((x0 - (((x0.toUInt32 >>> ((1 : Int32).toUInt32 &&& Int32.toUInt32 31)).toInt32) &&& (1431655765 : Int32))) &&& (858993459 : Int32)) + ((((x0 - (((x0.toUInt32 >>> ((1 : Int32).toUInt32 &&& Int32.toUInt32 31)).toInt32) &&& (1431655765 : Int32))).toUInt32 >>> ((2 : Int32).toUInt32 &&& Int32.toUInt32 31)).toInt32) &&& (858993459 : Int32))) + (((((x0 - (((x0.toUInt32 >>> ((1 : Int32).toUInt32 &&& Int32.toUInt32 31)).toInt32) &&& (1431655765 : Int32))) &&& (858993459 : Int32)) + ((((x0 - (((x0.toUInt32 >>> ((1 : Int32).toUInt32 &&& Int32.toUInt32 31)).toInt32) &&& (1431655765 : Int32))).toUInt32 >>> ((2 : Int32).toUInt32 &&& Int32.toUInt32 31)).toInt32) &&& (858993459 : Int32))).toUInt32 >>> ((4 : Int32).toUInt32 &&& Int32.toUInt32 31)).toInt32)) &&& (252645135 : Int32)) + (((((((x0 - (((x0.toUInt32 >>> ((1 : Int32).toUInt32 &&& Int32.toUInt32 31)).toInt32) &&& (1431655765 : Int32))) &&& (858993459 : Int32)) + ((((x0 - (((x0.toUInt32 >>> ((1 : Int32).toUInt32 &&& Int32.toUInt32 31)).toInt32) &&& (1431655765 : Int32))).toUInt32 >>> ((2 : Int32).toUInt32 &&& Int32.toUInt32 31)).toInt32) &&& (858993459 : Int32))) + (((((x0 - (((x0.toUInt32 >>> ((1 : Int32).toUInt32 &&& Int32.toUInt32 31)).toInt32) &&& (1431655765 : Int32))) &&& (858993459 : Int32)) + ((((x0 - (((x0.toUInt32 >>> ((1 : Int32).toUInt32 &&& Int32.toUInt32 31)).toInt32) &&& (1431655765 : Int32))).toUInt32 >>> ((2 : Int32).toUInt32 &&& Int32.toUInt32 31)).toInt32) &&& (858993459 : Int32))).toUInt32 >>> ((4 : Int32).toUInt32 &&& Int32.toUInt32 31)).toInt32)) &&& (252645135 : Int32)).toUInt32 >>> ((8 : Int32).toUInt32 &&& Int32.toUInt32 31)).toInt32)).toUInt32 >>> ((16 : Int32).toUInt32 &&& Int32.toUInt32 31)).toInt32))]) dJ6_bitCount_0f7a4_47 (by decide) rfl rfl ?_
  refine aw_iload_n dJ6_bitCount_0f7a4_48 rfl ?_
  refine aw_bipush (v := (63 : Int32)) dJ6_bitCount_0f7a4_49 rfl ?_
  refine aw_iand dJ6_bitCount_0f7a4_51 ?_
  exact aw_iret dJ6_bitCount_0f7a4_52 rfl rfl ⟨_, rfl, h⟩
theorem u_J9_floorDiv {Γ : cx_T} {μ : mH} {x0 : Int32} {x1 : Int32} {Q : Int32 → mH → Prop} (h : ¬ x1 = 0 ∧ ((0 ≤ (x0 ^^^ x1) → (Q (x0 / x1) μ)) ∧ (¬ 0 ≤ (x0 ^^^ x1) → ((((x0 / x1) * x1) = x0 → (Q (x0 / x1) μ)) ∧ (¬ ((x0 / x1) * x1) = x0 → (Q ((x0 / x1) - (1 : Int32)) μ)))))) : cwi Γ M_J9_floorDiv_7cf53 [aI x0, aI x1] μ Q := by
  refine cw_ofU (ls := [aI x0, aI x1, aX]) (Or.inr (by decide +kernel)) rfl (Nat.le_of_ble_eq_true rfl) rfl ?_
  refine aw_iload_n dJ9_floorDiv_7cf53_0 rfl ?_
  refine aw_iload_n dJ9_floorDiv_7cf53_1 rfl ?_
  refine aw_idiv dJ9_floorDiv_7cf53_2 h.1 ?_
  replace h := h.2
  refine aw_istore_n (ls' := [aI x0, aI x1, aI (x0 / x1)]) dJ9_floorDiv_7cf53_3 (by decide) rfl rfl ?_
  refine aw_iload_n dJ9_floorDiv_7cf53_4 rfl ?_
  refine aw_iload_n dJ9_floorDiv_7cf53_5 rfl ?_
  refine aw_ixor dJ9_floorDiv_7cf53_6 ?_
  refine aw_if_ge (tgt := 21) dJ9_floorDiv_7cf53_7 (by decide) (fun c0 => ?_) (fun c0 => ?_)
  · replace h := h.1 c0
    refine aw_iload_n dJ9_floorDiv_7cf53_21 rfl ?_
    exact aw_iret dJ9_floorDiv_7cf53_22 rfl rfl ⟨_, rfl, h⟩
  · replace h := h.2 c0
    refine aw_iload_n dJ9_floorDiv_7cf53_10 rfl ?_
    refine aw_iload_n dJ9_floorDiv_7cf53_11 rfl ?_
    refine aw_imul dJ9_floorDiv_7cf53_12 ?_
    refine aw_iload_n dJ9_floorDiv_7cf53_13 rfl ?_
    refine aw_icmp_eq (tgt := 21) dJ9_floorDiv_7cf53_14 (by decide) (fun c0 => ?_) (fun c0 => ?_)
    · replace h := h.1 c0
      refine aw_iload_n dJ9_floorDiv_7cf53_21 rfl ?_
      exact aw_iret dJ9_floorDiv_7cf53_22 rfl rfl ⟨_, rfl, h⟩
    · replace h := h.2 c0
      refine aw_iload_n dJ9_floorDiv_7cf53_17 rfl ?_
      refine aw_iconst (v := (1 : Int32)) dJ9_floorDiv_7cf53_18 rfl ?_
      refine aw_isub dJ9_floorDiv_7cf53_19 ?_
      exact aw_iret dJ9_floorDiv_7cf53_20 rfl rfl ⟨_, rfl, h⟩
theorem u_J9_max {Γ : cx_T} {μ : mH} {x0 : Int32} {x1 : Int32} {Q : Int32 → mH → Prop} (h : (x0 < x1 → (Q x1 μ)) ∧ (¬ x0 < x1 → (Q x0 μ))) : cwi Γ M_J9_max_7cf53 [aI x0, aI x1] μ Q := by
  refine cw_ofU (ls := [aI x0, aI x1]) (Or.inr (by decide +kernel)) rfl (Nat.le_of_ble_eq_true rfl) rfl ?_
  refine aw_iload_n dJ9_max_7cf53_0 rfl ?_
  refine aw_iload_n dJ9_max_7cf53_1 rfl ?_
  refine aw_icmp_lt (tgt := 9) dJ9_max_7cf53_2 (by decide) (fun c0 => ?_) (fun c0 => ?_)
  · replace h := h.1 c0
    refine aw_iload_n dJ9_max_7cf53_9 rfl ?_
    exact aw_iret dJ9_max_7cf53_10 rfl rfl ⟨_, rfl, h⟩
  · replace h := h.2 c0
    refine aw_iload_n dJ9_max_7cf53_5 rfl ?_
    refine aw_goto (tgt := 10) dJ9_max_7cf53_6 (by decide) ?_
    exact aw_iret dJ9_max_7cf53_10 rfl rfl ⟨_, rfl, h⟩
theorem u_J9_min {Γ : cx_T} {μ : mH} {x0 : Int32} {x1 : Int32} {Q : Int32 → mH → Prop} (h : (x1 < x0 → (Q x1 μ)) ∧ (¬ x1 < x0 → (Q x0 μ))) : cwi Γ M_J9_min_7cf53 [aI x0, aI x1] μ Q := by
  refine cw_ofU (ls := [aI x0, aI x1]) (Or.inr (by decide +kernel)) rfl (Nat.le_of_ble_eq_true rfl) rfl ?_
  refine aw_iload_n dJ9_min_7cf53_0 rfl ?_
  refine aw_iload_n dJ9_min_7cf53_1 rfl ?_
  refine aw_icmp_gt (tgt := 9) dJ9_min_7cf53_2 (by decide) (fun c0 => ?_) (fun c0 => ?_)
  · replace h := h.1 c0
    refine aw_iload_n dJ9_min_7cf53_9 rfl ?_
    exact aw_iret dJ9_min_7cf53_10 rfl rfl ⟨_, rfl, h⟩
  · replace h := h.2 c0
    refine aw_iload_n dJ9_min_7cf53_5 rfl ?_
    refine aw_goto (tgt := 10) dJ9_min_7cf53_6 (by decide) ?_
    exact aw_iret dJ9_min_7cf53_10 rfl rfl ⟨_, rfl, h⟩
theorem u_J0_length {Γ : cx_T} {μ : mH} {k0 : Nat} {Q : Int32 → mH → Prop} (h : cwi Γ M_J0_coder_7d493 [aR 63 k0] μ (fun r2 μ1 => Q ((Int32.ofNat (lenS.getD k0 0)) >>> (r2 &&& 31)) μ1)) : cwi Γ M_J0_length_8abf5 [aR 63 k0] μ Q := by
  refine cw_ofU (ls := [aR 63 k0]) (Or.inr (by decide +kernel)) rfl (Nat.le_of_ble_eq_true rfl) rfl ?_
  refine aw_aload_n dJ0_length_8abf5_0 rfl ?_
  refine aw_strV dJ0_length_8abf5_1 sf_RJ0_9 ?_
  refine aw_strL dJ0_length_8abf5_4 ?_
  refine aw_aload_n dJ0_length_8abf5_5 rfl ?_
  refine aw_callV (M' := M_J0_coder_7d493) (K := 63) (i := k0) (vs := []) (st := [aI (Int32.ofNat (lenS.getD k0 0))]) dJ0_length_8abf5_6 mk_J0_coder_7d493 mi_J0_coder_7d493 ml_RJ0_335 mp_J0_coder_7d493 rc_63 rm_J0_length_8abf5__J0_coder_7d493 (Nat.le_of_ble_eq_true rfl) rfl (cw_mono h ?_)
  clear h
  rintro _ μ1 ⟨r2, rfl, h⟩
  show aw Γ M_J0_length_8abf5 9 [aR 63 k0] [aI r2, aI (Int32.ofNat (lenS.getD k0 0))] μ1 (rI Q)
  refine aw_ishr dJ0_length_8abf5_9 ?_
  exact aw_iret dJ0_length_8abf5_10 rfl rfl ⟨_, rfl, h⟩
theorem u_J0_charAt {Γ : cx_T} {μ : mH} {k0 : Nat} {x1 : Int32} {Q : Int32 → mH → Prop} (h : cwi Γ M_J0_isLatin1_aae02 [aR 63 k0] μ (fun r2 μ1 => (r2 = 0 → (False)) ∧ (¬ r2 = 0 → (cwi Γ M_J1_charAt_3b067 [aR 64 k0, aI x1] μ1 (fun r4 μ3 => narrow .char (.int r4) = .int r4 ∧ Q r4 μ3))))) : cwi Γ M_J0_charAt_5068e [aR 63 k0, aI x1] μ Q := by
  refine cw_ofU (ls := [aR 63 k0, aI x1]) (Or.inr (by decide +kernel)) rfl (Nat.le_of_ble_eq_true rfl) rfl ?_
  refine aw_aload_n dJ0_charAt_5068e_0 rfl ?_
  refine aw_callV (M' := M_J0_isLatin1_aae02) (K := 63) (i := k0) (vs := []) (st := []) dJ0_charAt_5068e_1 mk_J0_isLatin1_aae02 mi_J0_isLatin1_aae02 ml_RJ0_492 mp_J0_isLatin1_aae02 rc_63 rm_J0_charAt_5068e__J0_isLatin1_aae02 (Nat.le_of_ble_eq_true rfl) rfl (cw_mono h ?_)
  clear h
  rintro _ μ1 ⟨r2, rfl, h⟩
  show aw Γ M_J0_charAt_5068e 4 [aR 63 k0, aI x1] [aI r2] μ1 (rI Q)
  refine aw_if_eq (tgt := 16) dJ0_charAt_5068e_4 (by decide) (fun c0 => ?_) (fun c0 => ?_)
  · replace h := h.1 c0
    refine aw_aload_n dJ0_charAt_5068e_16 rfl ?_
    refine aw_strV dJ0_charAt_5068e_17 sf_RJ0_9 ?_
    refine aw_iload_n dJ0_charAt_5068e_20 rfl ?_
    exact absurd h id
  · replace h := h.2 c0
    refine aw_aload_n dJ0_charAt_5068e_7 rfl ?_
    refine aw_strV dJ0_charAt_5068e_8 sf_RJ0_9 ?_
    refine aw_iload_n dJ0_charAt_5068e_11 rfl ?_
    refine aw_callS (M' := M_J1_charAt_3b067) (vs := [aR 64 k0, aI x1]) (st := []) dJ0_charAt_5068e_12 mk_J1_charAt_3b067 ms_J1_charAt_3b067 ml_RJ0_495 mp_J1_charAt_3b067 rm_J0_charAt_5068e__J1_charAt_3b067 (Nat.le_of_ble_eq_true rfl) rfl (cw_mono h ?_)
    clear h
    rintro _ μ3 ⟨r4, rfl, h⟩
    show aw Γ M_J0_charAt_5068e 15 [aR 63 k0, aI x1] [aI r4] μ3 (rI Q)
    exact aw_iret (ty := .char) dJ0_charAt_5068e_15 rfl h.1 ⟨_, rfl, h.2⟩
theorem u_J0_coder {Γ : cx_T} {μ : mH} {k0 : Nat} {Q : Int32 → mH → Prop} (h : Q (0 : Int32) μ) : cwi Γ M_J0_coder_7d493 [aR 63 k0] μ Q := by
  refine cw_ofU (ls := [aR 63 k0]) (Or.inr (by decide +kernel)) rfl (Nat.le_of_ble_eq_true rfl) rfl ?_
  refine aw_compact dJ0_coder_7d493_0 sf_RJ0_38 ?_
  refine aw_if_eq (tgt := 13) dJ0_coder_7d493_3 (by decide) (fun c0 => absurd c0 (by decide)) (fun c0 => ?_)
  refine aw_aload_n dJ0_coder_7d493_6 rfl ?_
  refine aw_strC dJ0_coder_7d493_7 sf_RJ0_15 ?_
  refine aw_goto (tgt := 14) dJ0_coder_7d493_10 (by decide) ?_
  exact aw_iret (ty := .byte) dJ0_coder_7d493_14 rfl (by decide) ⟨_, rfl, h⟩
theorem u_J0_isLatin1 {Γ : cx_T} {μ : mH} {k0 : Nat} {Q : Int32 → mH → Prop} (h : Q (1 : Int32) μ) : cwi Γ M_J0_isLatin1_aae02 [aR 63 k0] μ Q := by
  refine cw_ofU (ls := [aR 63 k0]) (Or.inr (by decide +kernel)) rfl (Nat.le_of_ble_eq_true rfl) rfl ?_
  refine aw_compact dJ0_isLatin1_aae02_0 sf_RJ0_38 ?_
  refine aw_if_eq (tgt := 17) dJ0_isLatin1_aae02_3 (by decide) (fun c0 => absurd c0 (by decide)) (fun c0 => ?_)
  refine aw_aload_n dJ0_isLatin1_aae02_6 rfl ?_
  refine aw_strC dJ0_isLatin1_aae02_7 sf_RJ0_15 ?_
  refine aw_if_ne (tgt := 17) dJ0_isLatin1_aae02_10 (by decide) (fun c0 => absurd c0 (by decide)) (fun c0 => ?_)
  refine aw_iconst (v := (1 : Int32)) dJ0_isLatin1_aae02_13 rfl ?_
  refine aw_goto (tgt := 18) dJ0_isLatin1_aae02_14 (by decide) ?_
  exact aw_iret (ty := .boolean) dJ0_isLatin1_aae02_18 rfl (by decide) ⟨_, rfl, h⟩
theorem u_J0_checkIndex {Γ : cx_T} {μ : mH} {x0 : Int32} {x1 : Int32} {Q : mH → Prop} (h : ∀ o1 : Option Nat, cwi Γ M_J3_checkIndex_8e157 [aI x0, aI x1, aQ 66 o1] μ (fun r3 μ2 => Q μ2)) : cwv Γ M_J0_checkIndex_df160 [aI x0, aI x1] μ Q := by
  refine cw_ofU (ls := [aI x0, aI x1]) (Or.inr (by decide +kernel)) rfl (Nat.le_of_ble_eq_true rfl) rfl ?_
  refine aw_iload_n dJ0_checkIndex_df160_0 rfl ?_
  refine aw_iload_n dJ0_checkIndex_df160_1 rfl ?_
  refine aw_sio dJ0_checkIndex_df160_2 sf_RJ0_1053 (fun o1 => ?_)
  replace h := h o1
  refine aw_callS (M' := M_J3_checkIndex_8e157) (vs := [aI x0, aI x1, aQ 66 o1]) (st := []) dJ0_checkIndex_df160_5 mk_J3_checkIndex_8e157 ms_J3_checkIndex_8e157 ml_RJ0_1059 mp_J3_checkIndex_8e157 rm_J0_checkIndex_df160__J3_checkIndex_8e157 (Nat.le_of_ble_eq_true rfl) rfl (cw_mono h ?_)
  clear h
  rintro _ μ2 ⟨r3, rfl, h⟩
  show aw Γ M_J0_checkIndex_df160 8 [aI x0, aI x1] [aI r3] μ2 (rV Q)
  refine aw_pop dJ0_checkIndex_df160_8 ?_
  exact aw_vret dJ0_checkIndex_df160_9 rfl h
theorem u_J1_charAt {Γ : cx_T} {μ : mH} {k0 : Nat} {x1 : Int32} {Q : Int32 → mH → Prop} (h : cwv Γ M_J0_checkIndex_df160 [aI x1, aI (Int32.ofNat (lenS.getD k0 0))] μ (fun μ1 => vp_in x1 (lenS.getD k0 0) ∧ (narrow .char (.int (((((bytS.getD k0 []).getD (tn x1) 0) &&& (255 : Int32)).toUInt32 % 65536).toInt32)) = .int (((((bytS.getD k0 []).getD (tn x1) 0) &&& (255 : Int32)).toUInt32 % 65536).toInt32) ∧ Q (((((bytS.getD k0 []).getD (tn x1) 0) &&& (255 : Int32)).toUInt32 % 65536).toInt32) μ1))) : cwi Γ M_J1_charAt_3b067 [aR 64 k0, aI x1] μ Q := by
  refine cw_ofU (ls := [aR 64 k0, aI x1]) (Or.inr (by decide +kernel)) rfl (Nat.le_of_ble_eq_true rfl) rfl ?_
  refine aw_iload_n dJ1_charAt_3b067_0 rfl ?_
  refine aw_aload_n dJ1_charAt_3b067_1 rfl ?_
  refine aw_strL dJ1_charAt_3b067_2 ?_
  refine aw_callS (M' := M_J0_checkIndex_df160) (vs := [aI x1, aI (Int32.ofNat (lenS.getD k0 0))]) (st := []) dJ1_charAt_3b067_3 mk_J0_checkIndex_df160 ms_J0_checkIndex_df160 ml_RJ1_9 mp_J0_checkIndex_df160 rm_J1_charAt_3b067__J0_checkIndex_df160 (Nat.le_of_ble_eq_true rfl) rfl (cw_mono h ?_)
  clear h
  intro _ μ1 h
  show aw Γ M_J1_charAt_3b067 6 [aR 64 k0, aI x1] [] μ1 (rI Q)
  refine aw_aload_n dJ1_charAt_3b067_6 rfl ?_
  refine aw_iload_n dJ1_charAt_3b067_7 rfl ?_
  refine aw_strB dJ1_charAt_3b067_8 h.1 ?_
  replace h := h.2
  refine aw_sipush (v := (255 : Int32)) dJ1_charAt_3b067_9 rfl ?_
  refine aw_iand dJ1_charAt_3b067_12 ?_
  refine aw_i2c dJ1_charAt_3b067_13 ?_
  exact aw_iret (ty := .char) dJ1_charAt_3b067_14 rfl h.1 ⟨_, rfl, h.2⟩
theorem u_J7_fill_27 {Γ : cx_T} {μ : mH} {x1 : Int32} {Q : mH → Prop} (h : aw Γ M_J7_fill_53178 5 [aR 27 0, aI x1, aI (0 : Int32), aI (24 : Int32)] [] μ (rV Q)) : cwv Γ M_J7_fill_53178 [aR 27 0, aI x1] μ Q := by
  refine cw_ofU (ls := [aR 27 0, aI x1, aX, aX]) (Or.inr (by decide +kernel)) rfl (Nat.le_of_ble_eq_true rfl) rfl ?_
  refine aw_iconst (v := (0 : Int32)) dJ7_fill_53178_0 rfl ?_
  refine aw_istore_n (ls' := [aR 27 0, aI x1, aI (0 : Int32), aX]) dJ7_fill_53178_1 (by decide) rfl rfl ?_
  refine aw_aload_n dJ7_fill_53178_2 rfl ?_
  refine aw_alen (v := (24 : Int32)) dJ7_fill_53178_3 rfl rfl ?_
  refine aw_istore_n (ls' := [aR 27 0, aI x1, aI (0 : Int32), aI (24 : Int32)]) dJ7_fill_53178_4 (by decide) rfl rfl ?_
  exact h
theorem u_J7_fill_27_5 {Γ : cx_T} {μ : mH} {x1 : Int32} {x2 : Int32} {x3 : Int32} {Q : mH → Prop} (h : (x3 ≤ x2 → (Q μ)) ∧ (¬ x3 ≤ x2 → (vp_in x2 24 ∧ (aw Γ M_J7_fill_53178 5 [aR 27 0, aI x1, aI (x2 + (1 : Int32)), aI x3] [] (sto μ 27 0 (tn x2) x1) (rV Q))))) : aw Γ M_J7_fill_53178 5 [aR 27 0, aI x1, aI x2, aI x3] [] μ (rV Q) := by
  refine aw_iload_n dJ7_fill_53178_5 rfl ?_
  refine aw_iload_n dJ7_fill_53178_6 rfl ?_
  refine aw_icmp_ge (tgt := 20) dJ7_fill_53178_7 (by decide) (fun c0 => ?_) (fun c0 => ?_)
  · replace h := h.1 c0
    exact aw_vret dJ7_fill_53178_20 rfl h
  · replace h := h.2 c0
    refine aw_aload_n dJ7_fill_53178_10 rfl ?_
    refine aw_iload_n dJ7_fill_53178_11 rfl ?_
    refine aw_iload_n dJ7_fill_53178_12 rfl ?_
    refine aw_is (j := tn x2) dJ7_fill_53178_13 rfl (fun _ => rfl) h.1 rfl ?_
    replace h := h.2
    refine aw_iinc (v := x2 + (1 : Int32)) (ls' := [aR 27 0, aI x1, aI (x2 + (1 : Int32)), aI x3]) dJ7_fill_53178_14 rfl rfl (by decide) rfl rfl ?_
    refine aw_goto (tgt := 5) dJ7_fill_53178_17 (by decide) ?_
    exact h
theorem u_J7_fill_33 {Γ : cx_T} {μ : mH} {x1 : Int32} {Q : mH → Prop} (h : aw Γ M_J7_fill_53178 5 [aR 33 0, aI x1, aI (0 : Int32), aI (256 : Int32)] [] μ (rV Q)) : cwv Γ M_J7_fill_53178 [aR 33 0, aI x1] μ Q := by
  refine cw_ofU (ls := [aR 33 0, aI x1, aX, aX]) (Or.inr (by decide +kernel)) rfl (Nat.le_of_ble_eq_true rfl) rfl ?_
  refine aw_iconst (v := (0 : Int32)) dJ7_fill_53178_0 rfl ?_
  refine aw_istore_n (ls' := [aR 33 0, aI x1, aI (0 : Int32), aX]) dJ7_fill_53178_1 (by decide) rfl rfl ?_
  refine aw_aload_n dJ7_fill_53178_2 rfl ?_
  refine aw_alen (v := (256 : Int32)) dJ7_fill_53178_3 rfl rfl ?_
  refine aw_istore_n (ls' := [aR 33 0, aI x1, aI (0 : Int32), aI (256 : Int32)]) dJ7_fill_53178_4 (by decide) rfl rfl ?_
  exact h
theorem u_J7_fill_33_5 {Γ : cx_T} {μ : mH} {x1 : Int32} {x2 : Int32} {x3 : Int32} {Q : mH → Prop} (h : (x3 ≤ x2 → (Q μ)) ∧ (¬ x3 ≤ x2 → (vp_in x2 256 ∧ (aw Γ M_J7_fill_53178 5 [aR 33 0, aI x1, aI (x2 + (1 : Int32)), aI x3] [] (sto μ 33 0 (tn x2) x1) (rV Q))))) : aw Γ M_J7_fill_53178 5 [aR 33 0, aI x1, aI x2, aI x3] [] μ (rV Q) := by
  refine aw_iload_n dJ7_fill_53178_5 rfl ?_
  refine aw_iload_n dJ7_fill_53178_6 rfl ?_
  refine aw_icmp_ge (tgt := 20) dJ7_fill_53178_7 (by decide) (fun c0 => ?_) (fun c0 => ?_)
  · replace h := h.1 c0
    exact aw_vret dJ7_fill_53178_20 rfl h
  · replace h := h.2 c0
    refine aw_aload_n dJ7_fill_53178_10 rfl ?_
    refine aw_iload_n dJ7_fill_53178_11 rfl ?_
    refine aw_iload_n dJ7_fill_53178_12 rfl ?_
    refine aw_is (j := tn x2) dJ7_fill_53178_13 rfl (fun _ => rfl) h.1 rfl ?_
    replace h := h.2
    refine aw_iinc (v := x2 + (1 : Int32)) (ls' := [aR 33 0, aI x1, aI (x2 + (1 : Int32)), aI x3]) dJ7_fill_53178_14 rfl rfl (by decide) rfl rfl ?_
    refine aw_goto (tgt := 5) dJ7_fill_53178_17 (by decide) ?_
    exact h
theorem u_J3_checkIndex {Γ : cx_T} {μ : mH} {x0 : Int32} {x1 : Int32} {o2 : Option Nat} {Q : Int32 → mH → Prop} (h : (x0 < 0 → (False)) ∧ (¬ x0 < 0 → ((x0 < x1 → (Q x0 μ)) ∧ (¬ x0 < x1 → (False))))) : cwi Γ M_J3_checkIndex_8e157 [aI x0, aI x1, aQ 66 o2] μ Q := by
  refine cw_ofU (ls := [aI x0, aI x1, aQ 66 o2]) (Or.inr (by decide +kernel)) rfl (Nat.le_of_ble_eq_true rfl) rfl ?_
  refine aw_iload_n dJ3_checkIndex_8e157_0 rfl ?_
  refine aw_if_lt (tgt := 9) dJ3_checkIndex_8e157_1 (by decide) (fun c0 => ?_) (fun c0 => ?_)
  · replace h := h.1 c0
    refine aw_aload_nQ (K := 66) dJ3_checkIndex_8e157_9 rfl ?_
    refine aw_iload_n dJ3_checkIndex_8e157_10 rfl ?_
    refine aw_iload_n dJ3_checkIndex_8e157_11 rfl ?_
    exact absurd h id
  · replace h := h.2 c0
    refine aw_iload_n dJ3_checkIndex_8e157_4 rfl ?_
    refine aw_iload_n dJ3_checkIndex_8e157_5 rfl ?_
    refine aw_icmp_lt (tgt := 16) dJ3_checkIndex_8e157_6 (by decide) (fun c0 => ?_) (fun c0 => ?_)
    · replace h := h.1 c0
      refine aw_iload_n dJ3_checkIndex_8e157_16 rfl ?_
      exact aw_iret dJ3_checkIndex_8e157_17 rfl rfl ⟨_, rfl, h⟩
    · replace h := h.2 c0
      refine aw_aload_nQ (K := 66) dJ3_checkIndex_8e157_9 rfl ?_
      refine aw_iload_n dJ3_checkIndex_8e157_10 rfl ?_
      refine aw_iload_n dJ3_checkIndex_8e157_11 rfl ?_
      exact absurd h id
