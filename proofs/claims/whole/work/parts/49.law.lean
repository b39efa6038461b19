theorem u_L_law_18 {Γ : cx_T} {μ : mH} {x3 : Int32} {Q : Int32 → mH → Prop} (hb0 : g_ad Γ 65 0 = g_b Γ) (h : (((Int32.ofNat (g_L Γ)) - (6 : Int32)) < x3 → (Q (1 : Int32) μ)) ∧ (¬ ((Int32.ofNat (g_L Γ)) - (6 : Int32)) < x3 → (vp_in x3 (g_L Γ) ∧ ((((g_xs Γ x3.toNatClampNeg) &&& (31 : Int32)) = (0 : Int32) → (vp_in (x3 + (1 : Int32)) (g_L Γ) ∧ (vp_in (x3 + (2 : Int32)) (g_L Γ) ∧ (vp_in (x3 + (3 : Int32)) (g_L Γ) ∧ (vp_in (x3 + (4 : Int32)) (g_L Γ) ∧ (vp_in (x3 + (5 : Int32)) (g_L Γ) ∧ (cwi Γ M_X11_feed [aR 11 0, aI (g_xs Γ (x3 + (1 : Int32)).toNatClampNeg), aI (g_xs Γ (x3 + (2 : Int32)).toNatClampNeg), aI (g_xs Γ (x3 + (3 : Int32)).toNatClampNeg), aI (g_xs Γ (x3 + (4 : Int32)).toNatClampNeg), aI (g_xs Γ (x3 + (5 : Int32)).toNatClampNeg)] μ (fun r2 μ1 => vp_in (x3 + (1 : Int32)) (g_L Γ) ∧ (vp_in (x3 + (2 : Int32)) (g_L Γ) ∧ (vp_in (x3 + (3 : Int32)) (g_L Γ) ∧ (vp_in (x3 + (4 : Int32)) (g_L Γ) ∧ (vp_in (x3 + (5 : Int32)) (g_L Γ) ∧ (cwi Γ M_X12_feed [aR 12 0, aI (g_xs Γ (x3 + (1 : Int32)).toNatClampNeg), aI (g_xs Γ (x3 + (2 : Int32)).toNatClampNeg), aI (g_xs Γ (x3 + (3 : Int32)).toNatClampNeg), aI (g_xs Γ (x3 + (4 : Int32)).toNatClampNeg), aI (g_xs Γ (x3 + (5 : Int32)).toNatClampNeg)] μ1 (fun r4 μ3 => (r2 = r4 → (aw Γ M_L_law 18 [aR 65 0, aR 11 0, aR 12 0, aI (x3 + (6 : Int32))] [] μ3 (rI Q))) ∧ (¬ r2 = r4 → (Q (0 : Int32) μ3)))))))))))))))) ∧ (((g_xs Γ x3.toNatClampNeg) &&& (31 : Int32)) = (1 : Int32) → (vp_in (x3 + (1 : Int32)) (g_L Γ) ∧ (cwi Γ M_X11_end [aR 11 0, aI (g_xs Γ (x3 + (1 : Int32)).toNatClampNeg)] μ (fun r6 μ5 => vp_in (x3 + (1 : Int32)) (g_L Γ) ∧ (cwi Γ M_X12_end [aR 12 0, aI (g_xs Γ (x3 + (1 : Int32)).toNatClampNeg)] μ5 (fun r8 μ7 => (r6 = r8 → (aw Γ M_L_law 18 [aR 65 0, aR 11 0, aR 12 0, aI (x3 + (6 : Int32))] [] μ7 (rI Q))) ∧ (¬ r6 = r8 → (Q (0 : Int32) μ7)))))))) ∧ (((g_xs Γ x3.toNatClampNeg) &&& (31 : Int32)) = (2 : Int32) → (cwi Γ M_X11_fault [aR 11 0] μ (fun r10 μ9 => cwi Γ M_X12_fault [aR 12 0] μ9 (fun r12 μ11 => (r10 = r12 → (aw Γ M_L_law 18 [aR 65 0, aR 11 0, aR 12 0, aI (x3 + (6 : Int32))] [] μ11 (rI Q))) ∧ (¬ r10 = r12 → (Q (0 : Int32) μ11)))))) ∧ (((g_xs Γ x3.toNatClampNeg) &&& (31 : Int32)) = (3 : Int32) → (cwi Γ M_X11_format [aR 11 0] μ (fun r14 μ13 => cwi Γ M_X12_format [aR 12 0] μ13 (fun r16 μ15 => (r14 = r16 → (aw Γ M_L_law 18 [aR 65 0, aR 11 0, aR 12 0, aI (x3 + (6 : Int32))] [] μ15 (rI Q))) ∧ (¬ r14 = r16 → (Q (0 : Int32) μ15)))))) ∧ (((g_xs Γ x3.toNatClampNeg) &&& (31 : Int32)) = (4 : Int32) → (vp_in (x3 + (1 : Int32)) (g_L Γ) ∧ (vp_in (x3 + (2 : Int32)) (g_L Γ) ∧ (vp_in (x3 + (3 : Int32)) (g_L Γ) ∧ (vp_in (x3 + (4 : Int32)) (g_L Γ) ∧ (vp_in (x3 + (5 : Int32)) (g_L Γ) ∧ (cwi Γ M_X11_flux [aR 11 0, aI (g_xs Γ (x3 + (1 : Int32)).toNatClampNeg), aI (g_xs Γ (x3 + (2 : Int32)).toNatClampNeg), aI (g_xs Γ (x3 + (3 : Int32)).toNatClampNeg), aI (g_xs Γ (x3 + (4 : Int32)).toNatClampNeg), aI (g_xs Γ (x3 + (5 : Int32)).toNatClampNeg)] μ (fun r18 μ17 => vp_in (x3 + (1 : Int32)) (g_L Γ) ∧ (vp_in (x3 + (2 : Int32)) (g_L Γ) ∧ (vp_in (x3 + (3 : Int32)) (g_L Γ) ∧ (vp_in (x3 + (4 : Int32)) (g_L Γ) ∧ (vp_in (x3 + (5 : Int32)) (g_L Γ) ∧ (cwi Γ M_X12_flux [aR 12 0, aI (g_xs Γ (x3 + (1 : Int32)).toNatClampNeg), aI (g_xs Γ (x3 + (2 : Int32)).toNatClampNeg), aI (g_xs Γ (x3 + (3 : Int32)).toNatClampNeg), aI (g_xs Γ (x3 + (4 : Int32)).toNatClampNeg), aI (g_xs Γ (x3 + (5 : Int32)).toNatClampNeg)] μ17 (fun r20 μ19 => (r18 = r20 → (aw Γ M_L_law 18 [aR 65 0, aR 11 0, aR 12 0, aI (x3 + (6 : Int32))] [] μ19 (rI Q))) ∧ (¬ r18 = r20 → (Q (0 : Int32) μ19)))))))))))))))) ∧ (((g_xs Γ x3.toNatClampNeg) &&& (31 : Int32)) = (5 : Int32) → (cwi Γ M_X11_wipe [aR 11 0] μ (fun r22 μ21 => cwi Γ M_X12_wipe [aR 12 0] μ21 (fun r24 μ23 => (r22 = r24 → (aw Γ M_L_law 18 [aR 65 0, aR 11 0, aR 12 0, aI (x3 + (6 : Int32))] [] μ23 (rI Q))) ∧ (¬ r22 = r24 → (Q (0 : Int32) μ23)))))) ∧ (((g_xs Γ x3.toNatClampNeg) &&& (31 : Int32)) = (6 : Int32) → (vp_in (x3 + (1 : Int32)) (g_L Γ) ∧ (cwi Γ M_X11_read [aR 11 0, aI (g_xs Γ (x3 + (1 : Int32)).toNatClampNeg)] μ (fun r26 μ25 => vp_in (x3 + (1 : Int32)) (g_L Γ) ∧ (cwi Γ M_X12_read [aR 12 0, aI (g_xs Γ (x3 + (1 : Int32)).toNatClampNeg)] μ25 (fun r28 μ27 => (r26 = r28 → (aw Γ M_L_law 18 [aR 65 0, aR 11 0, aR 12 0, aI (x3 + (6 : Int32))] [] μ27 (rI Q))) ∧ (¬ r26 = r28 → (Q (0 : Int32) μ27)))))))) ∧ (((g_xs Γ x3.toNatClampNeg) &&& (31 : Int32)) = (7 : Int32) → (vp_in (x3 + (1 : Int32)) (g_L Γ) ∧ (vp_in (x3 + (2 : Int32)) (g_L Γ) ∧ (vp_in (x3 + (3 : Int32)) (g_L Γ) ∧ (cwi Γ M_X11_raw [aR 11 0, aI (g_xs Γ (x3 + (1 : Int32)).toNatClampNeg), aI (g_xs Γ (x3 + (2 : Int32)).toNatClampNeg), aI (g_xs Γ (x3 + (3 : Int32)).toNatClampNeg)] μ (fun r30 μ29 => vp_in (x3 + (1 : Int32)) (g_L Γ) ∧ (vp_in (x3 + (2 : Int32)) (g_L Γ) ∧ (vp_in (x3 + (3 : Int32)) (g_L Γ) ∧ (cwi Γ M_X12_raw [aR 12 0, aI (g_xs Γ (x3 + (1 : Int32)).toNatClampNeg), aI (g_xs Γ (x3 + (2 : Int32)).toNatClampNeg), aI (g_xs Γ (x3 + (3 : Int32)).toNatClampNeg)] μ29 (fun r32 μ31 => (r30 = r32 → (aw Γ M_L_law 18 [aR 65 0, aR 11 0, aR 12 0, aI (x3 + (6 : Int32))] [] μ31 (rI Q))) ∧ (¬ r30 = r32 → (Q (0 : Int32) μ31)))))))))))) ∧ (((g_xs Γ x3.toNatClampNeg) &&& (31 : Int32)) = (8 : Int32) → (vp_in (x3 + (1 : Int32)) (g_L Γ) ∧ (vp_in (x3 + (2 : Int32)) (g_L Γ) ∧ (vp_in (x3 + (3 : Int32)) (g_L Γ) ∧ (cwi Γ M_X11_found [aR 11 0, aI (g_xs Γ (x3 + (1 : Int32)).toNatClampNeg), aI (g_xs Γ (x3 + (2 : Int32)).toNatClampNeg), aI (g_xs Γ (x3 + (3 : Int32)).toNatClampNeg)] μ (fun r34 μ33 => vp_in (x3 + (1 : Int32)) (g_L Γ) ∧ (vp_in (x3 + (2 : Int32)) (g_L Γ) ∧ (vp_in (x3 + (3 : Int32)) (g_L Γ) ∧ (cwi Γ M_X12_found [aR 12 0, aI (g_xs Γ (x3 + (1 : Int32)).toNatClampNeg), aI (g_xs Γ (x3 + (2 : Int32)).toNatClampNeg), aI (g_xs Γ (x3 + (3 : Int32)).toNatClampNeg)] μ33 (fun r36 μ35 => (r34 = r36 → (aw Γ M_L_law 18 [aR 65 0, aR 11 0, aR 12 0, aI (x3 + (6 : Int32))] [] μ35 (rI Q))) ∧ (¬ r34 = r36 → (Q (0 : Int32) μ35)))))))))))) ∧ (((g_xs Γ x3.toNatClampNeg) &&& (31 : Int32)) = (9 : Int32) → (vp_in (x3 + (1 : Int32)) (g_L Γ) ∧ (vp_in (x3 + (2 : Int32)) (g_L Γ) ∧ (cwi Γ M_X11_tuned [aR 11 0, aI (g_xs Γ (x3 + (1 : Int32)).toNatClampNeg), aI (g_xs Γ (x3 + (2 : Int32)).toNatClampNeg)] μ (fun r38 μ37 => vp_in (x3 + (1 : Int32)) (g_L Γ) ∧ (vp_in (x3 + (2 : Int32)) (g_L Γ) ∧ (cwi Γ M_X12_tuned [aR 12 0, aI (g_xs Γ (x3 + (1 : Int32)).toNatClampNeg), aI (g_xs Γ (x3 + (2 : Int32)).toNatClampNeg)] μ37 (fun r40 μ39 => (r38 = r40 → (aw Γ M_L_law 18 [aR 65 0, aR 11 0, aR 12 0, aI (x3 + (6 : Int32))] [] μ39 (rI Q))) ∧ (¬ r38 = r40 → (Q (0 : Int32) μ39)))))))))) ∧ (((g_xs Γ x3.toNatClampNeg) &&& (31 : Int32)) = (10 : Int32) → (vp_in (x3 + (1 : Int32)) (g_L Γ) ∧ (vp_in (x3 + (2 : Int32)) (g_L Γ) ∧ (vp_in (x3 + (3 : Int32)) (g_L Γ) ∧ (cwi Γ M_X11_status [aR 11 0, aI (g_xs Γ (x3 + (1 : Int32)).toNatClampNeg), aI (g_xs Γ (x3 + (2 : Int32)).toNatClampNeg), aI (g_xs Γ (x3 + (3 : Int32)).toNatClampNeg)] μ (fun r42 μ41 => vp_in (x3 + (1 : Int32)) (g_L Γ) ∧ (vp_in (x3 + (2 : Int32)) (g_L Γ) ∧ (vp_in (x3 + (3 : Int32)) (g_L Γ) ∧ (cwi Γ M_X12_status [aR 12 0, aI (g_xs Γ (x3 + (1 : Int32)).toNatClampNeg), aI (g_xs Γ (x3 + (2 : Int32)).toNatClampNeg), aI (g_xs Γ (x3 + (3 : Int32)).toNatClampNeg)] μ41 (fun r44 μ43 => (r42 = r44 → (aw Γ M_L_law 18 [aR 65 0, aR 11 0, aR 12 0, aI (x3 + (6 : Int32))] [] μ43 (rI Q))) ∧ (¬ r42 = r44 → (Q (0 : Int32) μ43)))))))))))) ∧ (((g_xs Γ x3.toNatClampNeg) &&& (31 : Int32)) = (11 : Int32) → (vp_in (x3 + (1 : Int32)) (g_L Γ) ∧ (vp_in (x3 + (2 : Int32)) (g_L Γ) ∧ (vp_in (x3 + (3 : Int32)) (g_L Γ) ∧ (cwi Γ M_X11_value [aR 11 0, aI (g_xs Γ (x3 + (1 : Int32)).toNatClampNeg), aI (g_xs Γ (x3 + (2 : Int32)).toNatClampNeg), aI (g_xs Γ (x3 + (3 : Int32)).toNatClampNeg)] μ (fun r46 μ45 => vp_in (x3 + (1 : Int32)) (g_L Γ) ∧ (vp_in (x3 + (2 : Int32)) (g_L Γ) ∧ (vp_in (x3 + (3 : Int32)) (g_L Γ) ∧ (cwi Γ M_X12_value [aR 12 0, aI (g_xs Γ (x3 + (1 : Int32)).toNatClampNeg), aI (g_xs Γ (x3 + (2 : Int32)).toNatClampNeg), aI (g_xs Γ (x3 + (3 : Int32)).toNatClampNeg)] μ45 (fun r48 μ47 => (r46 = r48 → (aw Γ M_L_law 18 [aR 65 0, aR 11 0, aR 12 0, aI (x3 + (6 : Int32))] [] μ47 (rI Q))) ∧ (¬ r46 = r48 → (Q (0 : Int32) μ47)))))))))))) ∧ (((g_xs Γ x3.toNatClampNeg) &&& (31 : Int32)) = (12 : Int32) → (vp_in (x3 + (1 : Int32)) (g_L Γ) ∧ (vp_in (x3 + (2 : Int32)) (g_L Γ) ∧ (vp_in (x3 + (3 : Int32)) (g_L Γ) ∧ (cwi Γ M_X11_tell [aR 11 0, aI (g_xs Γ (x3 + (1 : Int32)).toNatClampNeg), aI (g_xs Γ (x3 + (2 : Int32)).toNatClampNeg), aI (g_xs Γ (x3 + (3 : Int32)).toNatClampNeg)] μ (fun r50 μ49 => vp_in (x3 + (1 : Int32)) (g_L Γ) ∧ (vp_in (x3 + (2 : Int32)) (g_L Γ) ∧ (vp_in (x3 + (3 : Int32)) (g_L Γ) ∧ (cwi Γ M_X12_tell [aR 12 0, aI (g_xs Γ (x3 + (1 : Int32)).toNatClampNeg), aI (g_xs Γ (x3 + (2 : Int32)).toNatClampNeg), aI (g_xs Γ (x3 + (3 : Int32)).toNatClampNeg)] μ49 (fun r52 μ51 => (r50 = r52 → (aw Γ M_L_law 18 [aR 65 0, aR 11 0, aR 12 0, aI (x3 + (6 : Int32))] [] μ51 (rI Q))) ∧ (¬ r50 = r52 → (Q (0 : Int32) μ51)))))))))))) ∧ (((g_xs Γ x3.toNatClampNeg) &&& (31 : Int32)) = (13 : Int32) → (vp_in (x3 + (1 : Int32)) (g_L Γ) ∧ (vp_in (x3 + (2 : Int32)) (g_L Γ) ∧ (cwi Γ M_X11_file [aR 11 0, aI (g_xs Γ (x3 + (1 : Int32)).toNatClampNeg), aI (g_xs Γ (x3 + (2 : Int32)).toNatClampNeg)] μ (fun r54 μ53 => vp_in (x3 + (1 : Int32)) (g_L Γ) ∧ (vp_in (x3 + (2 : Int32)) (g_L Γ) ∧ (cwi Γ M_X12_file [aR 12 0, aI (g_xs Γ (x3 + (1 : Int32)).toNatClampNeg), aI (g_xs Γ (x3 + (2 : Int32)).toNatClampNeg)] μ53 (fun r56 μ55 => (r54 = r56 → (aw Γ M_L_law 18 [aR 65 0, aR 11 0, aR 12 0, aI (x3 + (6 : Int32))] [] μ55 (rI Q))) ∧ (¬ r54 = r56 → (Q (0 : Int32) μ55)))))))))) ∧ (((g_xs Γ x3.toNatClampNeg) &&& (31 : Int32)) = (14 : Int32) → (vp_in (x3 + (1 : Int32)) (g_L Γ) ∧ (cwi Γ M_X11_mishaps [aR 11 0, aI (g_xs Γ (x3 + (1 : Int32)).toNatClampNeg)] μ (fun r58 μ57 => vp_in (x3 + (1 : Int32)) (g_L Γ) ∧ (cwi Γ M_X12_mishaps [aR 12 0, aI (g_xs Γ (x3 + (1 : Int32)).toNatClampNeg)] μ57 (fun r60 μ59 => (r58 = r60 → (aw Γ M_L_law 18 [aR 65 0, aR 11 0, aR 12 0, aI (x3 + (6 : Int32))] [] μ59 (rI Q))) ∧ (¬ r58 = r60 → (Q (0 : Int32) μ59)))))))) ∧ (((g_xs Γ x3.toNatClampNeg) &&& (31 : Int32)) = (15 : Int32) → (vp_in (x3 + (1 : Int32)) (g_L Γ) ∧ (vp_in (x3 + (2 : Int32)) (g_L Γ) ∧ (cwi Γ M_X11_next [aR 11 0, aI (g_xs Γ (x3 + (1 : Int32)).toNatClampNeg), aI (g_xs Γ (x3 + (2 : Int32)).toNatClampNeg)] μ (fun r62 μ61 => vp_in (x3 + (1 : Int32)) (g_L Γ) ∧ (vp_in (x3 + (2 : Int32)) (g_L Γ) ∧ (cwi Γ M_X12_next [aR 12 0, aI (g_xs Γ (x3 + (1 : Int32)).toNatClampNeg), aI (g_xs Γ (x3 + (2 : Int32)).toNatClampNeg)] μ61 (fun r64 μ63 => (r62 = r64 → (aw Γ M_L_law 18 [aR 65 0, aR 11 0, aR 12 0, aI (x3 + (6 : Int32))] [] μ63 (rI Q))) ∧ (¬ r62 = r64 → (Q (0 : Int32) μ63)))))))))) ∧ (((g_xs Γ x3.toNatClampNeg) &&& (31 : Int32)) = (16 : Int32) → (vp_in (x3 + (1 : Int32)) (g_L Γ) ∧ (vp_in (x3 + (2 : Int32)) (g_L Γ) ∧ (vp_in (x3 + (3 : Int32)) (g_L Γ) ∧ (cwi Γ M_X11_chain [aR 11 0, aI (g_xs Γ (x3 + (1 : Int32)).toNatClampNeg), aI (g_xs Γ (x3 + (2 : Int32)).toNatClampNeg), aI (g_xs Γ (x3 + (3 : Int32)).toNatClampNeg)] μ (fun r66 μ65 => vp_in (x3 + (1 : Int32)) (g_L Γ) ∧ (vp_in (x3 + (2 : Int32)) (g_L Γ) ∧ (vp_in (x3 + (3 : Int32)) (g_L Γ) ∧ (cwi Γ M_X12_chain [aR 12 0, aI (g_xs Γ (x3 + (1 : Int32)).toNatClampNeg), aI (g_xs Γ (x3 + (2 : Int32)).toNatClampNeg), aI (g_xs Γ (x3 + (3 : Int32)).toNatClampNeg)] μ65 (fun r68 μ67 => (r66 = r68 → (aw Γ M_L_law 18 [aR 65 0, aR 11 0, aR 12 0, aI (x3 + (6 : Int32))] [] μ67 (rI Q))) ∧ (¬ r66 = r68 → (Q (0 : Int32) μ67)))))))))))) ∧ (((g_xs Γ x3.toNatClampNeg) &&& (31 : Int32)) = (17 : Int32) → (vp_in (x3 + (1 : Int32)) (g_L Γ) ∧ (cwi Γ M_X11_gaps [aR 11 0, aI (g_xs Γ (x3 + (1 : Int32)).toNatClampNeg)] μ (fun r70 μ69 => vp_in (x3 + (1 : Int32)) (g_L Γ) ∧ (cwi Γ M_X12_gaps [aR 12 0, aI (g_xs Γ (x3 + (1 : Int32)).toNatClampNeg)] μ69 (fun r72 μ71 => (r70 = r72 → (aw Γ M_L_law 18 [aR 65 0, aR 11 0, aR 12 0, aI (x3 + (6 : Int32))] [] μ71 (rI Q))) ∧ (¬ r70 = r72 → (Q (0 : Int32) μ71)))))))) ∧ (((g_xs Γ x3.toNatClampNeg) &&& (31 : Int32)) = (18 : Int32) → (vp_in (x3 + (1 : Int32)) (g_L Γ) ∧ (cwi Γ M_X11_hope [aR 11 0, aI (g_xs Γ (x3 + (1 : Int32)).toNatClampNeg)] μ (fun r74 μ73 => vp_in (x3 + (1 : Int32)) (g_L Γ) ∧ (cwi Γ M_X12_hope [aR 12 0, aI (g_xs Γ (x3 + (1 : Int32)).toNatClampNeg)] μ73 (fun r76 μ75 => (r74 = r76 → (aw Γ M_L_law 18 [aR 65 0, aR 11 0, aR 12 0, aI (x3 + (6 : Int32))] [] μ75 (rI Q))) ∧ (¬ r74 = r76 → (Q (0 : Int32) μ75)))))))) ∧ (((g_xs Γ x3.toNatClampNeg) &&& (31 : Int32)) = (19 : Int32) → (vp_in (x3 + (1 : Int32)) (g_L Γ) ∧ (cwi Γ M_X11_ask [aR 11 0, aI (g_xs Γ (x3 + (1 : Int32)).toNatClampNeg)] μ (fun r78 μ77 => vp_in (x3 + (1 : Int32)) (g_L Γ) ∧ (cwi Γ M_X12_ask [aR 12 0, aI (g_xs Γ (x3 + (1 : Int32)).toNatClampNeg)] μ77 (fun r80 μ79 => (r78 = r80 → (aw Γ M_L_law 18 [aR 65 0, aR 11 0, aR 12 0, aI (x3 + (6 : Int32))] [] μ79 (rI Q))) ∧ (¬ r78 = r80 → (Q (0 : Int32) μ79)))))))) ∧ (((g_xs Γ x3.toNatClampNeg) &&& (31 : Int32)) = (20 : Int32) → (vp_in (x3 + (1 : Int32)) (g_L Γ) ∧ (vp_in (x3 + (2 : Int32)) (g_L Γ) ∧ (vp_in (x3 + (3 : Int32)) (g_L Γ) ∧ (cwi Γ M_X11_written [aR 11 0, aI (g_xs Γ (x3 + (1 : Int32)).toNatClampNeg), aI (g_xs Γ (x3 + (2 : Int32)).toNatClampNeg), aI (g_xs Γ (x3 + (3 : Int32)).toNatClampNeg)] μ (fun r82 μ81 => vp_in (x3 + (1 : Int32)) (g_L Γ) ∧ (vp_in (x3 + (2 : Int32)) (g_L Γ) ∧ (vp_in (x3 + (3 : Int32)) (g_L Γ) ∧ (cwi Γ M_X12_written [aR 12 0, aI (g_xs Γ (x3 + (1 : Int32)).toNatClampNeg), aI (g_xs Γ (x3 + (2 : Int32)).toNatClampNeg), aI (g_xs Γ (x3 + (3 : Int32)).toNatClampNeg)] μ81 (fun r84 μ83 => (r82 = r84 → (aw Γ M_L_law 18 [aR 65 0, aR 11 0, aR 12 0, aI (x3 + (6 : Int32))] [] μ83 (rI Q))) ∧ (¬ r82 = r84 → (Q (0 : Int32) μ83)))))))))))) ∧ (((g_xs Γ x3.toNatClampNeg) &&& (31 : Int32)) = (21 : Int32) → (vp_in (x3 + (1 : Int32)) (g_L Γ) ∧ (cwi Γ M_X11_count [aR 11 0, aI (g_xs Γ (x3 + (1 : Int32)).toNatClampNeg)] μ (fun r86 μ85 => vp_in (x3 + (1 : Int32)) (g_L Γ) ∧ (cwi Γ M_X12_count [aR 12 0, aI (g_xs Γ (x3 + (1 : Int32)).toNatClampNeg)] μ85 (fun r88 μ87 => (r86 = r88 → (aw Γ M_L_law 18 [aR 65 0, aR 11 0, aR 12 0, aI (x3 + (6 : Int32))] [] μ87 (rI Q))) ∧ (¬ r86 = r88 → (Q (0 : Int32) μ87)))))))) ∧ (¬ ((g_xs Γ x3.toNatClampNeg) &&& (31 : Int32)) = (0 : Int32) → ¬ ((g_xs Γ x3.toNatClampNeg) &&& (31 : Int32)) = (1 : Int32) → ¬ ((g_xs Γ x3.toNatClampNeg) &&& (31 : Int32)) = (2 : Int32) → ¬ ((g_xs Γ x3.toNatClampNeg) &&& (31 : Int32)) = (3 : Int32) → ¬ ((g_xs Γ x3.toNatClampNeg) &&& (31 : Int32)) = (4 : Int32) → ¬ ((g_xs Γ x3.toNatClampNeg) &&& (31 : Int32)) = (5 : Int32) → ¬ ((g_xs Γ x3.toNatClampNeg) &&& (31 : Int32)) = (6 : Int32) → ¬ ((g_xs Γ x3.toNatClampNeg) &&& (31 : Int32)) = (7 : Int32) → ¬ ((g_xs Γ x3.toNatClampNeg) &&& (31 : Int32)) = (8 : Int32) → ¬ ((g_xs Γ x3.toNatClampNeg) &&& (31 : Int32)) = (9 : Int32) → ¬ ((g_xs Γ x3.toNatClampNeg) &&& (31 : Int32)) = (10 : Int32) → ¬ ((g_xs Γ x3.toNatClampNeg) &&& (31 : Int32)) = (11 : Int32) → ¬ ((g_xs Γ x3.toNatClampNeg) &&& (31 : Int32)) = (12 : Int32) → ¬ ((g_xs Γ x3.toNatClampNeg) &&& (31 : Int32)) = (13 : Int32) → ¬ ((g_xs Γ x3.toNatClampNeg) &&& (31 : Int32)) = (14 : Int32) → ¬ ((g_xs Γ x3.toNatClampNeg) &&& (31 : Int32)) = (15 : Int32) → ¬ ((g_xs Γ x3.toNatClampNeg) &&& (31 : Int32)) = (16 : Int32) → ¬ ((g_xs Γ x3.toNatClampNeg) &&& (31 : Int32)) = (17 : Int32) → ¬ ((g_xs Γ x3.toNatClampNeg) &&& (31 : Int32)) = (18 : Int32) → ¬ ((g_xs Γ x3.toNatClampNeg) &&& (31 : Int32)) = (19 : Int32) → ¬ ((g_xs Γ x3.toNatClampNeg) &&& (31 : Int32)) = (20 : Int32) → ¬ ((g_xs Γ x3.toNatClampNeg) &&& (31 : Int32)) = (21 : Int32) → (aw Γ M_L_law 18 [aR 65 0, aR 11 0, aR 12 0, aI (x3 + (6 : Int32))] [] μ (rI Q))))))) : aw Γ M_L_law 18 [aR 65 0, aR 11 0, aR 12 0, aI x3] [] μ (rI Q) := by
  refine aw_iload_n dL_law_18 rfl ?_
  refine aw_aload_n dL_law_19 rfl ?_
  refine aw_scL dL_law_20 hb0 ?_
  refine aw_bipush (v := (6 : Int32)) dL_law_21 rfl ?_
  refine aw_isub dL_law_23 ?_
  refine aw_icmp_gt (tgt := 868) dL_law_24 (by decide) (fun c0 => ?_) (fun c0 => ?_)
  · replace h := h.1 c0
    refine aw_iconst (v := (1 : Int32)) dL_law_868 rfl ?_
    exact aw_iret (ty := .boolean) dL_law_869 rfl (by decide) ⟨_, rfl, h⟩
  · replace h := h.2 c0
    refine aw_aload_n dL_law_27 rfl ?_
    refine aw_iload_n dL_law_28 rfl ?_
    refine aw_scI dL_law_29 hb0 h.1 ?_
    replace h := h.2
    refine aw_bipush (v := (31 : Int32)) dL_law_30 rfl ?_
    refine aw_iand dL_law_32 ?_
    by_cases c0 : ((g_xs Γ x3.toNatClampNeg) &&& (31 : Int32)) = (0 : Int32)
    · replace h := h.1 c0
      refine aw_tableIn (off := 103) (tgt := 136) dL_law_33 (by rw [c0]; decide) (by rw [c0]; decide) (by rw [c0]; decide) (by decide) ?_
      refine aw_aload_n dL_law_136 rfl ?_
      refine aw_aload_n dL_law_137 rfl ?_
      refine aw_iload_n dL_law_138 rfl ?_
      refine aw_iconst (v := (1 : Int32)) dL_law_139 rfl ?_
      refine aw_iadd dL_law_140 ?_
      refine aw_scI dL_law_141 hb0 h.1 ?_
      replace h := h.2
      refine aw_aload_n dL_law_142 rfl ?_
      refine aw_iload_n dL_law_143 rfl ?_
      refine aw_iconst (v := (2 : Int32)) dL_law_144 rfl ?_
      refine aw_iadd dL_law_145 ?_
      refine aw_scI dL_law_146 hb0 h.1 ?_
      replace h := h.2
      refine aw_aload_n dL_law_147 rfl ?_
      refine aw_iload_n dL_law_148 rfl ?_
      refine aw_iconst (v := (3 : Int32)) dL_law_149 rfl ?_
      refine aw_iadd dL_law_150 ?_
      refine aw_scI dL_law_151 hb0 h.1 ?_
      replace h := h.2
      refine aw_aload_n dL_law_152 rfl ?_
      refine aw_iload_n dL_law_153 rfl ?_
      refine aw_iconst (v := (4 : Int32)) dL_law_154 rfl ?_
      refine aw_iadd dL_law_155 ?_
      refine aw_scI dL_law_156 hb0 h.1 ?_
      replace h := h.2
      refine aw_aload_n dL_law_157 rfl ?_
      refine aw_iload_n dL_law_158 rfl ?_
      refine aw_iconst (v := (5 : Int32)) dL_law_159 rfl ?_
      refine aw_iadd dL_law_160 ?_
      refine aw_scI dL_law_161 hb0 h.1 ?_
      replace h := h.2
      refine aw_callV (M' := M_X11_feed) (K := 11) (i := 0) (vs := [aI (g_xs Γ (x3 + (1 : Int32)).toNatClampNeg), aI (g_xs Γ (x3 + (2 : Int32)).toNatClampNeg), aI (g_xs Γ (x3 + (3 : Int32)).toNatClampNeg), aI (g_xs Γ (x3 + (4 : Int32)).toNatClampNeg), aI (g_xs Γ (x3 + (5 : Int32)).toNatClampNeg)]) (st := []) dL_law_162 mk_X11_feed mi_X11_feed ml_RL_13 mp_X11_feed rc_11 rm_L_law__X11_feed (Nat.le_of_ble_eq_true rfl) rfl (cw_mono h ?_)
      clear h
      rintro _ μ89 ⟨r90, rfl, h⟩
      show aw Γ M_L_law 165 [aR 65 0, aR 11 0, aR 12 0, aI x3] [aI r90] μ89 (rI Q)
      refine aw_aload_n dL_law_165 rfl ?_
      refine aw_aload_n dL_law_166 rfl ?_
      refine aw_iload_n dL_law_167 rfl ?_
      refine aw_iconst (v := (1 : Int32)) dL_law_168 rfl ?_
      refine aw_iadd dL_law_169 ?_
      refine aw_scI dL_law_170 hb0 h.1 ?_
      replace h := h.2
      refine aw_aload_n dL_law_171 rfl ?_
      refine aw_iload_n dL_law_172 rfl ?_
      refine aw_iconst (v := (2 : Int32)) dL_law_173 rfl ?_
      refine aw_iadd dL_law_174 ?_
      refine aw_scI dL_law_175 hb0 h.1 ?_
      replace h := h.2
      refine aw_aload_n dL_law_176 rfl ?_
      refine aw_iload_n dL_law_177 rfl ?_
      refine aw_iconst (v := (3 : Int32)) dL_law_178 rfl ?_
      refine aw_iadd dL_law_179 ?_
      refine aw_scI dL_law_180 hb0 h.1 ?_
      replace h := h.2
      refine aw_aload_n dL_law_181 rfl ?_
      refine aw_iload_n dL_law_182 rfl ?_
      refine aw_iconst (v := (4 : Int32)) dL_law_183 rfl ?_
      refine aw_iadd dL_law_184 ?_
      refine aw_scI dL_law_185 hb0 h.1 ?_
      replace h := h.2
      refine aw_aload_n dL_law_186 rfl ?_
      refine aw_iload_n dL_law_187 rfl ?_
      refine aw_iconst (v := (5 : Int32)) dL_law_188 rfl ?_
      refine aw_iadd dL_law_189 ?_
      refine aw_scI dL_law_190 hb0 h.1 ?_
      replace h := h.2
      refine aw_callV (M' := M_X12_feed) (K := 12) (i := 0) (vs := [aI (g_xs Γ (x3 + (1 : Int32)).toNatClampNeg), aI (g_xs Γ (x3 + (2 : Int32)).toNatClampNeg), aI (g_xs Γ (x3 + (3 : Int32)).toNatClampNeg), aI (g_xs Γ (x3 + (4 : Int32)).toNatClampNeg), aI (g_xs Γ (x3 + (5 : Int32)).toNatClampNeg)]) (st := [aI r90]) dL_law_191 mk_X12_feed mi_X12_feed ml_RL_17 mp_X12_feed rc_12 rm_L_law__X12_feed (Nat.le_of_ble_eq_true rfl) rfl (cw_mono h ?_)
      clear h
      rintro _ μ91 ⟨r92, rfl, h⟩
      show aw Γ M_L_law 194 [aR 65 0, aR 11 0, aR 12 0, aI x3] [aI r92, aI r90] μ91 (rI Q)
      refine aw_icmp_eq (tgt := 862) dL_law_194 (by decide) (fun c0 => ?_) (fun c0 => ?_)
      · replace h := h.1 c0
        refine aw_iinc (v := x3 + (6 : Int32)) (ls' := [aR 65 0, aR 11 0, aR 12 0, aI (x3 + (6 : Int32))]) dL_law_862 rfl rfl (by decide) rfl rfl ?_
        refine aw_goto (tgt := 18) dL_law_865 (by decide) ?_
        exact h
      · replace h := h.2 c0
        refine aw_iconst (v := (0 : Int32)) dL_law_197 rfl ?_
        exact aw_iret (ty := .boolean) dL_law_198 rfl (by decide) ⟨_, rfl, h⟩
    by_cases c1 : ((g_xs Γ x3.toNatClampNeg) &&& (31 : Int32)) = (1 : Int32)
    · replace h := h.2.1 c1
      refine aw_tableIn (off := 166) (tgt := 199) dL_law_33 (by rw [c1]; decide) (by rw [c1]; decide) (by rw [c1]; decide) (by decide) ?_
      refine aw_aload_n dL_law_199 rfl ?_
      refine aw_aload_n dL_law_200 rfl ?_
      refine aw_iload_n dL_law_201 rfl ?_
      refine aw_iconst (v := (1 : Int32)) dL_law_202 rfl ?_
      refine aw_iadd dL_law_203 ?_
      refine aw_scI dL_law_204 hb0 h.1 ?_
      replace h := h.2
      refine aw_callV (M' := M_X11_end) (K := 11) (i := 0) (vs := [aI (g_xs Γ (x3 + (1 : Int32)).toNatClampNeg)]) (st := []) dL_law_205 mk_X11_end mi_X11_end ml_RL_18 mp_X11_end rc_11 rm_L_law__X11_end (Nat.le_of_ble_eq_true rfl) rfl (cw_mono h ?_)
      clear h
      rintro _ μ93 ⟨r94, rfl, h⟩
      show aw Γ M_L_law 208 [aR 65 0, aR 11 0, aR 12 0, aI x3] [aI r94] μ93 (rI Q)
      refine aw_aload_n dL_law_208 rfl ?_
      refine aw_aload_n dL_law_209 rfl ?_
      refine aw_iload_n dL_law_210 rfl ?_
      refine aw_iconst (v := (1 : Int32)) dL_law_211 rfl ?_
      refine aw_iadd dL_law_212 ?_
      refine aw_scI dL_law_213 hb0 h.1 ?_
      replace h := h.2
      refine aw_callV (M' := M_X12_end) (K := 12) (i := 0) (vs := [aI (g_xs Γ (x3 + (1 : Int32)).toNatClampNeg)]) (st := [aI r94]) dL_law_214 mk_X12_end mi_X12_end ml_RL_22 mp_X12_end rc_12 rm_L_law__X12_end (Nat.le_of_ble_eq_true rfl) rfl (cw_mono h ?_)
      clear h
      rintro _ μ95 ⟨r96, rfl, h⟩
      show aw Γ M_L_law 217 [aR 65 0, aR 11 0, aR 12 0, aI x3] [aI r96, aI r94] μ95 (rI Q)
      refine aw_icmp_eq (tgt := 862) dL_law_217 (by decide) (fun c0 => ?_) (fun c0 => ?_)
      · replace h := h.1 c0
        refine aw_iinc (v := x3 + (6 : Int32)) (ls' := [aR 65 0, aR 11 0, aR 12 0, aI (x3 + (6 : Int32))]) dL_law_862 rfl rfl (by decide) rfl rfl ?_
        refine aw_goto (tgt := 18) dL_law_865 (by decide) ?_
        exact h
      · replace h := h.2 c0
        refine aw_iconst (v := (0 : Int32)) dL_law_220 rfl ?_
        exact aw_iret (ty := .boolean) dL_law_221 rfl (by decide) ⟨_, rfl, h⟩
    by_cases c2 : ((g_xs Γ x3.toNatClampNeg) &&& (31 : Int32)) = (2 : Int32)
    · replace h := h.2.2.1 c2
      refine aw_tableIn (off := 189) (tgt := 222) dL_law_33 (by rw [c2]; decide) (by rw [c2]; decide) (by rw [c2]; decide) (by decide) ?_
      refine aw_aload_n dL_law_222 rfl ?_
      refine aw_callV (M' := M_X11_fault) (K := 11) (i := 0) (vs := []) (st := []) dL_law_223 mk_X11_fault mi_X11_fault ml_RL_23 mp_X11_fault rc_11 rm_L_law__X11_fault (Nat.le_of_ble_eq_true rfl) rfl (cw_mono h ?_)
      clear h
      rintro _ μ97 ⟨r98, rfl, h⟩
      show aw Γ M_L_law 226 [aR 65 0, aR 11 0, aR 12 0, aI x3] [aI r98] μ97 (rI Q)
      refine aw_aload_n dL_law_226 rfl ?_
      refine aw_callV (M' := M_X12_fault) (K := 12) (i := 0) (vs := []) (st := [aI r98]) dL_law_227 mk_X12_fault mi_X12_fault ml_RL_27 mp_X12_fault rc_12 rm_L_law__X12_fault (Nat.le_of_ble_eq_true rfl) rfl (cw_mono h ?_)
      clear h
      rintro _ μ99 ⟨r100, rfl, h⟩
      show aw Γ M_L_law 230 [aR 65 0, aR 11 0, aR 12 0, aI x3] [aI r100, aI r98] μ99 (rI Q)
      refine aw_icmp_eq (tgt := 862) dL_law_230 (by decide) (fun c0 => ?_) (fun c0 => ?_)
      · replace h := h.1 c0
        refine aw_iinc (v := x3 + (6 : Int32)) (ls' := [aR 65 0, aR 11 0, aR 12 0, aI (x3 + (6 : Int32))]) dL_law_862 rfl rfl (by decide) rfl rfl ?_
        refine aw_goto (tgt := 18) dL_law_865 (by decide) ?_
        exact h
      · replace h := h.2 c0
        refine aw_iconst (v := (0 : Int32)) dL_law_233 rfl ?_
        exact aw_iret (ty := .boolean) dL_law_234 rfl (by decide) ⟨_, rfl, h⟩
    by_cases c3 : ((g_xs Γ x3.toNatClampNeg) &&& (31 : Int32)) = (3 : Int32)
    · replace h := h.2.2.2.1 c3
      refine aw_tableIn (off := 202) (tgt := 235) dL_law_33 (by rw [c3]; decide) (by rw [c3]; decide) (by rw [c3]; decide) (by decide) ?_
      refine aw_aload_n dL_law_235 rfl ?_
      refine aw_callV (M' := M_X11_format) (K := 11) (i := 0) (vs := []) (st := []) dL_law_236 mk_X11_format mi_X11_format ml_RL_28 mp_X11_format rc_11 rm_L_law__X11_format (Nat.le_of_ble_eq_true rfl) rfl (cw_mono h ?_)
      clear h
      rintro _ μ101 ⟨r102, rfl, h⟩
      show aw Γ M_L_law 239 [aR 65 0, aR 11 0, aR 12 0, aI x3] [aI r102] μ101 (rI Q)
      refine aw_aload_n dL_law_239 rfl ?_
      refine aw_callV (M' := M_X12_format) (K := 12) (i := 0) (vs := []) (st := [aI r102]) dL_law_240 mk_X12_format mi_X12_format ml_RL_31 mp_X12_format rc_12 rm_L_law__X12_format (Nat.le_of_ble_eq_true rfl) rfl (cw_mono h ?_)
      clear h
      rintro _ μ103 ⟨r104, rfl, h⟩
      show aw Γ M_L_law 243 [aR 65 0, aR 11 0, aR 12 0, aI x3] [aI r104, aI r102] μ103 (rI Q)
      refine aw_icmp_eq (tgt := 862) dL_law_243 (by decide) (fun c0 => ?_) (fun c0 => ?_)
      · replace h := h.1 c0
        refine aw_iinc (v := x3 + (6 : Int32)) (ls' := [aR 65 0, aR 11 0, aR 12 0, aI (x3 + (6 : Int32))]) dL_law_862 rfl rfl (by decide) rfl rfl ?_
        refine aw_goto (tgt := 18) dL_law_865 (by decide) ?_
        exact h
      · replace h := h.2 c0
        refine aw_iconst (v := (0 : Int32)) dL_law_246 rfl ?_
        exact aw_iret (ty := .boolean) dL_law_247 rfl (by decide) ⟨_, rfl, h⟩
    by_cases c4 : ((g_xs Γ x3.toNatClampNeg) &&& (31 : Int32)) = (4 : Int32)
    · replace h := h.2.2.2.2.1 c4
      refine aw_tableIn (off := 215) (tgt := 248) dL_law_33 (by rw [c4]; decide) (by rw [c4]; decide) (by rw [c4]; decide) (by decide) ?_
      refine aw_aload_n dL_law_248 rfl ?_
      refine aw_aload_n dL_law_249 rfl ?_
      refine aw_iload_n dL_law_250 rfl ?_
      refine aw_iconst (v := (1 : Int32)) dL_law_251 rfl ?_
      refine aw_iadd dL_law_252 ?_
      refine aw_scI dL_law_253 hb0 h.1 ?_
      replace h := h.2
      refine aw_aload_n dL_law_254 rfl ?_
      refine aw_iload_n dL_law_255 rfl ?_
      refine aw_iconst (v := (2 : Int32)) dL_law_256 rfl ?_
      refine aw_iadd dL_law_257 ?_
      refine aw_scI dL_law_258 hb0 h.1 ?_
      replace h := h.2
      refine aw_aload_n dL_law_259 rfl ?_
      refine aw_iload_n dL_law_260 rfl ?_
      refine aw_iconst (v := (3 : Int32)) dL_law_261 rfl ?_
      refine aw_iadd dL_law_262 ?_
      refine aw_scI dL_law_263 hb0 h.1 ?_
      replace h := h.2
      refine aw_aload_n dL_law_264 rfl ?_
      refine aw_iload_n dL_law_265 rfl ?_
      refine aw_iconst (v := (4 : Int32)) dL_law_266 rfl ?_
      refine aw_iadd dL_law_267 ?_
      refine aw_scI dL_law_268 hb0 h.1 ?_
      replace h := h.2
      refine aw_aload_n dL_law_269 rfl ?_
      refine aw_iload_n dL_law_270 rfl ?_
      refine aw_iconst (v := (5 : Int32)) dL_law_271 rfl ?_
      refine aw_iadd dL_law_272 ?_
      refine aw_scI dL_law_273 hb0 h.1 ?_
      replace h := h.2
      refine aw_callV (M' := M_X11_flux) (K := 11) (i := 0) (vs := [aI (g_xs Γ (x3 + (1 : Int32)).toNatClampNeg), aI (g_xs Γ (x3 + (2 : Int32)).toNatClampNeg), aI (g_xs Γ (x3 + (3 : Int32)).toNatClampNeg), aI (g_xs Γ (x3 + (4 : Int32)).toNatClampNeg), aI (g_xs Γ (x3 + (5 : Int32)).toNatClampNeg)]) (st := []) dL_law_274 mk_X11_flux mi_X11_flux ml_RL_32 mp_X11_flux rc_11 rm_L_law__X11_flux (Nat.le_of_ble_eq_true rfl) rfl (cw_mono h ?_)
      clear h
      rintro _ μ105 ⟨r106, rfl, h⟩
      show aw Γ M_L_law 277 [aR 65 0, aR 11 0, aR 12 0, aI x3] [aI r106] μ105 (rI Q)
      refine aw_aload_n dL_law_277 rfl ?_
      refine aw_aload_n dL_law_278 rfl ?_
      refine aw_iload_n dL_law_279 rfl ?_
      refine aw_iconst (v := (1 : Int32)) dL_law_280 rfl ?_
      refine aw_iadd dL_law_281 ?_
      refine aw_scI dL_law_282 hb0 h.1 ?_
      replace h := h.2
      refine aw_aload_n dL_law_283 rfl ?_
      refine aw_iload_n dL_law_284 rfl ?_
      refine aw_iconst (v := (2 : Int32)) dL_law_285 rfl ?_
      refine aw_iadd dL_law_286 ?_
      refine aw_scI dL_law_287 hb0 h.1 ?_
      replace h := h.2
      refine aw_aload_n dL_law_288 rfl ?_
      refine aw_iload_n dL_law_289 rfl ?_
      refine aw_iconst (v := (3 : Int32)) dL_law_290 rfl ?_
      refine aw_iadd dL_law_291 ?_
      refine aw_scI dL_law_292 hb0 h.1 ?_
      replace h := h.2
      refine aw_aload_n dL_law_293 rfl ?_
      refine aw_iload_n dL_law_294 rfl ?_
      refine aw_iconst (v := (4 : Int32)) dL_law_295 rfl ?_
      refine aw_iadd dL_law_296 ?_
      refine aw_scI dL_law_297 hb0 h.1 ?_
      replace h := h.2
      refine aw_aload_n dL_law_298 rfl ?_
      refine aw_iload_n dL_law_299 rfl ?_
      refine aw_iconst (v := (5 : Int32)) dL_law_300 rfl ?_
      refine aw_iadd dL_law_301 ?_
      refine aw_scI dL_law_302 hb0 h.1 ?_
      replace h := h.2
      refine aw_callV (M' := M_X12_flux) (K := 12) (i := 0) (vs := [aI (g_xs Γ (x3 + (1 : Int32)).toNatClampNeg), aI (g_xs Γ (x3 + (2 : Int32)).toNatClampNeg), aI (g_xs Γ (x3 + (3 : Int32)).toNatClampNeg), aI (g_xs Γ (x3 + (4 : Int32)).toNatClampNeg), aI (g_xs Γ (x3 + (5 : Int32)).toNatClampNeg)]) (st := [aI r106]) dL_law_303 mk_X12_flux mi_X12_flux ml_RL_35 mp_X12_flux rc_12 rm_L_law__X12_flux (Nat.le_of_ble_eq_true rfl) rfl (cw_mono h ?_)
      clear h
      rintro _ μ107 ⟨r108, rfl, h⟩
      show aw Γ M_L_law 306 [aR 65 0, aR 11 0, aR 12 0, aI x3] [aI r108, aI r106] μ107 (rI Q)
      refine aw_icmp_eq (tgt := 862) dL_law_306 (by decide) (fun c0 => ?_) (fun c0 => ?_)
      · replace h := h.1 c0
        refine aw_iinc (v := x3 + (6 : Int32)) (ls' := [aR 65 0, aR 11 0, aR 12 0, aI (x3 + (6 : Int32))]) dL_law_862 rfl rfl (by decide) rfl rfl ?_
        refine aw_goto (tgt := 18) dL_law_865 (by decide) ?_
        exact h
      · replace h := h.2 c0
        refine aw_iconst (v := (0 : Int32)) dL_law_309 rfl ?_
        exact aw_iret (ty := .boolean) dL_law_310 rfl (by decide) ⟨_, rfl, h⟩
    by_cases c5 : ((g_xs Γ x3.toNatClampNeg) &&& (31 : Int32)) = (5 : Int32)
    · replace h := h.2.2.2.2.2.1 c5
      refine aw_tableIn (off := 278) (tgt := 311) dL_law_33 (by rw [c5]; decide) (by rw [c5]; decide) (by rw [c5]; decide) (by decide) ?_
      refine aw_aload_n dL_law_311 rfl ?_
      refine aw_callV (M' := M_X11_wipe) (K := 11) (i := 0) (vs := []) (st := []) dL_law_312 mk_X11_wipe mi_X11_wipe ml_RL_36 mp_X11_wipe rc_11 rm_L_law__X11_wipe (Nat.le_of_ble_eq_true rfl) rfl (cw_mono h ?_)
      clear h
      rintro _ μ109 ⟨r110, rfl, h⟩
      show aw Γ M_L_law 315 [aR 65 0, aR 11 0, aR 12 0, aI x3] [aI r110] μ109 (rI Q)
      refine aw_aload_n dL_law_315 rfl ?_
      refine aw_callV (M' := M_X12_wipe) (K := 12) (i := 0) (vs := []) (st := [aI r110]) dL_law_316 mk_X12_wipe mi_X12_wipe ml_RL_39 mp_X12_wipe rc_12 rm_L_law__X12_wipe (Nat.le_of_ble_eq_true rfl) rfl (cw_mono h ?_)
      clear h
      rintro _ μ111 ⟨r112, rfl, h⟩
      show aw Γ M_L_law 319 [aR 65 0, aR 11 0, aR 12 0, aI x3] [aI r112, aI r110] μ111 (rI Q)
      refine aw_icmp_eq (tgt := 862) dL_law_319 (by decide) (fun c0 => ?_) (fun c0 => ?_)
      · replace h := h.1 c0
        refine aw_iinc (v := x3 + (6 : Int32)) (ls' := [aR 65 0, aR 11 0, aR 12 0, aI (x3 + (6 : Int32))]) dL_law_862 rfl rfl (by decide) rfl rfl ?_
        refine aw_goto (tgt := 18) dL_law_865 (by decide) ?_
        exact h
      · replace h := h.2 c0
        refine aw_iconst (v := (0 : Int32)) dL_law_322 rfl ?_
        exact aw_iret (ty := .boolean) dL_law_323 rfl (by decide) ⟨_, rfl, h⟩
    by_cases c6 : ((g_xs Γ x3.toNatClampNeg) &&& (31 : Int32)) = (6 : Int32)
    · replace h := h.2.2.2.2.2.2.1 c6
      refine aw_tableIn (off := 291) (tgt := 324) dL_law_33 (by rw [c6]; decide) (by rw [c6]; decide) (by rw [c6]; decide) (by decide) ?_
      refine aw_aload_n dL_law_324 rfl ?_
      refine aw_aload_n dL_law_325 rfl ?_
      refine aw_iload_n dL_law_326 rfl ?_
      refine aw_iconst (v := (1 : Int32)) dL_law_327 rfl ?_
      refine aw_iadd dL_law_328 ?_
      refine aw_scI dL_law_329 hb0 h.1 ?_
      replace h := h.2
      refine aw_callV (M' := M_X11_read) (K := 11) (i := 0) (vs := [aI (g_xs Γ (x3 + (1 : Int32)).toNatClampNeg)]) (st := []) dL_law_330 mk_X11_read mi_X11_read ml_RL_40 mp_X11_read rc_11 rm_L_law__X11_read (Nat.le_of_ble_eq_true rfl) rfl (cw_mono h ?_)
      clear h
      rintro _ μ113 ⟨r114, rfl, h⟩
      show aw Γ M_L_law 333 [aR 65 0, aR 11 0, aR 12 0, aI x3] [aI r114] μ113 (rI Q)
      refine aw_aload_n dL_law_333 rfl ?_
      refine aw_aload_n dL_law_334 rfl ?_
      refine aw_iload_n dL_law_335 rfl ?_
      refine aw_iconst (v := (1 : Int32)) dL_law_336 rfl ?_
      refine aw_iadd dL_law_337 ?_
      refine aw_scI dL_law_338 hb0 h.1 ?_
      replace h := h.2
      refine aw_callV (M' := M_X12_read) (K := 12) (i := 0) (vs := [aI (g_xs Γ (x3 + (1 : Int32)).toNatClampNeg)]) (st := [aI r114]) dL_law_339 mk_X12_read mi_X12_read ml_RL_44 mp_X12_read rc_12 rm_L_law__X12_read (Nat.le_of_ble_eq_true rfl) rfl (cw_mono h ?_)
      clear h
      rintro _ μ115 ⟨r116, rfl, h⟩
      show aw Γ M_L_law 342 [aR 65 0, aR 11 0, aR 12 0, aI x3] [aI r116, aI r114] μ115 (rI Q)
      refine aw_icmp_eq (tgt := 862) dL_law_342 (by decide) (fun c0 => ?_) (fun c0 => ?_)
      · replace h := h.1 c0
        refine aw_iinc (v := x3 + (6 : Int32)) (ls' := [aR 65 0, aR 11 0, aR 12 0, aI (x3 + (6 : Int32))]) dL_law_862 rfl rfl (by decide) rfl rfl ?_
        refine aw_goto (tgt := 18) dL_law_865 (by decide) ?_
        exact h
      · replace h := h.2 c0
        refine aw_iconst (v := (0 : Int32)) dL_law_345 rfl ?_
        exact aw_iret (ty := .boolean) dL_law_346 rfl (by decide) ⟨_, rfl, h⟩
    by_cases c7 : ((g_xs Γ x3.toNatClampNeg) &&& (31 : Int32)) = (7 : Int32)
    · replace h := h.2.2.2.2.2.2.2.1 c7
      refine aw_tableIn (off := 314) (tgt := 347) dL_law_33 (by rw [c7]; decide) (by rw [c7]; decide) (by rw [c7]; decide) (by decide) ?_
      refine aw_aload_n dL_law_347 rfl ?_
      refine aw_aload_n dL_law_348 rfl ?_
      refine aw_iload_n dL_law_349 rfl ?_
      refine aw_iconst (v := (1 : Int32)) dL_law_350 rfl ?_
      refine aw_iadd dL_law_351 ?_
      refine aw_scI dL_law_352 hb0 h.1 ?_
      replace h := h.2
      refine aw_aload_n dL_law_353 rfl ?_
      refine aw_iload_n dL_law_354 rfl ?_
      refine aw_iconst (v := (2 : Int32)) dL_law_355 rfl ?_
      refine aw_iadd dL_law_356 ?_
      refine aw_scI dL_law_357 hb0 h.1 ?_
      replace h := h.2
      refine aw_aload_n dL_law_358 rfl ?_
      refine aw_iload_n dL_law_359 rfl ?_
      refine aw_iconst (v := (3 : Int32)) dL_law_360 rfl ?_
      refine aw_iadd dL_law_361 ?_
      refine aw_scI dL_law_362 hb0 h.1 ?_
      replace h := h.2
      refine aw_callV (M' := M_X11_raw) (K := 11) (i := 0) (vs := [aI (g_xs Γ (x3 + (1 : Int32)).toNatClampNeg), aI (g_xs Γ (x3 + (2 : Int32)).toNatClampNeg), aI (g_xs Γ (x3 + (3 : Int32)).toNatClampNeg)]) (st := []) dL_law_363 mk_X11_raw mi_X11_raw ml_RL_45 mp_X11_raw rc_11 rm_L_law__X11_raw (Nat.le_of_ble_eq_true rfl) rfl (cw_mono h ?_)
      clear h
      rintro _ μ117 ⟨r118, rfl, h⟩
      show aw Γ M_L_law 366 [aR 65 0, aR 11 0, aR 12 0, aI x3] [aI r118] μ117 (rI Q)
      refine aw_aload_n dL_law_366 rfl ?_
      refine aw_aload_n dL_law_367 rfl ?_
      refine aw_iload_n dL_law_368 rfl ?_
      refine aw_iconst (v := (1 : Int32)) dL_law_369 rfl ?_
      refine aw_iadd dL_law_370 ?_
      refine aw_scI dL_law_371 hb0 h.1 ?_
      replace h := h.2
      refine aw_aload_n dL_law_372 rfl ?_
      refine aw_iload_n dL_law_373 rfl ?_
      refine aw_iconst (v := (2 : Int32)) dL_law_374 rfl ?_
      refine aw_iadd dL_law_375 ?_
      refine aw_scI dL_law_376 hb0 h.1 ?_
      replace h := h.2
      refine aw_aload_n dL_law_377 rfl ?_
      refine aw_iload_n dL_law_378 rfl ?_
      refine aw_iconst (v := (3 : Int32)) dL_law_379 rfl ?_
      refine aw_iadd dL_law_380 ?_
      refine aw_scI dL_law_381 hb0 h.1 ?_
      replace h := h.2
      refine aw_callV (M' := M_X12_raw) (K := 12) (i := 0) (vs := [aI (g_xs Γ (x3 + (1 : Int32)).toNatClampNeg), aI (g_xs Γ (x3 + (2 : Int32)).toNatClampNeg), aI (g_xs Γ (x3 + (3 : Int32)).toNatClampNeg)]) (st := [aI r118]) dL_law_382 mk_X12_raw mi_X12_raw ml_RL_49 mp_X12_raw rc_12 rm_L_law__X12_raw (Nat.le_of_ble_eq_true rfl) rfl (cw_mono h ?_)
      clear h
      rintro _ μ119 ⟨r120, rfl, h⟩
      show aw Γ M_L_law 385 [aR 65 0, aR 11 0, aR 12 0, aI x3] [aI r120, aI r118] μ119 (rI Q)
      refine aw_icmp_eq (tgt := 862) dL_law_385 (by decide) (fun c0 => ?_) (fun c0 => ?_)
      · replace h := h.1 c0
        refine aw_iinc (v := x3 + (6 : Int32)) (ls' := [aR 65 0, aR 11 0, aR 12 0, aI (x3 + (6 : Int32))]) dL_law_862 rfl rfl (by decide) rfl rfl ?_
        refine aw_goto (tgt := 18) dL_law_865 (by decide) ?_
        exact h
      · replace h := h.2 c0
        refine aw_iconst (v := (0 : Int32)) dL_law_388 rfl ?_
        exact aw_iret (ty := .boolean) dL_law_389 rfl (by decide) ⟨_, rfl, h⟩
    by_cases c8 : ((g_xs Γ x3.toNatClampNeg) &&& (31 : Int32)) = (8 : Int32)
    · replace h := h.2.2.2.2.2.2.2.2.1 c8
      refine aw_tableIn (off := 357) (tgt := 390) dL_law_33 (by rw [c8]; decide) (by rw [c8]; decide) (by rw [c8]; decide) (by decide) ?_
      refine aw_aload_n dL_law_390 rfl ?_
      refine aw_aload_n dL_law_391 rfl ?_
      refine aw_iload_n dL_law_392 rfl ?_
      refine aw_iconst (v := (1 : Int32)) dL_law_393 rfl ?_
      refine aw_iadd dL_law_394 ?_
      refine aw_scI dL_law_395 hb0 h.1 ?_
      replace h := h.2
      refine aw_aload_n dL_law_396 rfl ?_
      refine aw_iload_n dL_law_397 rfl ?_
      refine aw_iconst (v := (2 : Int32)) dL_law_398 rfl ?_
      refine aw_iadd dL_law_399 ?_
      refine aw_scI dL_law_400 hb0 h.1 ?_
      replace h := h.2
      refine aw_aload_n dL_law_401 rfl ?_
      refine aw_iload_n dL_law_402 rfl ?_
      refine aw_iconst (v := (3 : Int32)) dL_law_403 rfl ?_
      refine aw_iadd dL_law_404 ?_
      refine aw_scI dL_law_405 hb0 h.1 ?_
      replace h := h.2
      refine aw_callV (M' := M_X11_found) (K := 11) (i := 0) (vs := [aI (g_xs Γ (x3 + (1 : Int32)).toNatClampNeg), aI (g_xs Γ (x3 + (2 : Int32)).toNatClampNeg), aI (g_xs Γ (x3 + (3 : Int32)).toNatClampNeg)]) (st := []) dL_law_406 mk_X11_found mi_X11_found ml_RL_50 mp_X11_found rc_11 rm_L_law__X11_found (Nat.le_of_ble_eq_true rfl) rfl (cw_mono h ?_)
      clear h
      rintro _ μ121 ⟨r122, rfl, h⟩
      show aw Γ M_L_law 409 [aR 65 0, aR 11 0, aR 12 0, aI x3] [aI r122] μ121 (rI Q)
      refine aw_aload_n dL_law_409 rfl ?_
      refine aw_aload_n dL_law_410 rfl ?_
      refine aw_iload_n dL_law_411 rfl ?_
      refine aw_iconst (v := (1 : Int32)) dL_law_412 rfl ?_
      refine aw_iadd dL_law_413 ?_
      refine aw_scI dL_law_414 hb0 h.1 ?_
      replace h := h.2
      refine aw_aload_n dL_law_415 rfl ?_
      refine aw_iload_n dL_law_416 rfl ?_
      refine aw_iconst (v := (2 : Int32)) dL_law_417 rfl ?_
      refine aw_iadd dL_law_418 ?_
      refine aw_scI dL_law_419 hb0 h.1 ?_
      replace h := h.2
      refine aw_aload_n dL_law_420 rfl ?_
      refine aw_iload_n dL_law_421 rfl ?_
      refine aw_iconst (v := (3 : Int32)) dL_law_422 rfl ?_
      refine aw_iadd dL_law_423 ?_
      refine aw_scI dL_law_424 hb0 h.1 ?_
      replace h := h.2
      refine aw_callV (M' := M_X12_found) (K := 12) (i := 0) (vs := [aI (g_xs Γ (x3 + (1 : Int32)).toNatClampNeg), aI (g_xs Γ (x3 + (2 : Int32)).toNatClampNeg), aI (g_xs Γ (x3 + (3 : Int32)).toNatClampNeg)]) (st := [aI r122]) dL_law_425 mk_X12_found mi_X12_found ml_RL_53 mp_X12_found rc_12 rm_L_law__X12_found (Nat.le_of_ble_eq_true rfl) rfl (cw_mono h ?_)
      clear h
      rintro _ μ123 ⟨r124, rfl, h⟩
      show aw Γ M_L_law 428 [aR 65 0, aR 11 0, aR 12 0, aI x3] [aI r124, aI r122] μ123 (rI Q)
      refine aw_icmp_eq (tgt := 862) dL_law_428 (by decide) (fun c0 => ?_) (fun c0 => ?_)
      · replace h := h.1 c0
        refine aw_iinc (v := x3 + (6 : Int32)) (ls' := [aR 65 0, aR 11 0, aR 12 0, aI (x3 + (6 : Int32))]) dL_law_862 rfl rfl (by decide) rfl rfl ?_
        refine aw_goto (tgt := 18) dL_law_865 (by decide) ?_
        exact h
      · replace h := h.2 c0
        refine aw_iconst (v := (0 : Int32)) dL_law_431 rfl ?_
        exact aw_iret (ty := .boolean) dL_law_432 rfl (by decide) ⟨_, rfl, h⟩
    by_cases c9 : ((g_xs Γ x3.toNatClampNeg) &&& (31 : Int32)) = (9 : Int32)
    · replace h := h.2.2.2.2.2.2.2.2.2.1 c9
      refine aw_tableIn (off := 400) (tgt := 433) dL_law_33 (by rw [c9]; decide) (by rw [c9]; decide) (by rw [c9]; decide) (by decide) ?_
      refine aw_aload_n dL_law_433 rfl ?_
      refine aw_aload_n dL_law_434 rfl ?_
      refine aw_iload_n dL_law_435 rfl ?_
      refine aw_iconst (v := (1 : Int32)) dL_law_436 rfl ?_
      refine aw_iadd dL_law_437 ?_
      refine aw_scI dL_law_438 hb0 h.1 ?_
      replace h := h.2
      refine aw_aload_n dL_law_439 rfl ?_
      refine aw_iload_n dL_law_440 rfl ?_
      refine aw_iconst (v := (2 : Int32)) dL_law_441 rfl ?_
      refine aw_iadd dL_law_442 ?_
      refine aw_scI dL_law_443 hb0 h.1 ?_
      replace h := h.2
      refine aw_callV (M' := M_X11_tuned) (K := 11) (i := 0) (vs := [aI (g_xs Γ (x3 + (1 : Int32)).toNatClampNeg), aI (g_xs Γ (x3 + (2 : Int32)).toNatClampNeg)]) (st := []) dL_law_444 mk_X11_tuned mi_X11_tuned ml_RL_54 mp_X11_tuned rc_11 rm_L_law__X11_tuned (Nat.le_of_ble_eq_true rfl) rfl (cw_mono h ?_)
      clear h
      rintro _ μ125 ⟨r126, rfl, h⟩
      show aw Γ M_L_law 447 [aR 65 0, aR 11 0, aR 12 0, aI x3] [aI r126] μ125 (rI Q)
      refine aw_aload_n dL_law_447 rfl ?_
      refine aw_aload_n dL_law_448 rfl ?_
      refine aw_iload_n dL_law_449 rfl ?_
      refine aw_iconst (v := (1 : Int32)) dL_law_450 rfl ?_
      refine aw_iadd dL_law_451 ?_
      refine aw_scI dL_law_452 hb0 h.1 ?_
      replace h := h.2
      refine aw_aload_n dL_law_453 rfl ?_
      refine aw_iload_n dL_law_454 rfl ?_
      refine aw_iconst (v := (2 : Int32)) dL_law_455 rfl ?_
      refine aw_iadd dL_law_456 ?_
      refine aw_scI dL_law_457 hb0 h.1 ?_
      replace h := h.2
      refine aw_callV (M' := M_X12_tuned) (K := 12) (i := 0) (vs := [aI (g_xs Γ (x3 + (1 : Int32)).toNatClampNeg), aI (g_xs Γ (x3 + (2 : Int32)).toNatClampNeg)]) (st := [aI r126]) dL_law_458 mk_X12_tuned mi_X12_tuned ml_RL_58 mp_X12_tuned rc_12 rm_L_law__X12_tuned (Nat.le_of_ble_eq_true rfl) rfl (cw_mono h ?_)
      clear h
      rintro _ μ127 ⟨r128, rfl, h⟩
      show aw Γ M_L_law 461 [aR 65 0, aR 11 0, aR 12 0, aI x3] [aI r128, aI r126] μ127 (rI Q)
      refine aw_icmp_eq (tgt := 862) dL_law_461 (by decide) (fun c0 => ?_) (fun c0 => ?_)
      · replace h := h.1 c0
        refine aw_iinc (v := x3 + (6 : Int32)) (ls' := [aR 65 0, aR 11 0, aR 12 0, aI (x3 + (6 : Int32))]) dL_law_862 rfl rfl (by decide) rfl rfl ?_
        refine aw_goto (tgt := 18) dL_law_865 (by decide) ?_
        exact h
      · replace h := h.2 c0
        refine aw_iconst (v := (0 : Int32)) dL_law_464 rfl ?_
        exact aw_iret (ty := .boolean) dL_law_465 rfl (by decide) ⟨_, rfl, h⟩
    by_cases c10 : ((g_xs Γ x3.toNatClampNeg) &&& (31 : Int32)) = (10 : Int32)
    · replace h := h.2.2.2.2.2.2.2.2.2.2.1 c10
      refine aw_tableIn (off := 433) (tgt := 466) dL_law_33 (by rw [c10]; decide) (by rw [c10]; decide) (by rw [c10]; decide) (by decide) ?_
      refine aw_aload_n dL_law_466 rfl ?_
      refine aw_aload_n dL_law_467 rfl ?_
      refine aw_iload_n dL_law_468 rfl ?_
      refine aw_iconst (v := (1 : Int32)) dL_law_469 rfl ?_
      refine aw_iadd dL_law_470 ?_
      refine aw_scI dL_law_471 hb0 h.1 ?_
      replace h := h.2
      refine aw_aload_n dL_law_472 rfl ?_
      refine aw_iload_n dL_law_473 rfl ?_
      refine aw_iconst (v := (2 : Int32)) dL_law_474 rfl ?_
      refine aw_iadd dL_law_475 ?_
      refine aw_scI dL_law_476 hb0 h.1 ?_
      replace h := h.2
      refine aw_aload_n dL_law_477 rfl ?_
      refine aw_iload_n dL_law_478 rfl ?_
      refine aw_iconst (v := (3 : Int32)) dL_law_479 rfl ?_
      refine aw_iadd dL_law_480 ?_
      refine aw_scI dL_law_481 hb0 h.1 ?_
      replace h := h.2
      refine aw_callV (M' := M_X11_status) (K := 11) (i := 0) (vs := [aI (g_xs Γ (x3 + (1 : Int32)).toNatClampNeg), aI (g_xs Γ (x3 + (2 : Int32)).toNatClampNeg), aI (g_xs Γ (x3 + (3 : Int32)).toNatClampNeg)]) (st := []) dL_law_482 mk_X11_status mi_X11_status ml_RL_59 mp_X11_status rc_11 rm_L_law__X11_status (Nat.le_of_ble_eq_true rfl) rfl (cw_mono h ?_)
      clear h
      rintro _ μ129 ⟨r130, rfl, h⟩
      show aw Γ M_L_law 485 [aR 65 0, aR 11 0, aR 12 0, aI x3] [aI r130] μ129 (rI Q)
      refine aw_aload_n dL_law_485 rfl ?_
      refine aw_aload_n dL_law_486 rfl ?_
      refine aw_iload_n dL_law_487 rfl ?_
      refine aw_iconst (v := (1 : Int32)) dL_law_488 rfl ?_
      refine aw_iadd dL_law_489 ?_
      refine aw_scI dL_law_490 hb0 h.1 ?_
      replace h := h.2
      refine aw_aload_n dL_law_491 rfl ?_
      refine aw_iload_n dL_law_492 rfl ?_
      refine aw_iconst (v := (2 : Int32)) dL_law_493 rfl ?_
      refine aw_iadd dL_law_494 ?_
      refine aw_scI dL_law_495 hb0 h.1 ?_
      replace h := h.2
      refine aw_aload_n dL_law_496 rfl ?_
      refine aw_iload_n dL_law_497 rfl ?_
      refine aw_iconst (v := (3 : Int32)) dL_law_498 rfl ?_
      refine aw_iadd dL_law_499 ?_
      refine aw_scI dL_law_500 hb0 h.1 ?_
      replace h := h.2
      refine aw_callV (M' := M_X12_status) (K := 12) (i := 0) (vs := [aI (g_xs Γ (x3 + (1 : Int32)).toNatClampNeg), aI (g_xs Γ (x3 + (2 : Int32)).toNatClampNeg), aI (g_xs Γ (x3 + (3 : Int32)).toNatClampNeg)]) (st := [aI r130]) dL_law_501 mk_X12_status mi_X12_status ml_RL_62 mp_X12_status rc_12 rm_L_law__X12_status (Nat.le_of_ble_eq_true rfl) rfl (cw_mono h ?_)
      clear h
      rintro _ μ131 ⟨r132, rfl, h⟩
      show aw Γ M_L_law 504 [aR 65 0, aR 11 0, aR 12 0, aI x3] [aI r132, aI r130] μ131 (rI Q)
      refine aw_icmp_eq (tgt := 862) dL_law_504 (by decide) (fun c0 => ?_) (fun c0 => ?_)
      · replace h := h.1 c0
        refine aw_iinc (v := x3 + (6 : Int32)) (ls' := [aR 65 0, aR 11 0, aR 12 0, aI (x3 + (6 : Int32))]) dL_law_862 rfl rfl (by decide) rfl rfl ?_
        refine aw_goto (tgt := 18) dL_law_865 (by decide) ?_
        exact h
      · replace h := h.2 c0
        refine aw_iconst (v := (0 : Int32)) dL_law_507 rfl ?_
        exact aw_iret (ty := .boolean) dL_law_508 rfl (by decide) ⟨_, rfl, h⟩
    by_cases c11 : ((g_xs Γ x3.toNatClampNeg) &&& (31 : Int32)) = (11 : Int32)
    · replace h := h.2.2.2.2.2.2.2.2.2.2.2.1 c11
      refine aw_tableIn (off := 476) (tgt := 509) dL_law_33 (by rw [c11]; decide) (by rw [c11]; decide) (by rw [c11]; decide) (by decide) ?_
      refine aw_aload_n dL_law_509 rfl ?_
      refine aw_aload_n dL_law_510 rfl ?_
      refine aw_iload_n dL_law_511 rfl ?_
      refine aw_iconst (v := (1 : Int32)) dL_law_512 rfl ?_
      refine aw_iadd dL_law_513 ?_
      refine aw_scI dL_law_514 hb0 h.1 ?_
      replace h := h.2
      refine aw_aload_n dL_law_515 rfl ?_
      refine aw_iload_n dL_law_516 rfl ?_
      refine aw_iconst (v := (2 : Int32)) dL_law_517 rfl ?_
      refine aw_iadd dL_law_518 ?_
      refine aw_scI dL_law_519 hb0 h.1 ?_
      replace h := h.2
      refine aw_aload_n dL_law_520 rfl ?_
      refine aw_iload_n dL_law_521 rfl ?_
      refine aw_iconst (v := (3 : Int32)) dL_law_522 rfl ?_
      refine aw_iadd dL_law_523 ?_
      refine aw_scI dL_law_524 hb0 h.1 ?_
      replace h := h.2
      refine aw_callV (M' := M_X11_value) (K := 11) (i := 0) (vs := [aI (g_xs Γ (x3 + (1 : Int32)).toNatClampNeg), aI (g_xs Γ (x3 + (2 : Int32)).toNatClampNeg), aI (g_xs Γ (x3 + (3 : Int32)).toNatClampNeg)]) (st := []) dL_law_525 mk_X11_value mi_X11_value ml_RL_63 mp_X11_value rc_11 rm_L_law__X11_value (Nat.le_of_ble_eq_true rfl) rfl (cw_mono h ?_)
      clear h
      rintro _ μ133 ⟨r134, rfl, h⟩
      show aw Γ M_L_law 528 [aR 65 0, aR 11 0, aR 12 0, aI x3] [aI r134] μ133 (rI Q)
      refine aw_aload_n dL_law_528 rfl ?_
      refine aw_aload_n dL_law_529 rfl ?_
      refine aw_iload_n dL_law_530 rfl ?_
      refine aw_iconst (v := (1 : Int32)) dL_law_531 rfl ?_
      refine aw_iadd dL_law_532 ?_
      refine aw_scI dL_law_533 hb0 h.1 ?_
      replace h := h.2
      refine aw_aload_n dL_law_534 rfl ?_
      refine aw_iload_n dL_law_535 rfl ?_
      refine aw_iconst (v := (2 : Int32)) dL_law_536 rfl ?_
      refine aw_iadd dL_law_537 ?_
      refine aw_scI dL_law_538 hb0 h.1 ?_
      replace h := h.2
      refine aw_aload_n dL_law_539 rfl ?_
      refine aw_iload_n dL_law_540 rfl ?_
      refine aw_iconst (v := (3 : Int32)) dL_law_541 rfl ?_
      refine aw_iadd dL_law_542 ?_
      refine aw_scI dL_law_543 hb0 h.1 ?_
      replace h := h.2
      refine aw_callV (M' := M_X12_value) (K := 12) (i := 0) (vs := [aI (g_xs Γ (x3 + (1 : Int32)).toNatClampNeg), aI (g_xs Γ (x3 + (2 : Int32)).toNatClampNeg), aI (g_xs Γ (x3 + (3 : Int32)).toNatClampNeg)]) (st := [aI r134]) dL_law_544 mk_X12_value mi_X12_value ml_RL_66 mp_X12_value rc_12 rm_L_law__X12_value (Nat.le_of_ble_eq_true rfl) rfl (cw_mono h ?_)
      clear h
      rintro _ μ135 ⟨r136, rfl, h⟩
      show aw Γ M_L_law 547 [aR 65 0, aR 11 0, aR 12 0, aI x3] [aI r136, aI r134] μ135 (rI Q)
      refine aw_icmp_eq (tgt := 862) dL_law_547 (by decide) (fun c0 => ?_) (fun c0 => ?_)
      · replace h := h.1 c0
        refine aw_iinc (v := x3 + (6 : Int32)) (ls' := [aR 65 0, aR 11 0, aR 12 0, aI (x3 + (6 : Int32))]) dL_law_862 rfl rfl (by decide) rfl rfl ?_
        refine aw_goto (tgt := 18) dL_law_865 (by decide) ?_
        exact h
      · replace h := h.2 c0
        refine aw_iconst (v := (0 : Int32)) dL_law_550 rfl ?_
        exact aw_iret (ty := .boolean) dL_law_551 rfl (by decide) ⟨_, rfl, h⟩
    by_cases c12 : ((g_xs Γ x3.toNatClampNeg) &&& (31 : Int32)) = (12 : Int32)
    · replace h := h.2.2.2.2.2.2.2.2.2.2.2.2.1 c12
      refine aw_tableIn (off := 519) (tgt := 552) dL_law_33 (by rw [c12]; decide) (by rw [c12]; decide) (by rw [c12]; decide) (by decide) ?_
      refine aw_aload_n dL_law_552 rfl ?_
      refine aw_aload_n dL_law_553 rfl ?_
      refine aw_iload_n dL_law_554 rfl ?_
      refine aw_iconst (v := (1 : Int32)) dL_law_555 rfl ?_
      refine aw_iadd dL_law_556 ?_
      refine aw_scI dL_law_557 hb0 h.1 ?_
      replace h := h.2
      refine aw_aload_n dL_law_558 rfl ?_
      refine aw_iload_n dL_law_559 rfl ?_
      refine aw_iconst (v := (2 : Int32)) dL_law_560 rfl ?_
      refine aw_iadd dL_law_561 ?_
      refine aw_scI dL_law_562 hb0 h.1 ?_
      replace h := h.2
      refine aw_aload_n dL_law_563 rfl ?_
      refine aw_iload_n dL_law_564 rfl ?_
      refine aw_iconst (v := (3 : Int32)) dL_law_565 rfl ?_
      refine aw_iadd dL_law_566 ?_
      refine aw_scI dL_law_567 hb0 h.1 ?_
      replace h := h.2
      refine aw_callV (M' := M_X11_tell) (K := 11) (i := 0) (vs := [aI (g_xs Γ (x3 + (1 : Int32)).toNatClampNeg), aI (g_xs Γ (x3 + (2 : Int32)).toNatClampNeg), aI (g_xs Γ (x3 + (3 : Int32)).toNatClampNeg)]) (st := []) dL_law_568 mk_X11_tell mi_X11_tell ml_RL_67 mp_X11_tell rc_11 rm_L_law__X11_tell (Nat.le_of_ble_eq_true rfl) rfl (cw_mono h ?_)
      clear h
      rintro _ μ137 ⟨r138, rfl, h⟩
      show aw Γ M_L_law 571 [aR 65 0, aR 11 0, aR 12 0, aI x3] [aI r138] μ137 (rI Q)
      refine aw_aload_n dL_law_571 rfl ?_
      refine aw_aload_n dL_law_572 rfl ?_
      refine aw_iload_n dL_law_573 rfl ?_
      refine aw_iconst (v := (1 : Int32)) dL_law_574 rfl ?_
      refine aw_iadd dL_law_575 ?_
      refine aw_scI dL_law_576 hb0 h.1 ?_
      replace h := h.2
      refine aw_aload_n dL_law_577 rfl ?_
      refine aw_iload_n dL_law_578 rfl ?_
      refine aw_iconst (v := (2 : Int32)) dL_law_579 rfl ?_
      refine aw_iadd dL_law_580 ?_
      refine aw_scI dL_law_581 hb0 h.1 ?_
      replace h := h.2
      refine aw_aload_n dL_law_582 rfl ?_
      refine aw_iload_n dL_law_583 rfl ?_
      refine aw_iconst (v := (3 : Int32)) dL_law_584 rfl ?_
      refine aw_iadd dL_law_585 ?_
      refine aw_scI dL_law_586 hb0 h.1 ?_
      replace h := h.2
      refine aw_callV (M' := M_X12_tell) (K := 12) (i := 0) (vs := [aI (g_xs Γ (x3 + (1 : Int32)).toNatClampNeg), aI (g_xs Γ (x3 + (2 : Int32)).toNatClampNeg), aI (g_xs Γ (x3 + (3 : Int32)).toNatClampNeg)]) (st := [aI r138]) dL_law_587 mk_X12_tell mi_X12_tell ml_RL_71 mp_X12_tell rc_12 rm_L_law__X12_tell (Nat.le_of_ble_eq_true rfl) rfl (cw_mono h ?_)
      clear h
      rintro _ μ139 ⟨r140, rfl, h⟩
      show aw Γ M_L_law 590 [aR 65 0, aR 11 0, aR 12 0, aI x3] [aI r140, aI r138] μ139 (rI Q)
      refine aw_icmp_eq (tgt := 862) dL_law_590 (by decide) (fun c0 => ?_) (fun c0 => ?_)
      · replace h := h.1 c0
        refine aw_iinc (v := x3 + (6 : Int32)) (ls' := [aR 65 0, aR 11 0, aR 12 0, aI (x3 + (6 : Int32))]) dL_law_862 rfl rfl (by decide) rfl rfl ?_
        refine aw_goto (tgt := 18) dL_law_865 (by decide) ?_
        exact h
      · replace h := h.2 c0
        refine aw_iconst (v := (0 : Int32)) dL_law_593 rfl ?_
        exact aw_iret (ty := .boolean) dL_law_594 rfl (by decide) ⟨_, rfl, h⟩
    by_cases c13 : ((g_xs Γ x3.toNatClampNeg) &&& (31 : Int32)) = (13 : Int32)
    · replace h := h.2.2.2.2.2.2.2.2.2.2.2.2.2.1 c13
      refine aw_tableIn (off := 562) (tgt := 595) dL_law_33 (by rw [c13]; decide) (by rw [c13]; decide) (by rw [c13]; decide) (by decide) ?_
      refine aw_aload_n dL_law_595 rfl ?_
      refine aw_aload_n dL_law_596 rfl ?_
      refine aw_iload_n dL_law_597 rfl ?_
      refine aw_iconst (v := (1 : Int32)) dL_law_598 rfl ?_
      refine aw_iadd dL_law_599 ?_
      refine aw_scI dL_law_600 hb0 h.1 ?_
      replace h := h.2
      refine aw_aload_n dL_law_601 rfl ?_
      refine aw_iload_n dL_law_602 rfl ?_
      refine aw_iconst (v := (2 : Int32)) dL_law_603 rfl ?_
      refine aw_iadd dL_law_604 ?_
      refine aw_scI dL_law_605 hb0 h.1 ?_
      replace h := h.2
      refine aw_callV (M' := M_X11_file) (K := 11) (i := 0) (vs := [aI (g_xs Γ (x3 + (1 : Int32)).toNatClampNeg), aI (g_xs Γ (x3 + (2 : Int32)).toNatClampNeg)]) (st := []) dL_law_606 mk_X11_file mi_X11_file ml_RL_72 mp_X11_file rc_11 rm_L_law__X11_file (Nat.le_of_ble_eq_true rfl) rfl (cw_mono h ?_)
      clear h
      rintro _ μ141 ⟨r142, rfl, h⟩
      show aw Γ M_L_law 609 [aR 65 0, aR 11 0, aR 12 0, aI x3] [aI r142] μ141 (rI Q)
      refine aw_aload_n dL_law_609 rfl ?_
      refine aw_aload_n dL_law_610 rfl ?_
      refine aw_iload_n dL_law_611 rfl ?_
      refine aw_iconst (v := (1 : Int32)) dL_law_612 rfl ?_
      refine aw_iadd dL_law_613 ?_
      refine aw_scI dL_law_614 hb0 h.1 ?_
      replace h := h.2
      refine aw_aload_n dL_law_615 rfl ?_
      refine aw_iload_n dL_law_616 rfl ?_
      refine aw_iconst (v := (2 : Int32)) dL_law_617 rfl ?_
      refine aw_iadd dL_law_618 ?_
      refine aw_scI dL_law_619 hb0 h.1 ?_
      replace h := h.2
      refine aw_callV (M' := M_X12_file) (K := 12) (i := 0) (vs := [aI (g_xs Γ (x3 + (1 : Int32)).toNatClampNeg), aI (g_xs Γ (x3 + (2 : Int32)).toNatClampNeg)]) (st := [aI r142]) dL_law_620 mk_X12_file mi_X12_file ml_RL_75 mp_X12_file rc_12 rm_L_law__X12_file (Nat.le_of_ble_eq_true rfl) rfl (cw_mono h ?_)
      clear h
      rintro _ μ143 ⟨r144, rfl, h⟩
      show aw Γ M_L_law 623 [aR 65 0, aR 11 0, aR 12 0, aI x3] [aI r144, aI r142] μ143 (rI Q)
      refine aw_icmp_eq (tgt := 862) dL_law_623 (by decide) (fun c0 => ?_) (fun c0 => ?_)
      · replace h := h.1 c0
        refine aw_iinc (v := x3 + (6 : Int32)) (ls' := [aR 65 0, aR 11 0, aR 12 0, aI (x3 + (6 : Int32))]) dL_law_862 rfl rfl (by decide) rfl rfl ?_
        refine aw_goto (tgt := 18) dL_law_865 (by decide) ?_
        exact h
      · replace h := h.2 c0
        refine aw_iconst (v := (0 : Int32)) dL_law_626 rfl ?_
        exact aw_iret (ty := .boolean) dL_law_627 rfl (by decide) ⟨_, rfl, h⟩
    by_cases c14 : ((g_xs Γ x3.toNatClampNeg) &&& (31 : Int32)) = (14 : Int32)
    · replace h := h.2.2.2.2.2.2.2.2.2.2.2.2.2.2.1 c14
      refine aw_tableIn (off := 595) (tgt := 628) dL_law_33 (by rw [c14]; decide) (by rw [c14]; decide) (by rw [c14]; decide) (by decide) ?_
      refine aw_aload_n dL_law_628 rfl ?_
      refine aw_aload_n dL_law_629 rfl ?_
      refine aw_iload_n dL_law_630 rfl ?_
      refine aw_iconst (v := (1 : Int32)) dL_law_631 rfl ?_
      refine aw_iadd dL_law_632 ?_
      refine aw_scI dL_law_633 hb0 h.1 ?_
      replace h := h.2
      refine aw_callV (M' := M_X11_mishaps) (K := 11) (i := 0) (vs := [aI (g_xs Γ (x3 + (1 : Int32)).toNatClampNeg)]) (st := []) dL_law_634 mk_X11_mishaps mi_X11_mishaps ml_RL_76 mp_X11_mishaps rc_11 rm_L_law__X11_mishaps (Nat.le_of_ble_eq_true rfl) rfl (cw_mono h ?_)
      clear h
      rintro _ μ145 ⟨r146, rfl, h⟩
      show aw Γ M_L_law 637 [aR 65 0, aR 11 0, aR 12 0, aI x3] [aI r146] μ145 (rI Q)
      refine aw_aload_n dL_law_637 rfl ?_
      refine aw_aload_n dL_law_638 rfl ?_
      refine aw_iload_n dL_law_639 rfl ?_
      refine aw_iconst (v := (1 : Int32)) dL_law_640 rfl ?_
      refine aw_iadd dL_law_641 ?_
      refine aw_scI dL_law_642 hb0 h.1 ?_
      replace h := h.2
      refine aw_callV (M' := M_X12_mishaps) (K := 12) (i := 0) (vs := [aI (g_xs Γ (x3 + (1 : Int32)).toNatClampNeg)]) (st := [aI r146]) dL_law_643 mk_X12_mishaps mi_X12_mishaps ml_RL_79 mp_X12_mishaps rc_12 rm_L_law__X12_mishaps (Nat.le_of_ble_eq_true rfl) rfl (cw_mono h ?_)
      clear h
      rintro _ μ147 ⟨r148, rfl, h⟩
      show aw Γ M_L_law 646 [aR 65 0, aR 11 0, aR 12 0, aI x3] [aI r148, aI r146] μ147 (rI Q)
      refine aw_icmp_eq (tgt := 862) dL_law_646 (by decide) (fun c0 => ?_) (fun c0 => ?_)
      · replace h := h.1 c0
        refine aw_iinc (v := x3 + (6 : Int32)) (ls' := [aR 65 0, aR 11 0, aR 12 0, aI (x3 + (6 : Int32))]) dL_law_862 rfl rfl (by decide) rfl rfl ?_
        refine aw_goto (tgt := 18) dL_law_865 (by decide) ?_
        exact h
      · replace h := h.2 c0
        refine aw_iconst (v := (0 : Int32)) dL_law_649 rfl ?_
        exact aw_iret (ty := .boolean) dL_law_650 rfl (by decide) ⟨_, rfl, h⟩
    by_cases c15 : ((g_xs Γ x3.toNatClampNeg) &&& (31 : Int32)) = (15 : Int32)
    · replace h := h.2.2.2.2.2.2.2.2.2.2.2.2.2.2.2.1 c15
      refine aw_tableIn (off := 618) (tgt := 651) dL_law_33 (by rw [c15]; decide) (by rw [c15]; decide) (by rw [c15]; decide) (by decide) ?_
      refine aw_aload_n dL_law_651 rfl ?_
      refine aw_aload_n dL_law_652 rfl ?_
      refine aw_iload_n dL_law_653 rfl ?_
      refine aw_iconst (v := (1 : Int32)) dL_law_654 rfl ?_
      refine aw_iadd dL_law_655 ?_
      refine aw_scI dL_law_656 hb0 h.1 ?_
      replace h := h.2
      refine aw_aload_n dL_law_657 rfl ?_
      refine aw_iload_n dL_law_658 rfl ?_
      refine aw_iconst (v := (2 : Int32)) dL_law_659 rfl ?_
      refine aw_iadd dL_law_660 ?_
      refine aw_scI dL_law_661 hb0 h.1 ?_
      replace h := h.2
      refine aw_callV (M' := M_X11_next) (K := 11) (i := 0) (vs := [aI (g_xs Γ (x3 + (1 : Int32)).toNatClampNeg), aI (g_xs Γ (x3 + (2 : Int32)).toNatClampNeg)]) (st := []) dL_law_662 mk_X11_next mi_X11_next ml_RL_80 mp_X11_next rc_11 rm_L_law__X11_next (Nat.le_of_ble_eq_true rfl) rfl (cw_mono h ?_)
      clear h
      rintro _ μ149 ⟨r150, rfl, h⟩
      show aw Γ M_L_law 665 [aR 65 0, aR 11 0, aR 12 0, aI x3] [aI r150] μ149 (rI Q)
      refine aw_aload_n dL_law_665 rfl ?_
      refine aw_aload_n dL_law_666 rfl ?_
      refine aw_iload_n dL_law_667 rfl ?_
      refine aw_iconst (v := (1 : Int32)) dL_law_668 rfl ?_
      refine aw_iadd dL_law_669 ?_
      refine aw_scI dL_law_670 hb0 h.1 ?_
      replace h := h.2
      refine aw_aload_n dL_law_671 rfl ?_
      refine aw_iload_n dL_law_672 rfl ?_
      refine aw_iconst (v := (2 : Int32)) dL_law_673 rfl ?_
      refine aw_iadd dL_law_674 ?_
      refine aw_scI dL_law_675 hb0 h.1 ?_
      replace h := h.2
      refine aw_callV (M' := M_X12_next) (K := 12) (i := 0) (vs := [aI (g_xs Γ (x3 + (1 : Int32)).toNatClampNeg), aI (g_xs Γ (x3 + (2 : Int32)).toNatClampNeg)]) (st := [aI r150]) dL_law_676 mk_X12_next mi_X12_next ml_RL_83 mp_X12_next rc_12 rm_L_law__X12_next (Nat.le_of_ble_eq_true rfl) rfl (cw_mono h ?_)
      clear h
      rintro _ μ151 ⟨r152, rfl, h⟩
      show aw Γ M_L_law 679 [aR 65 0, aR 11 0, aR 12 0, aI x3] [aI r152, aI r150] μ151 (rI Q)
      refine aw_icmp_eq (tgt := 862) dL_law_679 (by decide) (fun c0 => ?_) (fun c0 => ?_)
      · replace h := h.1 c0
        refine aw_iinc (v := x3 + (6 : Int32)) (ls' := [aR 65 0, aR 11 0, aR 12 0, aI (x3 + (6 : Int32))]) dL_law_862 rfl rfl (by decide) rfl rfl ?_
        refine aw_goto (tgt := 18) dL_law_865 (by decide) ?_
        exact h
      · replace h := h.2 c0
        refine aw_iconst (v := (0 : Int32)) dL_law_682 rfl ?_
        exact aw_iret (ty := .boolean) dL_law_683 rfl (by decide) ⟨_, rfl, h⟩
    by_cases c16 : ((g_xs Γ x3.toNatClampNeg) &&& (31 : Int32)) = (16 : Int32)
    · replace h := h.2.2.2.2.2.2.2.2.2.2.2.2.2.2.2.2.1 c16
      refine aw_tableIn (off := 651) (tgt := 684) dL_law_33 (by rw [c16]; decide) (by rw [c16]; decide) (by rw [c16]; decide) (by decide) ?_
      refine aw_aload_n dL_law_684 rfl ?_
      refine aw_aload_n dL_law_685 rfl ?_
      refine aw_iload_n dL_law_686 rfl ?_
      refine aw_iconst (v := (1 : Int32)) dL_law_687 rfl ?_
      refine aw_iadd dL_law_688 ?_
      refine aw_scI dL_law_689 hb0 h.1 ?_
      replace h := h.2
      refine aw_aload_n dL_law_690 rfl ?_
      refine aw_iload_n dL_law_691 rfl ?_
      refine aw_iconst (v := (2 : Int32)) dL_law_692 rfl ?_
      refine aw_iadd dL_law_693 ?_
      refine aw_scI dL_law_694 hb0 h.1 ?_
      replace h := h.2
      refine aw_aload_n dL_law_695 rfl ?_
      refine aw_iload_n dL_law_696 rfl ?_
      refine aw_iconst (v := (3 : Int32)) dL_law_697 rfl ?_
      refine aw_iadd dL_law_698 ?_
      refine aw_scI dL_law_699 hb0 h.1 ?_
      replace h := h.2
      refine aw_callV (M' := M_X11_chain) (K := 11) (i := 0) (vs := [aI (g_xs Γ (x3 + (1 : Int32)).toNatClampNeg), aI (g_xs Γ (x3 + (2 : Int32)).toNatClampNeg), aI (g_xs Γ (x3 + (3 : Int32)).toNatClampNeg)]) (st := []) dL_law_700 mk_X11_chain mi_X11_chain ml_RL_84 mp_X11_chain rc_11 rm_L_law__X11_chain (Nat.le_of_ble_eq_true rfl) rfl (cw_mono h ?_)
      clear h
      rintro _ μ153 ⟨r154, rfl, h⟩
      show aw Γ M_L_law 703 [aR 65 0, aR 11 0, aR 12 0, aI x3] [aI r154] μ153 (rI Q)
      refine aw_aload_n dL_law_703 rfl ?_
      refine aw_aload_n dL_law_704 rfl ?_
      refine aw_iload_n dL_law_705 rfl ?_
      refine aw_iconst (v := (1 : Int32)) dL_law_706 rfl ?_
      refine aw_iadd dL_law_707 ?_
      refine aw_scI dL_law_708 hb0 h.1 ?_
      replace h := h.2
      refine aw_aload_n dL_law_709 rfl ?_
      refine aw_iload_n dL_law_710 rfl ?_
      refine aw_iconst (v := (2 : Int32)) dL_law_711 rfl ?_
      refine aw_iadd dL_law_712 ?_
      refine aw_scI dL_law_713 hb0 h.1 ?_
      replace h := h.2
      refine aw_aload_n dL_law_714 rfl ?_
      refine aw_iload_n dL_law_715 rfl ?_
      refine aw_iconst (v := (3 : Int32)) dL_law_716 rfl ?_
      refine aw_iadd dL_law_717 ?_
      refine aw_scI dL_law_718 hb0 h.1 ?_
      replace h := h.2
      refine aw_callV (M' := M_X12_chain) (K := 12) (i := 0) (vs := [aI (g_xs Γ (x3 + (1 : Int32)).toNatClampNeg), aI (g_xs Γ (x3 + (2 : Int32)).toNatClampNeg), aI (g_xs Γ (x3 + (3 : Int32)).toNatClampNeg)]) (st := [aI r154]) dL_law_719 mk_X12_chain mi_X12_chain ml_RL_87 mp_X12_chain rc_12 rm_L_law__X12_chain (Nat.le_of_ble_eq_true rfl) rfl (cw_mono h ?_)
      clear h
      rintro _ μ155 ⟨r156, rfl, h⟩
      show aw Γ M_L_law 722 [aR 65 0, aR 11 0, aR 12 0, aI x3] [aI r156, aI r154] μ155 (rI Q)
      refine aw_icmp_eq (tgt := 862) dL_law_722 (by decide) (fun c0 => ?_) (fun c0 => ?_)
      · replace h := h.1 c0
        refine aw_iinc (v := x3 + (6 : Int32)) (ls' := [aR 65 0, aR 11 0, aR 12 0, aI (x3 + (6 : Int32))]) dL_law_862 rfl rfl (by decide) rfl rfl ?_
        refine aw_goto (tgt := 18) dL_law_865 (by decide) ?_
        exact h
      · replace h := h.2 c0
        refine aw_iconst (v := (0 : Int32)) dL_law_725 rfl ?_
        exact aw_iret (ty := .boolean) dL_law_726 rfl (by decide) ⟨_, rfl, h⟩
    by_cases c17 : ((g_xs Γ x3.toNatClampNeg) &&& (31 : Int32)) = (17 : Int32)
    · replace h := h.2.2.2.2.2.2.2.2.2.2.2.2.2.2.2.2.2.1 c17
      refine aw_tableIn (off := 694) (tgt := 727) dL_law_33 (by rw [c17]; decide) (by rw [c17]; decide) (by rw [c17]; decide) (by decide) ?_
      refine aw_aload_n dL_law_727 rfl ?_
      refine aw_aload_n dL_law_728 rfl ?_
      refine aw_iload_n dL_law_729 rfl ?_
      refine aw_iconst (v := (1 : Int32)) dL_law_730 rfl ?_
      refine aw_iadd dL_law_731 ?_
      refine aw_scI dL_law_732 hb0 h.1 ?_
      replace h := h.2
      refine aw_callV (M' := M_X11_gaps) (K := 11) (i := 0) (vs := [aI (g_xs Γ (x3 + (1 : Int32)).toNatClampNeg)]) (st := []) dL_law_733 mk_X11_gaps mi_X11_gaps ml_RL_88 mp_X11_gaps rc_11 rm_L_law__X11_gaps (Nat.le_of_ble_eq_true rfl) rfl (cw_mono h ?_)
      clear h
      rintro _ μ157 ⟨r158, rfl, h⟩
      show aw Γ M_L_law 736 [aR 65 0, aR 11 0, aR 12 0, aI x3] [aI r158] μ157 (rI Q)
      refine aw_aload_n dL_law_736 rfl ?_
      refine aw_aload_n dL_law_737 rfl ?_
      refine aw_iload_n dL_law_738 rfl ?_
      refine aw_iconst (v := (1 : Int32)) dL_law_739 rfl ?_
      refine aw_iadd dL_law_740 ?_
      refine aw_scI dL_law_741 hb0 h.1 ?_
      replace h := h.2
      refine aw_callV (M' := M_X12_gaps) (K := 12) (i := 0) (vs := [aI (g_xs Γ (x3 + (1 : Int32)).toNatClampNeg)]) (st := [aI r158]) dL_law_742 mk_X12_gaps mi_X12_gaps ml_RL_91 mp_X12_gaps rc_12 rm_L_law__X12_gaps (Nat.le_of_ble_eq_true rfl) rfl (cw_mono h ?_)
      clear h
      rintro _ μ159 ⟨r160, rfl, h⟩
      show aw Γ M_L_law 745 [aR 65 0, aR 11 0, aR 12 0, aI x3] [aI r160, aI r158] μ159 (rI Q)
      refine aw_icmp_eq (tgt := 862) dL_law_745 (by decide) (fun c0 => ?_) (fun c0 => ?_)
      · replace h := h.1 c0
        refine aw_iinc (v := x3 + (6 : Int32)) (ls' := [aR 65 0, aR 11 0, aR 12 0, aI (x3 + (6 : Int32))]) dL_law_862 rfl rfl (by decide) rfl rfl ?_
        refine aw_goto (tgt := 18) dL_law_865 (by decide) ?_
        exact h
      · replace h := h.2 c0
        refine aw_iconst (v := (0 : Int32)) dL_law_748 rfl ?_
        exact aw_iret (ty := .boolean) dL_law_749 rfl (by decide) ⟨_, rfl, h⟩
    by_cases c18 : ((g_xs Γ x3.toNatClampNeg) &&& (31 : Int32)) = (18 : Int32)
    · replace h := h.2.2.2.2.2.2.2.2.2.2.2.2.2.2.2.2.2.2.1 c18
      refine aw_tableIn (off := 717) (tgt := 750) dL_law_33 (by rw [c18]; decide) (by rw [c18]; decide) (by rw [c18]; decide) (by decide) ?_
      refine aw_aload_n dL_law_750 rfl ?_
      refine aw_aload_n dL_law_751 rfl ?_
      refine aw_iload_n dL_law_752 rfl ?_
      refine aw_iconst (v := (1 : Int32)) dL_law_753 rfl ?_
      refine aw_iadd dL_law_754 ?_
      refine aw_scI dL_law_755 hb0 h.1 ?_
      replace h := h.2
      refine aw_callV (M' := M_X11_hope) (K := 11) (i := 0) (vs := [aI (g_xs Γ (x3 + (1 : Int32)).toNatClampNeg)]) (st := []) dL_law_756 mk_X11_hope mi_X11_hope ml_RL_92 mp_X11_hope rc_11 rm_L_law__X11_hope (Nat.le_of_ble_eq_true rfl) rfl (cw_mono h ?_)
      clear h
      rintro _ μ161 ⟨r162, rfl, h⟩
      show aw Γ M_L_law 759 [aR 65 0, aR 11 0, aR 12 0, aI x3] [aI r162] μ161 (rI Q)
      refine aw_aload_n dL_law_759 rfl ?_
      refine aw_aload_n dL_law_760 rfl ?_
      refine aw_iload_n dL_law_761 rfl ?_
      refine aw_iconst (v := (1 : Int32)) dL_law_762 rfl ?_
      refine aw_iadd dL_law_763 ?_
      refine aw_scI dL_law_764 hb0 h.1 ?_
      replace h := h.2
      refine aw_callV (M' := M_X12_hope) (K := 12) (i := 0) (vs := [aI (g_xs Γ (x3 + (1 : Int32)).toNatClampNeg)]) (st := [aI r162]) dL_law_765 mk_X12_hope mi_X12_hope ml_RL_95 mp_X12_hope rc_12 rm_L_law__X12_hope (Nat.le_of_ble_eq_true rfl) rfl (cw_mono h ?_)
      clear h
      rintro _ μ163 ⟨r164, rfl, h⟩
      show aw Γ M_L_law 768 [aR 65 0, aR 11 0, aR 12 0, aI x3] [aI r164, aI r162] μ163 (rI Q)
      refine aw_icmp_eq (tgt := 862) dL_law_768 (by decide) (fun c0 => ?_) (fun c0 => ?_)
      · replace h := h.1 c0
        refine aw_iinc (v := x3 + (6 : Int32)) (ls' := [aR 65 0, aR 11 0, aR 12 0, aI (x3 + (6 : Int32))]) dL_law_862 rfl rfl (by decide) rfl rfl ?_
        refine aw_goto (tgt := 18) dL_law_865 (by decide) ?_
        exact h
      · replace h := h.2 c0
        refine aw_iconst (v := (0 : Int32)) dL_law_771 rfl ?_
        exact aw_iret (ty := .boolean) dL_law_772 rfl (by decide) ⟨_, rfl, h⟩
    by_cases c19 : ((g_xs Γ x3.toNatClampNeg) &&& (31 : Int32)) = (19 : Int32)
    · replace h := h.2.2.2.2.2.2.2.2.2.2.2.2.2.2.2.2.2.2.2.1 c19
      refine aw_tableIn (off := 740) (tgt := 773) dL_law_33 (by rw [c19]; decide) (by rw [c19]; decide) (by rw [c19]; decide) (by decide) ?_
      refine aw_aload_n dL_law_773 rfl ?_
      refine aw_aload_n dL_law_774 rfl ?_
      refine aw_iload_n dL_law_775 rfl ?_
      refine aw_iconst (v := (1 : Int32)) dL_law_776 rfl ?_
      refine aw_iadd dL_law_777 ?_
      refine aw_scI dL_law_778 hb0 h.1 ?_
      replace h := h.2
      refine aw_callV (M' := M_X11_ask) (K := 11) (i := 0) (vs := [aI (g_xs Γ (x3 + (1 : Int32)).toNatClampNeg)]) (st := []) dL_law_779 mk_X11_ask mi_X11_ask ml_RL_96 mp_X11_ask rc_11 rm_L_law__X11_ask (Nat.le_of_ble_eq_true rfl) rfl (cw_mono h ?_)
      clear h
      rintro _ μ165 ⟨r166, rfl, h⟩
      show aw Γ M_L_law 782 [aR 65 0, aR 11 0, aR 12 0, aI x3] [aI r166] μ165 (rI Q)
      refine aw_aload_n dL_law_782 rfl ?_
      refine aw_aload_n dL_law_783 rfl ?_
      refine aw_iload_n dL_law_784 rfl ?_
      refine aw_iconst (v := (1 : Int32)) dL_law_785 rfl ?_
      refine aw_iadd dL_law_786 ?_
      refine aw_scI dL_law_787 hb0 h.1 ?_
      replace h := h.2
      refine aw_callV (M' := M_X12_ask) (K := 12) (i := 0) (vs := [aI (g_xs Γ (x3 + (1 : Int32)).toNatClampNeg)]) (st := [aI r166]) dL_law_788 mk_X12_ask mi_X12_ask ml_RL_99 mp_X12_ask rc_12 rm_L_law__X12_ask (Nat.le_of_ble_eq_true rfl) rfl (cw_mono h ?_)
      clear h
      rintro _ μ167 ⟨r168, rfl, h⟩
      show aw Γ M_L_law 791 [aR 65 0, aR 11 0, aR 12 0, aI x3] [aI r168, aI r166] μ167 (rI Q)
      refine aw_icmp_eq (tgt := 862) dL_law_791 (by decide) (fun c0 => ?_) (fun c0 => ?_)
      · replace h := h.1 c0
        refine aw_iinc (v := x3 + (6 : Int32)) (ls' := [aR 65 0, aR 11 0, aR 12 0, aI (x3 + (6 : Int32))]) dL_law_862 rfl rfl (by decide) rfl rfl ?_
        refine aw_goto (tgt := 18) dL_law_865 (by decide) ?_
        exact h
      · replace h := h.2 c0
        refine aw_iconst (v := (0 : Int32)) dL_law_794 rfl ?_
        exact aw_iret (ty := .boolean) dL_law_795 rfl (by decide) ⟨_, rfl, h⟩
    by_cases c20 : ((g_xs Γ x3.toNatClampNeg) &&& (31 : Int32)) = (20 : Int32)
    · replace h := h.2.2.2.2.2.2.2.2.2.2.2.2.2.2.2.2.2.2.2.2.1 c20
      refine aw_tableIn (off := 763) (tgt := 796) dL_law_33 (by rw [c20]; decide) (by rw [c20]; decide) (by rw [c20]; decide) (by decide) ?_
      refine aw_aload_n dL_law_796 rfl ?_
      refine aw_aload_n dL_law_797 rfl ?_
      refine aw_iload_n dL_law_798 rfl ?_
      refine aw_iconst (v := (1 : Int32)) dL_law_799 rfl ?_
      refine aw_iadd dL_law_800 ?_
      refine aw_scI dL_law_801 hb0 h.1 ?_
      replace h := h.2
      refine aw_aload_n dL_law_802 rfl ?_
      refine aw_iload_n dL_law_803 rfl ?_
      refine aw_iconst (v := (2 : Int32)) dL_law_804 rfl ?_
      refine aw_iadd dL_law_805 ?_
      refine aw_scI dL_law_806 hb0 h.1 ?_
      replace h := h.2
      refine aw_aload_n dL_law_807 rfl ?_
      refine aw_iload_n dL_law_808 rfl ?_
      refine aw_iconst (v := (3 : Int32)) dL_law_809 rfl ?_
      refine aw_iadd dL_law_810 ?_
      refine aw_scI dL_law_811 hb0 h.1 ?_
      replace h := h.2
      refine aw_callV (M' := M_X11_written) (K := 11) (i := 0) (vs := [aI (g_xs Γ (x3 + (1 : Int32)).toNatClampNeg), aI (g_xs Γ (x3 + (2 : Int32)).toNatClampNeg), aI (g_xs Γ (x3 + (3 : Int32)).toNatClampNeg)]) (st := []) dL_law_812 mk_X11_written mi_X11_written ml_RL_100 mp_X11_written rc_11 rm_L_law__X11_written (Nat.le_of_ble_eq_true rfl) rfl (cw_mono h ?_)
      clear h
      rintro _ μ169 ⟨r170, rfl, h⟩
      show aw Γ M_L_law 815 [aR 65 0, aR 11 0, aR 12 0, aI x3] [aI r170] μ169 (rI Q)
      refine aw_aload_n dL_law_815 rfl ?_
      refine aw_aload_n dL_law_816 rfl ?_
      refine aw_iload_n dL_law_817 rfl ?_
      refine aw_iconst (v := (1 : Int32)) dL_law_818 rfl ?_
      refine aw_iadd dL_law_819 ?_
      refine aw_scI dL_law_820 hb0 h.1 ?_
      replace h := h.2
      refine aw_aload_n dL_law_821 rfl ?_
      refine aw_iload_n dL_law_822 rfl ?_
      refine aw_iconst (v := (2 : Int32)) dL_law_823 rfl ?_
      refine aw_iadd dL_law_824 ?_
      refine aw_scI dL_law_825 hb0 h.1 ?_
      replace h := h.2
      refine aw_aload_n dL_law_826 rfl ?_
      refine aw_iload_n dL_law_827 rfl ?_
      refine aw_iconst (v := (3 : Int32)) dL_law_828 rfl ?_
      refine aw_iadd dL_law_829 ?_
      refine aw_scI dL_law_830 hb0 h.1 ?_
      replace h := h.2
      refine aw_callV (M' := M_X12_written) (K := 12) (i := 0) (vs := [aI (g_xs Γ (x3 + (1 : Int32)).toNatClampNeg), aI (g_xs Γ (x3 + (2 : Int32)).toNatClampNeg), aI (g_xs Γ (x3 + (3 : Int32)).toNatClampNeg)]) (st := [aI r170]) dL_law_831 mk_X12_written mi_X12_written ml_RL_103 mp_X12_written rc_12 rm_L_law__X12_written (Nat.le_of_ble_eq_true rfl) rfl (cw_mono h ?_)
      clear h
      rintro _ μ171 ⟨r172, rfl, h⟩
      show aw Γ M_L_law 834 [aR 65 0, aR 11 0, aR 12 0, aI x3] [aI r172, aI r170] μ171 (rI Q)
      refine aw_icmp_eq (tgt := 862) dL_law_834 (by decide) (fun c0 => ?_) (fun c0 => ?_)
      · replace h := h.1 c0
        refine aw_iinc (v := x3 + (6 : Int32)) (ls' := [aR 65 0, aR 11 0, aR 12 0, aI (x3 + (6 : Int32))]) dL_law_862 rfl rfl (by decide) rfl rfl ?_
        refine aw_goto (tgt := 18) dL_law_865 (by decide) ?_
        exact h
      · replace h := h.2 c0
        refine aw_iconst (v := (0 : Int32)) dL_law_837 rfl ?_
        exact aw_iret (ty := .boolean) dL_law_838 rfl (by decide) ⟨_, rfl, h⟩
    by_cases c21 : ((g_xs Γ x3.toNatClampNeg) &&& (31 : Int32)) = (21 : Int32)
    · replace h := h.2.2.2.2.2.2.2.2.2.2.2.2.2.2.2.2.2.2.2.2.2.1 c21
      refine aw_tableIn (off := 806) (tgt := 839) dL_law_33 (by rw [c21]; decide) (by rw [c21]; decide) (by rw [c21]; decide) (by decide) ?_
      refine aw_aload_n dL_law_839 rfl ?_
      refine aw_aload_n dL_law_840 rfl ?_
      refine aw_iload_n dL_law_841 rfl ?_
      refine aw_iconst (v := (1 : Int32)) dL_law_842 rfl ?_
      refine aw_iadd dL_law_843 ?_
      refine aw_scI dL_law_844 hb0 h.1 ?_
      replace h := h.2
      refine aw_callV (M' := M_X11_count) (K := 11) (i := 0) (vs := [aI (g_xs Γ (x3 + (1 : Int32)).toNatClampNeg)]) (st := []) dL_law_845 mk_X11_count mi_X11_count ml_RL_104 mp_X11_count rc_11 rm_L_law__X11_count (Nat.le_of_ble_eq_true rfl) rfl (cw_mono h ?_)
      clear h
      rintro _ μ173 ⟨r174, rfl, h⟩
      show aw Γ M_L_law 848 [aR 65 0, aR 11 0, aR 12 0, aI x3] [aI r174] μ173 (rI Q)
      refine aw_aload_n dL_law_848 rfl ?_
      refine aw_aload_n dL_law_849 rfl ?_
      refine aw_iload_n dL_law_850 rfl ?_
      refine aw_iconst (v := (1 : Int32)) dL_law_851 rfl ?_
      refine aw_iadd dL_law_852 ?_
      refine aw_scI dL_law_853 hb0 h.1 ?_
      replace h := h.2
      refine aw_callV (M' := M_X12_count) (K := 12) (i := 0) (vs := [aI (g_xs Γ (x3 + (1 : Int32)).toNatClampNeg)]) (st := [aI r174]) dL_law_854 mk_X12_count mi_X12_count ml_RL_107 mp_X12_count rc_12 rm_L_law__X12_count (Nat.le_of_ble_eq_true rfl) rfl (cw_mono h ?_)
      clear h
      rintro _ μ175 ⟨r176, rfl, h⟩
      show aw Γ M_L_law 857 [aR 65 0, aR 11 0, aR 12 0, aI x3] [aI r176, aI r174] μ175 (rI Q)
      refine aw_icmp_eq (tgt := 862) dL_law_857 (by decide) (fun c0 => ?_) (fun c0 => ?_)
      · replace h := h.1 c0
        refine aw_iinc (v := x3 + (6 : Int32)) (ls' := [aR 65 0, aR 11 0, aR 12 0, aI (x3 + (6 : Int32))]) dL_law_862 rfl rfl (by decide) rfl rfl ?_
        refine aw_goto (tgt := 18) dL_law_865 (by decide) ?_
        exact h
      · replace h := h.2 c0
        refine aw_iconst (v := (0 : Int32)) dL_law_860 rfl ?_
        exact aw_iret (ty := .boolean) dL_law_861 rfl (by decide) ⟨_, rfl, h⟩
    replace h := h.2.2.2.2.2.2.2.2.2.2.2.2.2.2.2.2.2.2.2.2.2.2 c0 c1 c2 c3 c4 c5 c6 c7 c8 c9 c10 c11 c12 c13 c14 c15 c16 c17 c18 c19 c20 c21
    refine aw_tableOut (tgt := 862) dL_law_33 (by have e0 := lv_neT c0 (show (0 : Int32).toInt = (0 : Int) by decide); have e1 := lv_neT c1 (show (1 : Int32).toInt = (1 : Int) by decide); have e2 := lv_neT c2 (show (2 : Int32).toInt = (2 : Int) by decide); have e3 := lv_neT c3 (show (3 : Int32).toInt = (3 : Int) by decide); have e4 := lv_neT c4 (show (4 : Int32).toInt = (4 : Int) by decide); have e5 := lv_neT c5 (show (5 : Int32).toInt = (5 : Int) by decide); have e6 := lv_neT c6 (show (6 : Int32).toInt = (6 : Int) by decide); have e7 := lv_neT c7 (show (7 : Int32).toInt = (7 : Int) by decide); have e8 := lv_neT c8 (show (8 : Int32).toInt = (8 : Int) by decide); have e9 := lv_neT c9 (show (9 : Int32).toInt = (9 : Int) by decide); have e10 := lv_neT c10 (show (10 : Int32).toInt = (10 : Int) by decide); have e11 := lv_neT c11 (show (11 : Int32).toInt = (11 : Int) by decide); have e12 := lv_neT c12 (show (12 : Int32).toInt = (12 : Int) by decide); have e13 := lv_neT c13 (show (13 : Int32).toInt = (13 : Int) by decide); have e14 := lv_neT c14 (show (14 : Int32).toInt = (14 : Int) by decide); have e15 := lv_neT c15 (show (15 : Int32).toInt = (15 : Int) by decide); have e16 := lv_neT c16 (show (16 : Int32).toInt = (16 : Int) by decide); have e17 := lv_neT c17 (show (17 : Int32).toInt = (17 : Int) by decide); have e18 := lv_neT c18 (show (18 : Int32).toInt = (18 : Int) by decide); have e19 := lv_neT c19 (show (19 : Int32).toInt = (19 : Int) by decide); have e20 := lv_neT c20 (show (20 : Int32).toInt = (20 : Int) by decide); have e21 := lv_neT c21 (show (21 : Int32).toInt = (21 : Int) by decide); omega) (by decide) ?_
    refine aw_iinc (v := x3 + (6 : Int32)) (ls' := [aR 65 0, aR 11 0, aR 12 0, aI (x3 + (6 : Int32))]) dL_law_862 rfl rfl (by decide) rfl rfl ?_
    refine aw_goto (tgt := 18) dL_law_865 (by decide) ?_
    exact h
