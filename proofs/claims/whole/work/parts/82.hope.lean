/-! tuned, by the reference; hope -/
def tvP (fm s : Nat → Nat) (m e : Nat) : Int32 := if e = 0 then -1 else nI (tlo fm + tb fm s m (e - 1) / 9)
def tvG (fm s : Nat → Nat) (m e : Nat) : Int32 := if e = 0 then 0 else nI (tb fm s m (e - 1) % 9)
def tvR (fm s : Nat → Nat) (m e : Nat) : Int32 := if e = 0 then 0 else nI (tR fm s m (tb fm s m (e - 1)))
def tvS (fm s : Nat → Nat) (m e : Nat) : Int32 := if e = 0 then 0 else nI (tS fm s m (tb fm s m (e - 1)))
theorem tb_le (fm s : Nat → Nat) (m : Nat) : ∀ e, tb fm s m e ≤ e
  | 0 => Nat.le_refl _
  | e + 1 => by
    have := tb_le fm s m e
    unfold tb
    split <;> omega
def FRM (μ μ' : mH) : Prop := Fr [12, 50, 51, 52, 53, 54] μ μ' ∧ ∀ s, s ≠ 20 → s ≠ 21 → μ' 12 0 s = μ 12 0 s
theorem FRM_rf {μ : mH} : FRM μ μ := ⟨Fr_rf, fun _ _ _ => rfl⟩
theorem FRM_tr {a b c : mH} (h : FRM a b) (h2 : FRM b c) : FRM a c := ⟨Fr_tr h.1 h2.1, fun s y z => (h2.2 s y z).trans (h.2 s y z)⟩
theorem FRM_54 {a b c : mH} (h : FRM a b) (h2 : Fr [54] b c) : FRM a c := ⟨Fr_tr h.1 (Fr_mono h2 (by decide)), fun s y z => by rw [Fr_at h2 (by decide)]; exact h.2 s y z⟩
theorem FRM_f {a b c : mH} (h : FRM a b) (h2 : Fr [12, 50, 51, 52, 53] b c) (h3 : ∀ s, s ≠ 20 → s ≠ 21 → c 12 0 s = b 12 0 s) : FRM a c := ⟨Fr_tr h.1 (Fr_mono h2 (by decide)), fun s y z => (h3 s y z).trans (h.2 s y z)⟩
section PTM
variable {Γ : cx_T}
theorem m_tuned {fm : Nat → Nat} {nr : Nat} {dr ml : Nat → Nat} {st : Nat → Nat → Nat} {x1 x2 : Int32} {μ : mH} {Q : Int32 → mH → Prop} (hO : 0 < nr → OKF fm) (hF : 0 < nr → FMM fm μ) (hR : RDM nr dr ml st μ) (kk : ∀ μ', FRM μ μ' → Q (tunA fm nr ml st x1 x2) μ') : cwi Γ M_X12_tuned [aR 12 0, aI x1, aI x2] μ Q := by
  have r1 := hR.1
  unfold tunA at kk
  have kn : ¬ (inN x1 nr ∧ inN x2 4) → Q (-1) μ := fun h => by
    have := kk μ FRM_rf
    rw [if_neg h] at this
    exact this
  refine u_X12_tuned (s_inN (n := nr) (by omega) (by rw [hR.2.1]) (fun h => ⟨fun _ => kn (fun q => h q.1), fun z => absurd rfl z⟩) (fun h => ⟨fun z => absurd z (by decide), fun _ => s_inN (n := 4) (by decide) rfl (fun h2 => ⟨fun z => absurd rfl z, fun _ => kn (fun q => h2 q.2)⟩) (fun h2 => ⟨fun _ => ?_, fun z => absurd z (by decide)⟩)⟩))
  simp only [if_pos (show inN x1 nr ∧ inN x2 4 from ⟨h, h2⟩)] at kk
  have hpos : 0 < nr := by have := h.2; omega
  have hO := hO hpos
  have hF := hF hpos
  have hT := RDM_ST hR h.2
  obtain ⟨l1, l2, l3⟩ := tlo_8 hO
  rw [hF.1]
  refine s_max ?_
  rw [tlo_I hO]
  rw [← h.1] at hT
  generalize st (tn x1) = s at *
  generalize ml (tn x1) = m at *
  have lR := tR_le fm s m
  have lS := tS_le hO s m
  have hT1 : ∀ μ1, FRM μ μ1 → ST x1 m s μ1 := fun μ1 F1 => ⟨hT.1, hT.2.1, by
    rcases hT.2.2 with ⟨e1, e0, e2⟩ | ⟨r, hr, e1, e0, e2⟩
    · exact Or.inl ⟨e1, by rw [F1.2 9 (by decide) (by decide)]; exact e0, fun j hj => by rw [Fr_at F1.1 (by decide)]; exact e2 j hj⟩
    · exact Or.inr ⟨r, hr, e1, by rw [Fr_at F1.1 (by decide)]; exact e0, fun j hj => by rw [Fr_at F1.1 (by decide)]; exact e2 j hj⟩⟩
  have lp : ∀ d i (μ1 : mH), i + d = thi fm - tlo fm + 1 → FRM μ μ1 → aw Γ M_X12_tuned 52 [aR 12 0, aI x1, aI x2, aI (tvP fm s m (9 * i)), aI (tvG fm s m (9 * i)), aI (tvR fm s m (9 * i)), aI (tvS fm s m (9 * i)), aI (nI (tlo fm + i)), aX, aX, aX, aX] [] μ1 (rI Q) := by
    intro d
    induction d with
    | zero =>
      intro i μ1 hi F1
      refine u_X12_tuned_52 ?_
      rw [Fr_at F1.1 (by decide), hF.1]
      refine s_min ?_
      rw [thi_I hO]
      have k := kk μ1 F1
      unfold tunV tE at k
      rw [← show i = thi fm - tlo fm + 1 by omega] at k
      unfold tvP tvG tvR tvS
      rw [if_neg (by omega), if_neg (by omega), if_neg (by omega), if_neg (by omega)]
      refine br_t (nI_lt (by omega) (by omega)) ⟨fun n0 => ⟨fun n1 => ⟨fun n2 => ?_, fun n2 => ?_⟩, fun n1 => ?_⟩, fun n0 => ?_⟩
      · rw [if_neg n0, if_neg n1, if_neg n2] at k; exact k
      · rw [if_neg n0, if_neg n1, if_pos n2] at k; exact k
      · rw [if_neg n0, if_pos n1] at k; exact k
      · rw [if_pos n0] at k; exact k
    | succ d ih =>
      intro i μ1 hi F1
      refine u_X12_tuned_52 ?_
      rw [Fr_at F1.1 (by decide), hF.1]
      refine s_min ?_
      rw [thi_I hO]
      refine br_f (nI_nlt (by omega) (by omega)) ?_
      have lp2 : ∀ d2 g (μ2 : mH), g + d2 = 9 → FRM μ μ2 → aw Γ M_X12_tuned 74 [aR 12 0, aI x1, aI x2, aI (tvP fm s m (9 * i + g)), aI (tvG fm s m (9 * i + g)), aI (tvR fm s m (9 * i + g)), aI (tvS fm s m (9 * i + g)), aI (nI (tlo fm + i)), aI (nI g), aX, aX, aX] [] μ2 (rI Q) := by
        intro d2
        induction d2 with
        | zero =>
          intro g μ2 hg F2
          obtain rfl : g = 9 := by omega
          refine u_X12_tuned_74 (br_t (by decide) ?_)
          rw [nI_1]
          exact ih (i + 1) μ2 (by omega) F2
        | succ d2 ih2 =>
          intro g μ2 hg F2
          refine u_X12_tuned_74 (br_f (nI_nlt (a := 8) (b := g) (by omega) (by decide)) ?_)
          refine m_finds (by omega) (by omega) hO (FMM_fr hF F2.1 (by decide)) (hT1 μ2 F2) (fun μ3 D3 F3 s3 => ?_)
          have e1 : (9 * i + g) / 9 = i := by omega
          have e2 : (9 * i + g) % 9 = g := by omega
          have eR : Rn fm (rbt (tlo fm + i) g s m) (rz (tlo fm + i) g s m) = tR fm s m (9 * i + g) := by unfold tR; rw [e1, e2]
          have eS : Sn fm (rbt (tlo fm + i) g s m) (rz (tlo fm + i) g s m) = tS fm s m (9 * i + g) := by unfold tS; rw [e1, e2]
          have hb := rbt_le (tlo fm + i) g s m
          have go := fun μ4 => ih2 (g + 1) μ4 (by omega)
          rw [show 9 * i + (g + 1) = 9 * i + g + 1 by omega] at go
          generalize rbt (tlo fm + i) g s m = b at *
          generalize rz (tlo fm + i) g s m = nb at *
          have h8 := FN_le fm b nb
          have F3' := FRM_f F2 F3 s3
          have fin : ∀ (μ4 : mH), FRM μ μ4 → (tvP fm s m (9 * i + g) = -1 → aw Γ M_X12_tuned 74 [aR 12 0, aI x1, aI x2, aI (nI (tlo fm + i)), aI (nI g), aI (nI (Rn fm b nb)), aI (nI (Sn fm b nb)), aI (nI (tlo fm + i)), aI (nI g + 1), aX, aX, aX] [] μ4 (rI Q)) ∧ (¬ tvP fm s m (9 * i + g) = -1 → ((nI (Rn fm b nb) < tvR fm s m (9 * i + g) → aw Γ M_X12_tuned 74 [aR 12 0, aI x1, aI x2, aI (tvP fm s m (9 * i + g)), aI (tvG fm s m (9 * i + g)), aI (tvR fm s m (9 * i + g)), aI (tvS fm s m (9 * i + g)), aI (nI (tlo fm + i)), aI (nI g + 1), aX, aX, aX] [] μ4 (rI Q)) ∧ (¬ nI (Rn fm b nb) < tvR fm s m (9 * i + g) → ((¬ nI (Rn fm b nb) = tvR fm s m (9 * i + g) → aw Γ M_X12_tuned 74 [aR 12 0, aI x1, aI x2, aI (nI (tlo fm + i)), aI (nI g), aI (nI (Rn fm b nb)), aI (nI (Sn fm b nb)), aI (nI (tlo fm + i)), aI (nI g + 1), aX, aX, aX] [] μ4 (rI Q)) ∧ (nI (Rn fm b nb) = tvR fm s m (9 * i + g) → ((nI (Sn fm b nb) < tvS fm s m (9 * i + g) → aw Γ M_X12_tuned 74 [aR 12 0, aI x1, aI x2, aI (nI (tlo fm + i)), aI (nI g), aI (nI (Rn fm b nb)), aI (nI (Sn fm b nb)), aI (nI (tlo fm + i)), aI (nI g + 1), aX, aX, aX] [] μ4 (rI Q)) ∧ (¬ nI (Sn fm b nb) < tvS fm s m (9 * i + g) → aw Γ M_X12_tuned 74 [aR 12 0, aI x1, aI x2, aI (tvP fm s m (9 * i + g)), aI (tvG fm s m (9 * i + g)), aI (tvR fm s m (9 * i + g)), aI (tvS fm s m (9 * i + g)), aI (nI (tlo fm + i)), aI (nI g + 1), aX, aX, aX] [] μ4 (rI Q)))))))) := by
            intro μ4 F4
            have go := go μ4 F4
            rw [eR, eS, nI_1]
            have w1 : ∀ e, tvP fm s m (e + 1) = nI (tlo fm + tb fm s m e / 9) := fun e => by unfold tvP; rw [if_neg (by omega), show e + 1 - 1 = e by omega]
            have w2 : ∀ e, tvG fm s m (e + 1) = nI (tb fm s m e % 9) := fun e => by unfold tvG; rw [if_neg (by omega), show e + 1 - 1 = e by omega]
            have w3 : ∀ e, tvR fm s m (e + 1) = nI (tR fm s m (tb fm s m e)) := fun e => by unfold tvR; rw [if_neg (by omega), show e + 1 - 1 = e by omega]
            have w4 : ∀ e, tvS fm s m (e + 1) = nI (tS fm s m (tb fm s m e)) := fun e => by unfold tvS; rw [if_neg (by omega), show e + 1 - 1 = e by omega]
            rw [w1, w2, w3, w4] at go
            have set : tb fm s m (9 * i + g) = 9 * i + g → aw Γ M_X12_tuned 74 [aR 12 0, aI x1, aI x2, aI (nI (tlo fm + i)), aI (nI g), aI (nI (tR fm s m (9 * i + g))), aI (nI (tS fm s m (9 * i + g))), aI (nI (tlo fm + i)), aI (nI (g + 1)), aX, aX, aX] [] μ4 (rI Q) := fun et => by
              rw [et, e1, e2] at go
              exact go
            cases he : 9 * i + g with
            | zero =>
              rw [he] at set
              exact ⟨fun _ => set rfl, fun z => absurd rfl z⟩
            | succ e =>
              rw [he] at set go
              rw [w1, w2, w3, w4]
              have b1 := tb_le fm s m e
              have et : tb fm s m (e + 1) = if tbt fm s m (e + 1) (tb fm s m e) then e + 1 else tb fm s m e := rfl
              have set : tbt fm s m (e + 1) (tb fm s m e) = true → _ := fun c => set (by rw [et, c]; rfl)
              have keep : tbt fm s m (e + 1) (tb fm s m e) = false → aw Γ M_X12_tuned 74 [aR 12 0, aI x1, aI x2, aI (nI (tlo fm + tb fm s m e / 9)), aI (nI (tb fm s m e % 9)), aI (nI (tR fm s m (tb fm s m e))), aI (nI (tS fm s m (tb fm s m e))), aI (nI (tlo fm + i)), aI (nI (g + 1)), aX, aX, aX] [] μ4 (rI Q) := fun c => by
                rw [et, c] at go
                exact go
              have q1 := lR (e + 1)
              have q2 := lR (tb fm s m e)
              have q3 := lS (e + 1)
              have q4 := lS (tb fm s m e)
              refine ⟨fun z => absurd z (nI_m1 (by omega)), fun _ => pk_lt (tR fm s m (e + 1)) (tR fm s m (tb fm s m e)) (fun c => keep ?_) (fun c => ⟨fun z => set ?_, fun z => pk_lt (tS fm s m (e + 1)) (tS fm s m (tb fm s m e)) (fun c2 => set ?_) (fun c2 => keep ?_)⟩)⟩
              · simp [tbt]; omega
              · have : tR fm s m (e + 1) ≠ tR fm s m (tb fm s m e) := fun y => z (by rw [y])
                simp [tbt]; omega
              · have z := (nI_eq (by omega) (by omega)).mp z
                simp [tbt, z, c2]
              · have z := (nI_eq (by omega) (by omega)).mp z
                simp [tbt]; omega
          have lp3 : ∀ d3 k (μ4 : mH), k + d3 = FN fm b nb → FRM μ μ4 → FDM fm b nb μ4 → aw Γ M_X12_tuned 99 [aR 12 0, aI x1, aI x2, aI (tvP fm s m (9 * i + g)), aI (tvG fm s m (9 * i + g)), aI (tvR fm s m (9 * i + g)), aI (tvS fm s m (9 * i + g)), aI (nI (tlo fm + i)), aI (nI g), aI (nI (fb_ct (fun k => rg fm b (FP fm b nb k)) k)), aI (nI (fb_sm (fun k => if rg fm b (FP fm b nb k) then slN fm b (FP fm b nb k) else 0) k)), aI (nI k)] [] μ4 (rI Q) := by
            intro d3
            induction d3 with
            | zero =>
              intro k μ4 hk F4 D4
              obtain rfl : k = FN fm b nb := by omega
              refine u_X12_tuned_99 ?_
              rw [D4.1]
              exact br_t (nI_le (Nat.le_refl _) (by omega)) (fin μ4 F4)
            | succ d3 ih3 =>
              intro k μ4 hk F4 D4
              have go3 := fun μ5 => ih3 (k + 1) μ5 (by omega)
              rw [fb_ct_succ, fb_sm_succ] at go3
              refine u_X12_tuned_99 ?_
              rw [D4.1, tn_nI (by omega)]
              refine br_f (nI_ge (by omega) (by omega)) (m_isRight hO (FMM_fr hF F4.1 (by decide)) hb (by omega) (D4.2 k (by omega)) (fun c μ5 F5 => ⟨fun _ => ⟨vp_in_nI (by omega) (by decide), ?_⟩, fun z => absurd z (by decide)⟩) (fun c μ5 F5 => ⟨fun z => absurd rfl z, fun _ => ?_⟩))
              · have D5 := FDM_fr D4 F5 (Fr_at F5 (by decide) _ _) (by decide) (by decide) (by decide)
                have := go3 μ5 (FRM_54 F4 F5) D5
                simp only [c, if_true] at this
                rw [(D5.2 k (by omega)).2.2, nI_add, nI_1, nI_1]
                exact this
              · have D5 := FDM_fr D4 F5 (Fr_at F5 (by decide) _ _) (by decide) (by decide) (by decide)
                have := go3 μ5 (FRM_54 F4 F5) D5
                simp only [c, Bool.false_eq_true, if_false, Nat.add_zero] at this
                rw [nI_1]
                exact this
          exact lp3 _ 0 μ3 (Nat.zero_add _) F3' D3
      exact lp2 9 0 μ1 rfl F1
  exact lp _ 0 μ (Nat.zero_add _) FRM_rf
/-- hope -/
def hpn (dr : Nat → Nat) (v k : Nat) : Nat := fb_ct (fun r => decide (dr r = v)) k
def hpa (fm dr ml : Nat → Nat) (st : Nat → Nat → Nat) (v k : Nat) : Nat := fb_sm (fun r => if dr r = v then FN fm (fbb fm (st r) (ml r)) (fzz fm (st r) (ml r)) else 0) k
def hpr (fm dr ml : Nat → Nat) (st : Nat → Nat → Nat) (v k : Nat) : Nat := fb_sm (fun r => if dr r = v then Rn fm (fbb fm (st r) (ml r)) (fzz fm (st r) (ml r)) else 0) k
def hpV (fm : Nat → Nat) (nr : Nat) (dr ml : Nat → Nat) (st : Nat → Nat → Nat) (v : Nat) : Int32 := if hpa fm dr ml st v nr = 0 then 50 - 10 * nI (hpn dr v nr) else 100 * nI (hpr fm dr ml st v nr) / nI (hpa fm dr ml st v nr) - 10 * nI (hpn dr v nr)
theorem hpa_le (fm dr ml : Nat → Nat) (st : Nat → Nat → Nat) (v k : Nat) : hpa fm dr ml st v k ≤ k * 8 := fb_sm_bound (fun r _ => by
  have := FN_le fm (fbb fm (st r) (ml r)) (fzz fm (st r) (ml r))
  show (if _ then _ else _) ≤ _
  split <;> omega)
theorem c_hopeOf {fm : Nat → Nat} {nr v : Nat} {dr ml : Nat → Nat} {st : Nat → Nat → Nat} {μ : mH} {Q : Int32 → mH → Prop} (hv : v < 4) (hO : OKF fm) (hR : RDC fm nr dr ml st μ) (kk : Q (hpV fm nr dr ml st v) μ) : cwi Γ M_X8_hopeOf [aR 8 0, aI (nI v)] μ Q := by
  obtain ⟨r1, r2, r3⟩ := hR
  have lp : ∀ d k, k + d = nr → aw Γ M_X8_hopeOf 10 [aR 8 0, aI (nI v), aI (nI (hpn dr v k)), aI (nI (hpa fm dr ml st v k)), aI (nI (hpr fm dr ml st v k)), aI (nI k)] [] μ (rI Q) := by
    intro d
    induction d with
    | zero =>
      intro k hk
      obtain rfl : k = nr := by omega
      have ha := hpa_le fm dr ml st v k
      unfold hpV at kk
      refine u_X8_hopeOf_10 ?_
      rw [r2]
      refine br_t (nI_le (Nat.le_refl _) (by omega)) (pk_le (hpa fm dr ml st v k) 0 (fun c => ?_) (fun c => ⟨nI_ne0 c (by omega), ?_⟩))
      · rw [if_pos (by omega)] at kk; exact kk
      · rw [if_neg (by omega)] at kk; exact kk
    | succ d ih =>
      intro k hk
      obtain ⟨g1, g2, g3, g4, g5⟩ := r3 k (by omega)
      have go := ih (k + 1) (by omega)
      have en : hpn dr v (k + 1) = hpn dr v k + (if decide (dr k = v) then 1 else 0) := rfl
      have ea : hpa fm dr ml st v (k + 1) = hpa fm dr ml st v k + (if dr k = v then FN fm (fbb fm (st k) (ml k)) (fzz fm (st k) (ml k)) else 0) := rfl
      have er : hpr fm dr ml st v (k + 1) = hpr fm dr ml st v k + (if dr k = v then Rn fm (fbb fm (st k) (ml k)) (fzz fm (st k) (ml k)) else 0) := rfl
      rw [en, ea, er] at go
      refine u_X8_hopeOf_10 ?_
      rw [r2, tn_nI (by omega), g2, g4.1, nI_1 k]
      refine br_f (nI_ge (by omega) (by omega)) ⟨vp_in_nI (by omega) (by decide), fun z => ?_, fun z => ⟨vp_in_nI (by omega) (by decide), vp_in_nI (by omega) (by decide), c_rightOnes hO (rbt_le _ _ _ _) g4 ?_⟩⟩
      · have z : dr k ≠ v := fun y => z (by rw [y])
        simp only [z, decide_false, Bool.false_eq_true, if_false, Nat.add_zero] at go
        exact go
      · have z := (nI_eq (by omega) (by omega)).mp z
        simp only [z, decide_true, if_true] at go
        rw [nI_add, nI_add, nI_1]
        exact go
  exact u_X8_hopeOf (lp _ 0 (Nat.zero_add _))
theorem m_hopeOf {fm : Nat → Nat} {nr v : Nat} {dr ml : Nat → Nat} {st : Nat → Nat → Nat} {μ : mH} {Q : Int32 → mH → Prop} (hv : v < 4) (h8 : μ 12 0 8 = 1) (hO : OKF fm) (hF : FMM fm μ) (hR : RDM nr dr ml st μ) (kk : ∀ μ', FRM μ μ' → Q (hpV fm nr dr ml st v) μ') : cwi Γ M_X12_hope [aR 12 0, aI (nI v)] μ Q := by
  have r1 := hR.1
  have lp : ∀ d k (μ1 : mH), k + d = nr → FRM μ μ1 → aw Γ M_X12_hope 30 [aR 12 0, aI (nI v), aI (nI (hpa fm dr ml st v k)), aI (nI (hpr fm dr ml st v k)), aI (nI (hpn dr v k)), aI (nI k), aX] [] μ1 (rI Q) := by
    intro d
    induction d with
    | zero =>
      intro k μ1 hk F1
      obtain rfl : k = nr := by omega
      have ha := hpa_le fm dr ml st v k
      have kk := kk μ1 F1
      unfold hpV at kk
      refine u_X12_hope_30 ?_
      rw [F1.2 11 (by decide) (by decide), hR.2.1]
      refine br_t (nI_le (Nat.le_refl _) (by omega)) ⟨fun z => ⟨z, ?_⟩, fun z => ?_⟩
      · rw [if_neg (fun y => z (by rw [y]; rfl))] at kk; exact kk
      · rw [if_pos ((nI_eq (b := 0) (by omega) (by decide)).mp z)] at kk; exact kk
    | succ d ih =>
      intro k μ1 hk F1
      obtain ⟨g1, g2, g3, g4, g5⟩ := hR.2.2 k (by omega)
      have go := fun μ2 => ih (k + 1) μ2 (by omega)
      have en : hpn dr v (k + 1) = hpn dr v k + (if decide (dr k = v) then 1 else 0) := rfl
      have ea : hpa fm dr ml st v (k + 1) = hpa fm dr ml st v k + (if dr k = v then FN fm (fbb fm (st k) (ml k)) (fzz fm (st k) (ml k)) else 0) := rfl
      have er : hpr fm dr ml st v (k + 1) = hpr fm dr ml st v k + (if dr k = v then Rn fm (fbb fm (st k) (ml k)) (fzz fm (st k) (ml k)) else 0) := rfl
      rw [en, ea, er] at go
      refine u_X12_hope_30 ?_
      rw [F1.2 11 (by decide) (by decide), hR.2.1, tn_nI (by omega), Fr_at F1.1 (by decide), g2, Fr_at F1.1 (show 42 ∉ [12, 50, 51, 52, 53, 54] by decide), Fr_at F1.1 (show 42 ∉ [12, 50, 51, 52, 53, 54] by decide), hF.1, hF.2.1]
      refine br_f (nI_ge (by omega) (by omega)) ⟨vp_in_nI (by omega) (by decide), fun z => ?_, fun z => ?_⟩
      · have z := (nI_eq (by omega) (by omega)).mp z
        simp only [z, decide_true, if_true] at go
        have R1 := RDM_fr hR F1.1 (F1.2 11 (by decide) (by decide)) (by decide) (by decide) (by decide)
        refine m_finds hO.1 hO.2.1 hO (FMM_fr hF F1.1 (by decide)) (RDM_ST R1 (by omega)) (fun μ2 D2 F2 s2 => ?_)
        have F2' := FRM_f F1 F2 s2
        have hb := rbt_le (fm 1) (fm 2) (st k) (ml k)
        unfold fbb fzz at go
        generalize rbt (fm 1) (fm 2) (st k) (ml k) = b at *
        generalize rz (fm 1) (fm 2) (st k) (ml k) = nb at *
        have hn8 := FN_le fm b nb
        have lp2 : ∀ d2 j (μ3 : mH), j + d2 = FN fm b nb → FRM μ μ3 → FDM fm b nb μ3 → aw Γ M_X12_hope 77 [aR 12 0, aI (nI v), aI (nI (hpa fm dr ml st v k + j)), aI (nI (hpr fm dr ml st v k + fb_ct (fun k => rg fm b (FP fm b nb k)) j)), aI (nI (hpn dr v k + 1)), aI (nI k), aI (nI j)] [] μ3 (rI Q) := by
          intro d2
          induction d2 with
          | zero =>
            intro j μ3 hj F3 D3
            obtain rfl : j = FN fm b nb := by omega
            refine u_X12_hope_77 ?_
            rw [D3.1, nI_1 k]
            exact br_t (nI_le (Nat.le_refl _) (by omega)) (go μ3 F3)
          | succ d2 ih2 =>
            intro j μ3 hj F3 D3
            have go2 := fun μ4 => ih2 (j + 1) μ4 (by omega)
            rw [fb_ct_succ] at go2
            refine u_X12_hope_77 ?_
            rw [D3.1]
            refine br_f (nI_ge (by omega) (by omega)) (m_isRight hO (FMM_fr hF F3.1 (by decide)) hb (by omega) (D3.2 j (by omega)) (fun c μ5 F5 => ⟨fun z => absurd z (by decide), fun _ => ?_⟩) (fun c μ5 F5 => ⟨fun _ => ?_, fun z => absurd rfl z⟩))
            · have := go2 μ5 (FRM_54 F3 F5) (FDM_fr D3 F5 (Fr_at F5 (by decide) _ _) (by decide) (by decide) (by decide))
              simp only [c, if_true, ← Nat.add_assoc] at this
              rw [nI_1, nI_1, nI_1]
              exact this
            · have := go2 μ5 (FRM_54 F3 F5) (FDM_fr D3 F5 (Fr_at F5 (by decide) _ _) (by decide) (by decide) (by decide))
              simp only [c, Bool.false_eq_true, if_false, Nat.add_zero, ← Nat.add_assoc] at this
              rw [nI_1, nI_1, show ∀ a, nI a + (0 : Int32) = nI a from fun a => nI_add a 0]
              exact this
        have := lp2 _ 0 μ2 (Nat.zero_add _) F2' D2
        rw [nI_1]
        exact this
      · have z : dr k ≠ v := fun y => z (by rw [y])
        simp only [z, decide_false, Bool.false_eq_true, if_false, Nat.add_zero] at go
        rw [nI_1]
        exact go μ1 F1
  refine u_X12_hope ?_
  rw [h8]
  exact ⟨fun z => absurd z (by decide), fun _ => s_inN (n := 4) (by decide) rfl (fun h => absurd (inN_of hv (by decide)) h) (fun _ => ⟨fun _ => lp nr 0 μ (Nat.zero_add _) FRM_rf, fun z => absurd z (by decide)⟩)⟩
end PTM
