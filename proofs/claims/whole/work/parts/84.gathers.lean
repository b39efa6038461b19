def FRG (μ μ' : mH) : Prop := Fr [12, 50, 51, 52, 53, 54, 55, 56] μ μ' ∧ ∀ s, s ≠ 20 → s ≠ 21 → s ≠ 26 → μ' 12 0 s = μ 12 0 s
theorem FRG_rf {μ : mH} : FRG μ μ := ⟨Fr_rf, fun _ _ _ _ => rfl⟩
theorem FRG_54 {a b c : mH} (h : FRG a b) (h2 : Fr [54] b c) : FRG a c := ⟨Fr_tr h.1 (Fr_mono h2 (by decide)), fun s x y z => by rw [Fr_at h2 (by decide)]; exact h.2 s x y z⟩
theorem FRG_f {a b c : mH} (h : FRG a b) (h2 : Fr [12, 50, 51, 52, 53] b c) (h3 : ∀ s, s ≠ 20 → s ≠ 21 → c 12 0 s = b 12 0 s) : FRG a c := ⟨Fr_tr h.1 (Fr_mono h2 (by decide)), fun s x y z => (h3 s x y).trans (h.2 s x y z)⟩
theorem FRG_s {a b : mH} {K i s : Nat} {x : Int32} (h : FRG a b) (hK : K = 55 ∨ K = 56) : FRG a (sto b K i s x) := ⟨Fr_st2 h.1 (by rcases hK with e | e <;> rw [e] <;> decide), fun s' x y z => by
  rw [sto_K (by rcases hK with e | e <;> rw [e] <;> decide)]
  exact h.2 s' x y z⟩
section PGA
variable {Γ : cx_T}
theorem m_gathers {fm : Nat → Nat} {nr T S : Nat} {dr ml : Nat → Nat} {st : Nat → Nat → Nat} {μ : mH} {Q : mH → Prop} (hT : T < 256) (hS : S < 256) (hO : OKF fm) (hF : FMM fm μ) (hR : RDM nr dr ml st μ)
    (kk : ∀ μ', CPM fm (gN fm nr ml st T S) (gV fm nr ml st T S) (gR fm nr ml st T S) μ' → FRG μ μ' → Q μ') : cwv Γ M_X12_gathers [aR 12 0, aI (nI T), aI (nI S)] μ Q := by
  have r1 := hR.1
  have o6 := hO.2.2.2.2.2.1
  have fin : ∀ μ1, FRG μ μ1 → μ1 12 0 26 = nI (fb_ct (cm fm ml st T S) (8 * nr)) → (∀ q, q < 8 * nr → cm fm ml st T S q = true → (∀ i, i < 4 + fm 4 → μ1 55 0 (12 * fb_ct (cm fm ml st T S) q + i) = nI (gB fm ml st q i)) ∧ μ1 56 0 (fb_ct (cm fm ml st T S) q) = nI (if cRr fm ml st q then 1 else 0)) → Q μ1 := by
    intro μ1 F1 a0 aq
    refine kk μ1 ⟨a0, fun c hc => ?_⟩ F1
    obtain ⟨g1, g2, g3⟩ := nth_in hc
    have e := aq _ g1 g2
    rw [g3] at e
    exact e
  have lp : ∀ d r (μ1 : mH), r + d = nr → FRG μ μ1 → μ1 12 0 26 = nI (fb_ct (cm fm ml st T S) (8 * r)) → (∀ q, q < 8 * r → cm fm ml st T S q = true → (∀ i, i < 4 + fm 4 → μ1 55 0 (12 * fb_ct (cm fm ml st T S) q + i) = nI (gB fm ml st q i)) ∧ μ1 56 0 (fb_ct (cm fm ml st T S) q) = nI (if cRr fm ml st q then 1 else 0)) → aw Γ M_X12_gathers 7 [aR 12 0, aI (nI T), aI (nI S), aI (nI r), aX, aX] [] μ1 (rV Q) := by
    intro d
    induction d with
    | zero =>
      intro r μ1 hr F1 a0 aq
      obtain rfl : r = nr := by omega
      refine u_X12_gathers_7 ?_
      rw [F1.2 11 (by decide) (by decide) (by decide), hR.2.1]
      exact br_t (nI_le (Nat.le_refl _) (by omega)) (fin μ1 F1 a0 aq)
    | succ d ih =>
      intro r μ1 hr F1 a0 aq
      have R1 := RDM_fr hR F1.1 (F1.2 11 (by decide) (by decide) (by decide)) (by decide) (by decide) (by decide)
      have M1 := FMM_fr hF F1.1 (by decide)
      refine u_X12_gathers_7 ?_
      rw [R1.2.1, M1.1, M1.2.1]
      refine br_f (nI_ge (by omega) (by omega)) (m_finds hO.1 hO.2.1 hO M1 (RDM_ST R1 (by omega)) (fun μ2 D2 F2 s2 => ?_))
      have F2' := FRG_f F1 F2 s2
      have h8 := FN_le fm (rbt (fm 1) (fm 2) (st r) (ml r)) (rz (fm 1) (fm 2) (st r) (ml r))
      have hb := rbt_le (fm 1) (fm 2) (st r) (ml r)
      have lp2 : ∀ d2 k (μ3 : mH), k + d2 = FN fm (rbt (fm 1) (fm 2) (st r) (ml r)) (rz (fm 1) (fm 2) (st r) (ml r)) → FRG μ μ3 → FDM fm (rbt (fm 1) (fm 2) (st r) (ml r)) (rz (fm 1) (fm 2) (st r) (ml r)) μ3 → μ3 12 0 26 = nI (fb_ct (cm fm ml st T S) (8 * r + k)) → (∀ q, q < 8 * r + k → cm fm ml st T S q = true → (∀ i, i < 4 + fm 4 → μ3 55 0 (12 * fb_ct (cm fm ml st T S) q + i) = nI (gB fm ml st q i)) ∧ μ3 56 0 (fb_ct (cm fm ml st T S) q) = nI (if cRr fm ml st q then 1 else 0)) → aw Γ M_X12_gathers 35 [aR 12 0, aI (nI T), aI (nI S), aI (nI r), aI (nI k), aX] [] μ3 (rV Q) := by
        intro d2
        induction d2 with
        | zero =>
          intro k μ3 hk F3 D3 b0 bq
          obtain rfl : k = FN fm (rbt (fm 1) (fm 2) (st r) (ml r)) (rz (fm 1) (fm 2) (st r) (ml r)) := by omega
          refine u_X12_gathers_35 ?_
          rw [D3.1, nI_1]
          have ro : fb_ct (cm fm ml st T S) (8 * r + FN fm (rbt (fm 1) (fm 2) (st r) (ml r)) (rz (fm 1) (fm 2) (st r) (ml r))) = fb_ct (cm fm ml st T S) (8 * (r + 1)) := cm_row
          refine br_t (nI_le (Nat.le_refl _) (by omega)) (ih (r + 1) μ3 (by omega) F3 (by rw [b0, ro]) (fun q hq hc => ?_))
          by_cases z : q < 8 * r + FN fm (rbt (fm 1) (fm 2) (st r) (ml r)) (rz (fm 1) (fm 2) (st r) (ml r))
          · exact bq q z hc
          · have := cm_out (fm := fm) (ml := ml) (st := st) (T := T) (S := S) (r := r) (k := q - 8 * r) (by unfold fbb fzz; omega) (by omega)
            rw [show 8 * r + (q - 8 * r) = q by omega, hc] at this
            cases this
        | succ d2 ih2 =>
          intro k μ3 hk F3 D3 b0 bq
          have D := D3.2 k (by omega)
          have hle := fb_ct_le (cm fm ml st T S) (8 * r + k)
          have e1 : (8 * r + k) / 8 = r := by omega
          have e2 : (8 * r + k) % 8 = k := by omega
          have eb : gb fm ml st (8 * r + k) = rbt (fm 1) (fm 2) (st r) (ml r) := by unfold gb; rw [e1]; rfl
          have ep : gp fm ml st (8 * r + k) = FP fm (rbt (fm 1) (fm 2) (st r) (ml r)) (rz (fm 1) (fm 2) (st r) (ml r)) k := by unfold gp; rw [eb, e1, e2]; rfl
          have ec : cm fm ml st T S (8 * r + k) = (decide (sb (rbt (fm 1) (fm 2) (st r) (ml r)) (FP fm (rbt (fm 1) (fm 2) (st r) (ml r)) (rz (fm 1) (fm 2) (st r) (ml r)) k) (fm 8) = T) && decide (sb (rbt (fm 1) (fm 2) (st r) (ml r)) (FP fm (rbt (fm 1) (fm 2) (st r) (ml r)) (rz (fm 1) (fm 2) (st r) (ml r)) k) (1 - fm 8) = S)) := by
            unfold cm gx gB fzz
            rw [eb, ep, e1, e2, show decide (k < FN fm (rbt (fm 1) (fm 2) (st r) (ml r)) (rz (fm 1) (fm 2) (st r) (ml r))) = true by simp; omega]
            rfl
          have eB : ∀ i, gB fm ml st (8 * r + k) i = sb (rbt (fm 1) (fm 2) (st r) (ml r)) (FP fm (rbt (fm 1) (fm 2) (st r) (ml r)) (rz (fm 1) (fm 2) (st r) (ml r)) k) i := fun i => by
            unfold gB
            rw [eb, ep]
          have er : cRr fm ml st (8 * r + k) = rg fm (rbt (fm 1) (fm 2) (st r) (ml r)) (FP fm (rbt (fm 1) (fm 2) (st r) (ml r)) (rz (fm 1) (fm 2) (st r) (ml r)) k) := by
            unfold cRr
            rw [eb, ep]
          have lt1 := sb_lt hb (FP fm (rbt (fm 1) (fm 2) (st r) (ml r)) (rz (fm 1) (fm 2) (st r) (ml r)) k) (fm 8)
          have lt2 := sb_lt hb (FP fm (rbt (fm 1) (fm 2) (st r) (ml r)) (rz (fm 1) (fm 2) (st r) (ml r)) k) (1 - fm 8)
          have M3 := FMM_fr hF F3.1 (by decide)
          have no : cm fm ml st T S (8 * r + k) = false → aw Γ M_X12_gathers 35 [aR 12 0, aI (nI T), aI (nI S), aI (nI r), aI (nI (k + 1)), aX] [] μ3 (rV Q) := fun c => by
            refine ih2 (k + 1) μ3 (by omega) F3 D3 ?_ (fun q hq hc => ?_)
            · rw [← Nat.add_assoc, fb_ct_succ, c]; exact b0
            · by_cases z : q = 8 * r + k
              · rw [z, c] at hc; cases hc
              · exact bq q (by omega) hc
          refine u_X12_gathers_35 ?_
          rw [D3.1, nI_1 k]
          refine br_f (nI_ge (by omega) (by omega)) (m_trackOf hO M3 (by omega) D ⟨fun z => no ?_, fun z => m_numberOf hO M3 (by omega) D ⟨fun y => ?_, fun y => no ?_⟩⟩)
          · rw [ec, show decide (sb (rbt (fm 1) (fm 2) (st r) (ml r)) (FP fm (rbt (fm 1) (fm 2) (st r) (ml r)) (rz (fm 1) (fm 2) (st r) (ml r)) k) (fm 8) = T) = false by
              simp only [decide_eq_false_iff_not]
              exact fun w => z (by rw [w])]
            rfl
          · have z := (nI_eq (by omega) (by omega)).mp z
            have y := (nI_eq (by omega) (by omega)).mp y
            have c : cm fm ml st T S (8 * r + k) = true := by rw [ec, z, y]; simp
            generalize en : fb_ct (cm fm ml st T S) (8 * r + k) = n at *
            have lp3 : ∀ d3 j (μ4 : mH), j + d3 = 4 + fm 4 → FRG μ μ4 → FDM fm (rbt (fm 1) (fm 2) (st r) (ml r)) (rz (fm 1) (fm 2) (st r) (ml r)) μ4 → μ4 12 0 26 = nI n → (∀ q, q < 8 * r + k → cm fm ml st T S q = true → (∀ i, i < 4 + fm 4 → μ4 55 0 (12 * fb_ct (cm fm ml st T S) q + i) = nI (gB fm ml st q i)) ∧ μ4 56 0 (fb_ct (cm fm ml st T S) q) = nI (if cRr fm ml st q then 1 else 0)) → (∀ i, i < j → μ4 55 0 (12 * n + i) = nI (gB fm ml st (8 * r + k) i)) → aw Γ M_X12_gathers 70 [aR 12 0, aI (nI T), aI (nI S), aI (nI r), aI (nI k), aI (nI j)] [] μ4 (rV Q) := by
              intro d3
              induction d3 with
              | zero =>
                intro j μ4 hj F4 D4 c0 cq ci
                obtain rfl : j = 4 + fm 4 := by omega
                refine u_X12_gathers_70 (u_X12_many ?_)
                rw [Fr_at F4.1 (by decide), hF.2.2.2.2.1, show (4 : Int32) + nI (fm 4) = nI (4 + fm 4) from nI_add 4 _, c0, tn_nI (by omega), nI_1 k]
                refine br_t (nI_le (Nat.le_refl _) (by omega)) ?_
                have go : ∀ (μ5 : mH) (x : Int32), Fr [54] μ4 μ5 → x = nI (if cRr fm ml st (8 * r + k) then 1 else 0) → vp_in (nI n) 80 ∧ aw Γ M_X12_gathers 35 [aR 12 0, aI (nI T), aI (nI S), aI (nI r), aI (nI (k + 1)), aX] [] (sto (sto μ5 56 0 n x) 12 0 26 (μ5 12 0 26 + 1)) (rV Q) := by
                  intro μ5 x F5 hx
                  refine ⟨vp_in_nI (by omega) (by decide), ?_⟩
                  have k26 : μ5 12 0 26 = nI n := by rw [Fr_at F5 (by decide)]; exact c0
                  rw [k26, nI_1]
                  have F6 := FRG_s (i := 0) (s := n) (x := x) (FRG_54 F4 F5) (Or.inr (rfl : 56 = 56))
                  refine ih2 (k + 1) _ (by omega) ⟨Fr_st2 F6.1 (by decide), fun s x1 y1 z1 => by rw [sto_s z1]; exact F6.2 s x1 y1 z1⟩ ⟨by rw [sto_s (by decide), sto_K (by decide), Fr_at F5 (by decide)]; exact D4.1, fun q hq => SEM_fr (D4.2 q hq) (Fr_tr (Fr_mono F5 (show ∀ K, K ∈ [54] → K ∈ [12, 54, 56] by decide)) (Fr_st2 (Fr_sto (by decide)) (by decide))) (by decide) (by decide) (by decide)⟩ ?_ (fun q hq hc => ?_)
                  · rw [sto_eq, ← Nat.add_assoc, fb_ct_succ, c, en]; rfl
                  · by_cases w : q = 8 * r + k
                    · subst w
                      rw [en]
                      exact ⟨fun i hi => by rw [sto_K (by decide), sto_K (by decide), Fr_at F5 (by decide)]; exact ci i hi, by rw [sto_K (by decide), sto_eq]; exact hx⟩
                    · have lt := ct_in (p := cm fm ml st T S) (c := q) (n := 8 * r + k) (by omega) hc
                      obtain ⟨u1, u2⟩ := cq q (by omega) hc
                      exact ⟨fun i hi => by rw [sto_K (by decide), sto_K (by decide), Fr_at F5 (by decide)]; exact u1 i hi, by rw [sto_K (by decide), sto_s (by omega), Fr_at F5 (by decide)]; exact u2⟩
                refine m_isRight hO (FMM_fr hF F4.1 (by decide)) hb (by omega) (D4.2 k (by omega)) (fun rr μ5 F5 => ?_) (fun rr μ5 F5 => ?_)
                · exact go μ5 _ F5 (by rw [er, rr]; decide)
                · exact go μ5 _ F5 (by rw [er, rr]; decide)
              | succ d3 ih3 =>
                intro j μ4 hj F4 D4 c0 cq ci
                refine u_X12_gathers_70 (u_X12_many ?_)
                rw [Fr_at F4.1 (by decide), hF.2.2.2.2.1, show (4 : Int32) + nI (fm 4) = nI (4 + fm 4) from nI_add 4 _, c0, show (12 : Int32) * nI k = nI (12 * k) from pk_mul 12 _, show (12 : Int32) * nI n = nI (12 * n) from pk_mul 12 _, nI_add, nI_add, tn_nI (n := 12 * k + j) (by omega), tn_nI (n := 12 * n + j) (by omega), (D4.2 k (by omega)).2.1 j (by omega), ← eB, nI_1 j]
                refine br_f (nI_ge (by omega) (by omega)) ⟨vp_in_nI (by omega) (by decide), vp_in_nI (by omega) (by decide), ih3 (j + 1) _ (by omega) (FRG_s F4 (Or.inl rfl)) (FDM_fr D4 (Fr_sto (show 55 ∈ [55] by decide)) (sto_K (by decide)) (by decide) (by decide) (by decide)) (by rw [sto_K (by decide)]; exact c0) (fun q hq hc => ?_) (fun i hi => ?_)⟩
                · have lt := ct_in (p := cm fm ml st T S) (c := q) (n := 8 * r + k) (by omega) hc
                  obtain ⟨u1, u2⟩ := cq q hq hc
                  exact ⟨fun i hi => by rw [sto_s (by omega)]; exact u1 i hi, by rw [sto_K (by decide)]; exact u2⟩
                · by_cases w : i = j
                  · subst w; exact sto_eq
                  · rw [sto_s (by omega)]; exact ci i (by omega)
            exact lp3 _ 0 μ3 (Nat.zero_add _) F3 D3 b0 bq (fun i hi => absurd hi (by omega))
          · rw [ec, show decide (sb (rbt (fm 1) (fm 2) (st r) (ml r)) (FP fm (rbt (fm 1) (fm 2) (st r) (ml r)) (rz (fm 1) (fm 2) (st r) (ml r)) k) (1 - fm 8) = S) = false by
              simp only [decide_eq_false_iff_not]
              exact fun w => y (by rw [w])]
            exact Bool.and_false _
      refine lp2 _ 0 μ2 (Nat.zero_add _) F2' D2 (by rw [s2 26 (by decide) (by decide)]; exact a0) (fun q hq hc => ?_)
      rw [F2 55 (by decide), F2 56 (by decide)]
      exact aq q hq hc
  exact u_X12_gathers (lp nr 0 _ (Nat.zero_add _) ⟨Fr_sto (by decide), fun s x y z => sto_s z⟩ sto_eq (fun q hq => absurd hq (by omega)))
end PGA
