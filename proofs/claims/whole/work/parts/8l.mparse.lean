def nfv (o : Option Nat) : Int32 := match o with
  | none => -1
  | some v => nI v
def NFm (g : Nat → Option Nat) (μ : mH) : Prop := ∀ i, i < 9 → μ 41 0 i = nfv (g i)
def GBd (g : Nat → Option Nat) : Prop := ∀ i v, g i = some v → v < 2 ^ 31
theorem nfv_m1 {g : Nat → Option Nat} (h : GBd g) (i : Nat) : nfv (g i) = -1 ↔ (g i).isSome = false := by
  cases e : g i with
  | none => exact ⟨fun _ => rfl, fun _ => rfl⟩
  | some v => exact ⟨fun q => absurd q (nI_m1 (h i v e)), fun q => (nomatch q)⟩
def FRN (μ μ' : mH) : Prop := Fr [12, 41] μ μ' ∧ ∀ s, s ≠ 2 → s ≠ 3 → s ≠ 4 → s ≠ 5 → s ≠ 100 → μ' 12 0 s = μ 12 0 s
theorem FRN_d {a b c : mH} (h : FRN a b) (h2 : FRD b c) : FRN a c := ⟨Fr_tr h.1 (Fr_mono h2.1 (by decide)), fun s p q r u v => (h2.2 s p q r u v).trans (h.2 s p q r u v)⟩
theorem FRN_s {a b : mH} {s : Nat} {x : Int32} (h : FRN a b) : FRN a (sto b 41 0 s x) := ⟨Fr_st2 h.1 (by decide), fun s' p q r u v => by rw [sto_K (by decide)]; exact h.2 s' p q r u v⟩
theorem FRN_tr {a b c : mH} (h : FRN a b) (h2 : FRN b c) : FRN a c := ⟨Fr_tr h.1 h2.1, fun s p q r u v => (h2.2 s p q r u v).trans (h.2 s p q r u v)⟩
theorem TXM_41 {n : Nat} {t : Nat → Nat} {μ : mH} {s : Nat} {x : Int32} (h : TXM n t μ) : TXM n t (sto μ 41 0 s x) := ⟨h.1, by rw [sto_K (by decide)]; exact h.2.1, fun j hj => by rw [sto_K (by decide)]; exact h.2.2 j hj⟩
theorem TKM_41 {n p : Nat} {t : Nat → Nat} {μ : mH} {s : Nat} {x : Int32} (h : TKM n t p μ) : TKM n t p (sto μ 41 0 s x) := by
  unfold TKM
  rw [sto_K (by decide), sto_K (by decide), sto_K (by decide), sto_K (by decide), sto_K (by decide)]
  exact h
theorem NFm_up {g : Nat → Option Nat} {μ μ' : mH} {i v : Nat} (h : NFm g μ) (h1 : ∀ k, k ≠ i → μ' 41 0 k = μ 41 0 k) (h2 : μ' 41 0 i = nI v) : NFm (upo g i v) μ' := fun k hk => by
  by_cases e : k = i
  · subst e; rw [upo_eq, h2]; rfl
  · rw [upo_ne _ e, h1 k e]; exact h k hk
theorem GBd_up {g : Nat → Option Nat} {i v : Nat} (h : GBd g) (hv : v < 2 ^ 31) : GBd (upo g i v) := fun k w hw => by
  by_cases e : k = i
  · subst e; rw [upo_eq] at hw; injection hw; omega
  · rw [upo_ne _ e] at hw; exact h k w hw
theorem mki_f : ∀ k, k ≤ 4 → mki k ≤ 4 ∧ (mki k = 0 ↔ k = 3) ∧ (mki k = 2 ↔ k = 1) ∧ (mki k = 3 ↔ k = 2) := by decide
theorem nuc_r {n : Nat} {t : Nat → Nat} {p lo hi : Nat} (h : nuc n t p lo hi = true) : lo ≤ tVa n t p ∧ tVa n t p ≤ hi := by
  unfold nuc at h
  simp only [Bool.and_eq_true, decide_eq_true_eq] at h
  exact h.2
section PMR
variable {Γ : cx_T}
theorem m_number {n p lo hi pl : Nat} {t : Nat → Nat} {μ : mH} {Q : Int32 → mH → Prop} (hT : TXM n t μ) (hp : p ≤ n) (hK : TKM n t p μ) (hpl : pl < 9) (hlo : lo ≤ 65535) (hhi : hi ≤ 65535) (k1 : nuc n t p lo hi = true → ∀ μ', TKM n t (tEn n t p) μ' → TXM n t μ' → FRN μ μ' → (∀ k, k ≠ pl → μ' 41 0 k = μ 41 0 k) → μ' 41 0 pl = nI (tVa n t p) → Q 1 μ') (k0 : nuc n t p lo hi = false → Q 0 μ) : cwi Γ M_X12_number [aR 12 0, aI (nI pl), aI (nI lo), aI (nI hi)] μ Q := by
  have he := tEn_le (t := t) hp
  have k4 := tKi_le4 n t p
  obtain ⟨m0, m1, m2, m3⟩ := mki_f _ k4
  obtain ⟨a3, a4, a2, _, a5⟩ := hK
  refine u_X12_number ?_
  rw [a3]
  unfold nuc at k1 k0
  refine ⟨fun z => k0 ?_, fun z => ?_⟩
  · rw [show decide (tKi n t p = 1) = false by simp; exact fun w => z (by rw [m2.mpr w]; rfl)]
    rfl
  · have z := m2.mp ((nI_eq (b := 2) (by omega) (by decide)).mp z)
    have dg : ∀ i, i < tLn n t p → t (tS0 n t p + i) ≤ 57 := fun i hi => by
      have c2 : tS0 n t p + i < n := by unfold tEn at he; omega
      have eL : tLn n t p = tLd n t p := by unfold tLn; rw [if_neg (by omega), if_pos (Or.inr z)]
      have lk := tLd_b (n := n) (t := t) (a := p) (d := i) (by omega)
      unfold kp at lk
      rw [if_pos c2, z] at lk
      exact (ckn_1.mp lk).2
    have nl := nvm_le (t := t) (s := tS0 n t p) (tLn n t p) dg
    change tVa n t p ≤ 999999 at nl
    have a5 : mkL (μ 12 0 5) (μ 12 0 100) = lN (tVa n t p) := a5 z
    rw [z] at k1 k0
    simp only [decide_true, Bool.true_and, Bool.and_eq_true, decide_eq_true_eq, Bool.and_eq_false_iff, decide_eq_false_iff_not] at k1 k0
    rw [a5, nI_l (by omega), nI_l (by omega), lg_cmp_lt, lg_cmp_le, lN_lt (by omega) (by omega), lN_le (by omega) (by omega), lN_i, tn_nI (by omega)]
    refine ⟨fun q => k0 (Or.inl (by omega)), fun q => ⟨fun q2 => ⟨vp_in_nI hpl (by decide), ?_⟩, fun q2 => k0 (Or.inr q2)⟩⟩
    refine m_leads (TXM_41 hT) he (by rw [sto_K (by decide)]; exact a2) (fun μ1 K1 T1 F1 => k1 ⟨by omega, q2⟩ μ1 K1 T1 (FRN_d (FRN_s ⟨Fr_rf, fun _ _ _ _ _ _ => rfl⟩) F1) (fun k hk => ?_) ?_)
    · rw [Fr_at F1.1 (by decide), sto_s hk]
    · rw [Fr_at F1.1 (by decide), sto_eq]
/-- what a line gives -/
def LM (n : Nat) (t : Nat → Nat) (Q : Int32 → mH → Prop) (r : pR) (μ0 : mH) : Prop := match r with
  | .inl x => ∀ μ', x ≤ n → TXM n t μ' → μ' 12 0 4 = nI x → FRN μ0 μ' → Q 0 μ'
  | .inr q => ∀ μ', q.1 ≤ n → TXM n t μ' → TKM n t q.1 μ' → NFm q.2 μ' → GBd q.2 → FRN μ0 μ' → Q 1 μ'
theorem m_bad {n p : Nat} {t : Nat → Nat} {μ0 μ : mH} {Q : Int32 → mH → Prop} (hT : TXM n t μ) (hp : p ≤ n) (hK : TKM n t p μ) (hF : FRN μ0 μ) (hE : LM n t Q (.inl (tS0 n t p)) μ0) : aw Γ M_X12_line 230 [aR 12 0, aX, aI 0] [] μ (rI Q) := u_X12_line_230 (br_t rfl (hE μ (tS0_le hp) hT hK.2.1 hF))
theorem m_stop {n p : Nat} {t : Nat → Nat} {g : Nat → Option Nat} {μ0 μ : mH} {Q : Int32 → mH → Prop} (hT : TXM n t μ) (hp : p ≤ n) (hK : TKM n t p μ) (hF : FRN μ0 μ) (hN : NFm g μ) (hB : GBd g) (hE : LM n t Q (stpK n t p g) μ0) : aw Γ M_X12_line 230 [aR 12 0, aX, aI 1] [] μ (rI Q) := by
  have he := tEn_le (t := t) hp
  have k4 := tKi_le4 n t p
  obtain ⟨m0, m1, m2, m3⟩ := mki_f _ k4
  refine u_X12_line_230 (br_f (by decide) (u_X12_closes ?_))
  rw [hK.1]
  unfold stpK at hE
  refine pk_eq (mki (tKi n t p)) 3 (fun c => ?_) (fun c => ⟨fun _ => ?_, fun z => absurd rfl z⟩)
  · rw [if_pos (m3.mp c)] at hE
    refine m_leads hT he hK.2.2.1 (fun μ1 K1 T1 F1 => ⟨fun z => absurd z (by decide), fun _ => ?_⟩)
    exact hE μ1 he T1 K1 (fun i hi => by rw [Fr_at F1.1 (by decide)]; exact hN i hi) hB (FRN_d hF F1)
  · rw [if_neg (fun y => c (m3.mpr y))] at hE
    exact hE μ (tS0_le hp) hT hK.2.1 hF
theorem m_num1 {n p lo hi i : Nat} {t : Nat → Nat} {g : Nat → Option Nat} {μ0 μ : mH} {Q : Int32 → mH → Prop} (hi9 : i < 9) (hlo : lo ≤ 65535) (hhi : hi ≤ 65535) (hT : TXM n t μ) (hp : p ≤ n) (hK : TKM n t p μ) (hF : FRN μ0 μ) (hN : NFm g μ) (hB : GBd g) (hE : LM n t Q (num1 n t p lo hi i g) μ0) : cwi Γ M_X12_number [aR 12 0, aI (nI i), aI (nI lo), aI (nI hi)] μ (fun r3 μ2 => aw Γ M_X12_line 230 [aR 12 0, aX, aI r3] [] μ2 (rI Q)) := by
  unfold num1 at hE
  refine m_number hT hp hK hi9 hlo hhi (fun ok μ1 K1 T1 F1 h1 h2 => ?_) (fun no => ?_)
  · rw [if_pos ok] at hE
    have r := nuc_r ok
    exact m_stop T1 (tEn_le hp) K1 (FRN_tr hF F1) (NFm_up hN h1 h2) (GBd_up hB (by omega)) hE
  · rw [if_neg (by rw [no]; decide)] at hE
    exact m_bad hT hp hK hF hE
theorem m_line {n p : Nat} {t : Nat → Nat} {g : Nat → Option Nat} {μ : mH} {Q : Int32 → mH → Prop} (hT : TXM n t μ) (hp : p ≤ n) (hK : TKM n t p μ) (hN : NFm g μ) (hB : GBd g) (hE : LM n t Q (linF n t p g) μ) : cwi Γ M_X12_line [aR 12 0] μ Q := by
  have hs := tS0_le (t := t) hp
  have he := tEn_le (t := t) hp
  have hp2 := tEn_le (t := t) he
  have hp3 := tEn_le (t := t) hp2
  have rfF : FRN μ μ := ⟨Fr_rf, fun _ _ _ _ _ _ => rfl⟩
  have beg : ∀ (i : Nat) (rest : pR), i < 9 → linF n t p g = (if (g i).isSome then .inl (tS0 n t p) else rest) → (LM n t Q rest μ → ∀ μ1, TKM n t (tEn n t p) μ1 → TXM n t μ1 → FRN μ μ1 → NFm g μ1 → (nI i = 0 → cwi Γ M_X12_number [aR 12 0, aI 0, aI 8, aI 60] μ1 (fun r3 μ2 => aw Γ M_X12_line 230 [aR 12 0, aX, aI r3] [] μ2 (rI Q))) ∧ (nI i = 1 → cwi Γ M_X12_number [aR 12 0, aI 1, aI 0, aI 8] μ1 (fun r5 μ4 => aw Γ M_X12_line 230 [aR 12 0, aX, aI r5] [] μ4 (rI Q))) ∧ (nI i = 2 → cwi Γ M_X12_number [aR 12 0, aI 2, aI 0, aI 255] μ1 (fun r7 μ6 => (r7 = 0 → aw Γ M_X12_line 230 [aR 12 0, aX, aI 0] [] μ6 (rI Q)) ∧ (¬ r7 = 0 → cwi Γ M_X12_number [aR 12 0, aI 3, aI 0, aI 255] μ6 (fun r9 μ8 => (r9 = 0 → aw Γ M_X12_line 230 [aR 12 0, aX, aI 0] [] μ8 (rI Q)) ∧ (¬ r9 = 0 → aw Γ M_X12_line 230 [aR 12 0, aX, aI 1] [] μ8 (rI Q)))))) ∧ (nI i = 4 → cwi Γ M_X12_number [aR 12 0, aI 4, aI 1, aI 8] μ1 (fun r11 μ10 => aw Γ M_X12_line 230 [aR 12 0, aX, aI r11] [] μ10 (rI Q))) ∧ (nI i = 5 → cwi Γ M_X12_sumHere [aR 12 0] μ1 (fun r13 μ12 => aw Γ M_X12_line 230 [aR 12 0, aX, aI r13] [] μ12 (rI Q))) ∧ (¬ nI i = 0 → ¬ nI i = 1 → ¬ nI i = 2 → ¬ nI i = 4 → ¬ nI i = 5 → aw Γ M_X12_line 230 [aR 12 0, aX, aI 1] [] (sto μ1 41 0 8 1) (rI Q))) → aw Γ M_X12_line 80 [aR 12 0, aX, aX] [aI (nI i)] μ (rI Q) := by
    intro i rest hi hl kr
    rw [hl] at hE
    refine u_X12_line_80 ⟨fun z => absurd z (nI_m1 (by omega)), fun _ => ⟨vp_in_nI hi (by decide), ?_⟩⟩
    rw [tn_nI (by omega), hN i hi, nfv_m1 hB i]
    refine ⟨fun z => ?_, fun z => ?_⟩
    · rw [if_neg (by rw [z]; decide)] at hE
      exact m_leads hT he hK.2.2.1 (fun μ1 K1 T1 F1 => kr hE μ1 K1 T1 (FRN_d rfF F1) (fun k hk => by rw [Fr_at F1.1 (by decide)]; exact hN k hk))
    · have z : (g i).isSome = true := by
        cases e : (g i).isSome
        · exact absurd e z
        · rfl
      rw [if_pos z] at hE
      exact hE μ hs hT hK.2.1 rfF
  refine u_X12_line (m_isWord (by decide) hT hp hK (fun w0 => ⟨fun z => absurd z (by decide), fun _ => ?_⟩) (fun w0 => ⟨fun _ => ?_, fun z => absurd rfl z⟩))
  · refine beg 0 _ (by decide) (by unfold linF; rw [if_pos w0]) (fun L μ1 K1 T1 F1 N1 => ⟨fun _ => m_num1 (i := 0) (lo := 8) (hi := 60) (by decide) (by decide) (by decide) T1 he K1 F1 N1 hB L, fun z => absurd z (by decide), fun z => absurd z (by decide), fun z => absurd z (by decide), fun z => absurd z (by decide), fun z => absurd rfl z⟩)
  · refine m_isWord (by decide) hT hp hK (fun w1 => ⟨fun z => absurd z (by decide), fun _ => ?_⟩) (fun w1 => ⟨fun _ => ?_, fun z => absurd rfl z⟩)
    · refine beg 1 _ (by decide) (by unfold linF; rw [if_neg (by rw [w0]; decide), if_pos w1]) (fun L μ1 K1 T1 F1 N1 => ⟨fun z => absurd z (by decide), fun _ => m_num1 (i := 1) (lo := 0) (hi := 8) (by decide) (by decide) (by decide) T1 he K1 F1 N1 hB L, fun z => absurd z (by decide), fun z => absurd z (by decide), fun z => absurd z (by decide), fun _ z => absurd rfl z⟩)
    · refine m_isWord (by decide) hT hp hK (fun w2 => ⟨fun z => absurd z (by decide), fun _ => ?_⟩) (fun w2 => ⟨fun _ => ?_, fun z => absurd rfl z⟩)
      · refine beg 2 _ (by decide) (by unfold linF; rw [if_neg (by rw [w0]; decide), if_neg (by rw [w1]; decide), if_pos w2]) (fun L μ1 K1 T1 F1 N1 => ⟨fun z => absurd z (by decide), fun z => absurd z (by decide), fun _ => ?_, fun z => absurd z (by decide), fun z => absurd z (by decide), fun _ _ z => absurd rfl z⟩)
        unfold num2 at L
        refine m_number (pl := 2) (lo := 0) (hi := 255) T1 he K1 (by decide) (by decide) (by decide) (fun ok μ2 K2 T2 F2 h1 h2 => ⟨fun z => absurd z (by decide), fun _ => ?_⟩) (fun no => ⟨fun _ => ?_, fun z => absurd rfl z⟩)
        · rw [if_pos ok] at L
          have r1 := nuc_r ok
          refine m_number (pl := 3) (lo := 0) (hi := 255) T2 hp2 K2 (by decide) (by decide) (by decide) (fun ok2 μ3 K3 T3 F3 h3 h4 => ⟨fun z => absurd z (by decide), fun _ => ?_⟩) (fun no => ⟨fun _ => ?_, fun z => absurd rfl z⟩)
          · rw [if_pos ok2] at L
            have r2 := nuc_r ok2
            exact m_stop T3 hp3 K3 (FRN_tr F1 (FRN_tr F2 F3)) (NFm_up (NFm_up N1 h1 h2) h3 h4) (GBd_up (GBd_up hB (by omega)) (by omega)) L
          · rw [if_neg (by rw [no]; decide)] at L
            exact m_bad T2 hp2 K2 (FRN_tr F1 F2) L
        · rw [if_neg (by rw [no]; decide)] at L
          exact m_bad T1 he K1 F1 L
      · refine m_isWord (by decide) hT hp hK (fun w3 => ⟨fun z => absurd z (by decide), fun _ => ?_⟩) (fun w3 => ⟨fun _ => ?_, fun z => absurd rfl z⟩)
        · refine beg 4 _ (by decide) (by unfold linF; rw [if_neg (by rw [w0]; decide), if_neg (by rw [w1]; decide), if_neg (by rw [w2]; decide), if_pos w3]) (fun L μ1 K1 T1 F1 N1 => ⟨fun z => absurd z (by decide), fun z => absurd z (by decide), fun z => absurd z (by decide), fun _ => m_num1 (i := 4) (lo := 1) (hi := 8) (by decide) (by decide) (by decide) T1 he K1 F1 N1 hB L, fun z => absurd z (by decide), fun _ _ _ z => absurd rfl z⟩)
        · refine m_isWord (by decide) hT hp hK (fun w4 => ⟨fun z => absurd z (by decide), fun _ => ?_⟩) (fun w4 => ⟨fun _ => ?_, fun z => absurd rfl z⟩)
          · refine beg 5 _ (by decide) (by unfold linF; rw [if_neg (by rw [w0]; decide), if_neg (by rw [w1]; decide), if_neg (by rw [w2]; decide), if_neg (by rw [w3]; decide), if_pos w4]) (fun L μ1 K1 T1 F1 N1 => ⟨fun z => absurd z (by decide), fun z => absurd z (by decide), fun z => absurd z (by decide), fun z => absurd z (by decide), fun _ => ?_, fun _ _ _ _ z => absurd rfl z⟩)
            unfold sumK at L
            have s5 : ∀ (x : Int32) (v : Nat), x = nI v → v < 4 → NFm (upo g 5 v) (sto μ1 41 0 5 x) := fun x v hx hv => NFm_up N1 (fun k hk => sto_s hk) (by rw [sto_eq, hx])
            refine u_X12_sumHere (m_isWord (by decide) T1 he K1 (fun v8 => ⟨fun z => absurd z (by decide), fun _ => ?_⟩) (fun v8 => ⟨fun _ => m_isWord (by decide) T1 he K1 (fun v6 => ⟨fun z => absurd z (by decide), fun _ => ?_⟩) (fun v6 => ⟨fun _ => m_isWord (by decide) T1 he K1 (fun v7 => ⟨fun z => absurd z (by decide), fun _ => ?_⟩) (fun v7 => ⟨fun _ => ?_, fun z => absurd rfl z⟩), fun z => absurd rfl z⟩), fun z => absurd rfl z⟩))
            · rw [if_pos v8] at L
              unfold num2 at L
              refine u_X12_sumHere_45 ⟨vp_in_nI (n := 5) (N := 9) (by decide) (by decide), ?_⟩
              rw [show tn (5 : Int32) = 5 from rfl, sto_eq]
              refine ⟨fun _ => m_leads (TXM_41 T1) hp2 (by rw [sto_K (by decide)]; exact K1.2.2.1) (fun μ2 K2 T2 F2 => ?_), fun z => absurd z (by decide)⟩
              have F2' : FRN μ μ2 := FRN_d (FRN_s F1) F2
              have N2 : NFm (upo g 5 1) μ2 := fun k hk => by rw [Fr_at F2.1 (by decide)]; exact s5 1 1 rfl (by decide) k hk
              have e5 : μ2 41 0 5 = 1 := by rw [Fr_at F2.1 (by decide), sto_eq]
              rw [e5]
              refine ⟨fun z => absurd rfl z, fun _ => ?_⟩
              refine m_number (pl := 6) (lo := 0) (hi := 65535) T2 hp2 K2 (by decide) (by decide) (by decide) (fun ok μ3 K3 T3 F3 h1 h2 => ⟨fun z => absurd z (by decide), fun _ => ?_⟩) (fun no => ⟨fun _ => ?_, fun z => absurd rfl z⟩)
              · rw [if_pos ok] at L
                have r1 := nuc_r ok
                refine m_number (pl := 7) (lo := 0) (hi := 65535) T3 hp3 K3 (by decide) (by decide) (by decide) (fun ok2 μ4 K4 T4 F4 h3 h4 => ⟨fun z => absurd z (by decide), fun _ => ?_⟩) (fun no => ⟨fun _ => ?_, fun z => absurd rfl z⟩)
                · rw [if_pos ok2] at L
                  have r2 := nuc_r ok2
                  exact m_stop T4 (tEn_le hp3) K4 (FRN_tr F2' (FRN_tr F3 F4)) (NFm_up (NFm_up N2 h1 h2) h3 h4) (GBd_up (GBd_up (GBd_up hB (by decide)) (by omega)) (by omega)) L
                · rw [if_neg (by rw [no]; decide)] at L
                  exact m_bad T3 hp3 K3 (FRN_tr F2' F3) L
              · rw [if_neg (by rw [no]; decide)] at L
                exact m_bad T2 hp2 K2 F2' L
            · rw [if_neg (by rw [v8]; decide), if_pos v6] at L
              refine u_X12_sumHere_45 ⟨vp_in_nI (n := 5) (N := 9) (by decide) (by decide), ?_⟩
              rw [show tn (5 : Int32) = 5 from rfl, sto_eq]
              refine ⟨fun _ => m_leads (TXM_41 T1) hp2 (by rw [sto_K (by decide)]; exact K1.2.2.1) (fun μ2 K2 T2 F2 => ?_), fun z => absurd z (by decide)⟩
              have e5 : μ2 41 0 5 = 2 := by rw [Fr_at F2.1 (by decide), sto_eq]
              rw [e5]
              exact ⟨fun _ => m_stop T2 hp2 K2 (FRN_d (FRN_s F1) F2) (fun k hk => by rw [Fr_at F2.1 (by decide)]; exact s5 2 2 rfl (by decide) k hk) (GBd_up hB (by decide)) L, fun z => absurd z (by decide)⟩
            · rw [if_neg (by rw [v8]; decide), if_neg (by rw [v6]; decide), if_pos v7] at L
              refine u_X12_sumHere_45 ⟨vp_in_nI (n := 5) (N := 9) (by decide) (by decide), ?_⟩
              rw [show tn (5 : Int32) = 5 from rfl, sto_eq]
              refine ⟨fun _ => m_leads (TXM_41 T1) hp2 (by rw [sto_K (by decide)]; exact K1.2.2.1) (fun μ2 K2 T2 F2 => ?_), fun z => absurd z (by decide)⟩
              have e5 : μ2 41 0 5 = 3 := by rw [Fr_at F2.1 (by decide), sto_eq]
              rw [e5]
              exact ⟨fun _ => m_stop T2 hp2 K2 (FRN_d (FRN_s F1) F2) (fun k hk => by rw [Fr_at F2.1 (by decide)]; exact s5 3 3 rfl (by decide) k hk) (GBd_up hB (by decide)) L, fun z => absurd z (by decide)⟩
            · rw [if_neg (by rw [v8]; decide), if_neg (by rw [v6]; decide), if_neg (by rw [v7]; decide)] at L
              refine u_X12_sumHere_45 ⟨vp_in_nI (n := 5) (N := 9) (by decide) (by decide), ?_⟩
              rw [show tn (5 : Int32) = 5 from rfl, sto_eq]
              exact ⟨fun z => absurd rfl z, fun _ => m_bad (TXM_41 T1) he (TKM_41 K1) (FRN_s F1) L⟩
          · refine m_isWord (by decide) hT hp hK (fun w5 => ⟨fun z => absurd z (by decide), fun _ => ?_⟩) (fun w5 => ⟨fun _ => ?_, fun z => absurd rfl z⟩)
            · refine beg 8 _ (by decide) (by unfold linF; rw [if_neg (by rw [w0]; decide), if_neg (by rw [w1]; decide), if_neg (by rw [w2]; decide), if_neg (by rw [w3]; decide), if_neg (by rw [w4]; decide), if_pos w5]) (fun L μ1 K1 T1 F1 N1 => ⟨fun z => absurd z (by decide), fun z => absurd z (by decide), fun z => absurd z (by decide), fun z => absurd z (by decide), fun z => absurd z (by decide), fun _ _ _ _ _ => ?_⟩)
              exact m_stop (TXM_41 T1) he (TKM_41 K1) (FRN_s F1) (NFm_up (i := 8) (v := 1) N1 (fun k hk => sto_s hk) (by rw [sto_eq]; rfl)) (GBd_up hB (by decide)) L
            · have el : linF n t p g = .inl (tS0 n t p) := by
                unfold linF
                rw [if_neg (by rw [w0]; decide), if_neg (by rw [w1]; decide), if_neg (by rw [w2]; decide), if_neg (by rw [w3]; decide), if_neg (by rw [w4]; decide), if_neg (by rw [w5]; decide)]
              rw [el] at hE
              exact u_X12_line_80 ⟨fun _ => hE μ hs hT hK.2.1 rfF, fun z => absurd rfl z⟩
theorem m_fault {n : Nat} {t : Nat → Nat} {μ : mH} {Q : Int32 → mH → Prop} (hT : TXM n t μ) (kF : ∀ x μ', psr n t 201 0 (fun _ => none) = .inl x → x ≤ n → TXM n t μ' → FRN μ μ' → Q (nI x) μ') (kS : ∀ g μ', psr n t 201 0 (fun _ => none) = .inr g → TXM n t μ' → NFm g μ' → GBd g → FRN μ μ' → Q (-1) μ') : cwi Γ M_X12_fault [aR 12 0] μ Q := by
  have hn := hT.1
  have lp : ∀ F p (g : Nat → Option Nat) (μ1 : mH), n < tS0 n t p + F → p ≤ n → psr n t 201 0 (fun _ => none) = psr n t F p g → TXM n t μ1 → TKM n t p μ1 → FRN μ μ1 → NFm g μ1 → GBd g → aw Γ M_X12_fault 30 [aR 12 0, aX] [] μ1 (rI Q) := by
    intro F
    induction F with
    | zero =>
      intro p g μ1 hl hp
      have := tS0_le (t := t) hp
      omega
    | succ F ih =>
      intro p g μ1 hl hp ep T1 K1 F1 N1 B1
      have hs := tS0_le (t := t) hp
      have k4 := tKi_le4 n t p
      obtain ⟨m0, m1, m2, m3⟩ := mki_f _ k4
      refine u_X12_fault_30 ?_
      rw [K1.1, K1.2.1, N1 0 (by decide), N1 2 (by decide), N1 4 (by decide), N1 5 (by decide), nfv_m1 B1, nfv_m1 B1, nfv_m1 B1, nfv_m1 B1]
      refine pk_eq (mki (tKi n t p)) 0 (fun c => ?_) (fun c => ?_)
      · have k3 := m1.mp c
        have ple : psr n t (F + 1) p g = if (g 0).isSome && ((g 2).isSome && ((g 4).isSome && (g 5).isSome)) then .inr g else .inl (tS0 n t p) := by
          show (if tKi n t p = 3 then _ else _) = _
          rw [if_pos k3]
        cases e0 : (g 0).isSome
        · rw [e0] at ple
          exact ⟨fun _ => kF _ μ1 (ep.trans ple) hs T1 F1, fun z => absurd rfl z⟩
        · refine ⟨fun z => (nomatch z), fun _ => ?_⟩
          cases e2 : (g 2).isSome
          · rw [e0, e2] at ple
            exact ⟨fun _ => kF _ μ1 (ep.trans ple) hs T1 F1, fun z => absurd rfl z⟩
          · refine ⟨fun z => (nomatch z), fun _ => ?_⟩
            cases e4 : (g 4).isSome
            · rw [e0, e2, e4] at ple
              exact ⟨fun _ => kF _ μ1 (ep.trans ple) hs T1 F1, fun z => absurd rfl z⟩
            · refine ⟨fun z => (nomatch z), fun _ => ?_⟩
              cases e5 : (g 5).isSome
              · rw [e0, e2, e4, e5] at ple
                exact ⟨fun z => absurd rfl z, fun _ => kF _ μ1 (ep.trans ple) hs T1 F1⟩
              · rw [e0, e2, e4, e5] at ple
                exact ⟨fun _ => kS g μ1 (ep.trans ple) T1 N1 B1 F1, fun z => (nomatch z)⟩
      · have k3 : tKi n t p ≠ 3 := fun y => c (m1.mpr y)
        have e1 := tLn_1 k3
        have pl : psr n t (F + 1) p g = match linF n t p g with
            | .inl x => .inl x
            | .inr q => psr n t F q.1 q.2 := by
          show (if tKi n t p = 3 then _ else _) = _
          rw [if_neg k3]
          cases linF n t p g <;> rfl
        refine m_line T1 hp K1 N1 B1 ?_
        cases hr : linF n t p g with
        | inl x =>
          rw [hr] at pl
          exact fun μ' hx T' h4 F' => ⟨fun z => absurd rfl z, fun _ => by rw [h4]; exact kF x μ' (ep.trans pl) hx T' (FRN_tr F1 F')⟩
        | inr q =>
          rw [hr] at pl
          refine fun μ' hq T' K' N' B' F' => ⟨fun _ => ?_, fun z => absurd z (by decide)⟩
          have := linF_ok hr
          refine ih q.1 q.2 μ' ?_ hq (ep.trans pl) T' K' (FRN_tr F1 F') N' B'
          have : q.1 ≤ tS0 n t q.1 := by unfold tS0; omega
          unfold tEn at *
          omega
  have in9 : ∀ e i (μ1 : mH), i + e = 9 → FRN μ μ1 → (∀ k, k < i → μ1 41 0 k = -1) → aw Γ M_X12_fault 2 [aR 12 0, aI (nI i)] [] μ1 (rI Q) := by
    intro e
    induction e with
    | zero =>
      intro i μ1 hi F1 h1
      obtain rfl : i = 9 := by omega
      have T1 : TXM n t μ1 := ⟨hn, by rw [F1.2 1 (by decide) (by decide) (by decide) (by decide) (by decide)]; exact hT.2.1, fun j hj => by rw [Fr_at F1.1 (by decide)]; exact hT.2.2 j hj⟩
      have F2 : FRN μ (sto μ1 12 0 2 0) := ⟨Fr_st2 F1.1 (by decide), fun s a b c d e => by rw [sto_s a]; exact F1.2 s a b c d e⟩
      refine u_X12_fault_2 (br_t (by decide) (m_leads (p := 0) (TXM_d T1 ⟨Fr_sto (by decide), fun s a _ _ _ _ => sto_s a⟩) (by omega) sto_eq (fun μ3 K3 T3 F3 => lp 201 0 (fun _ => none) μ3 (by omega) (by omega) rfl T3 K3 (FRN_d F2 F3) (fun k hk => ?_) (fun k v h => (nomatch h)))))
      rw [Fr_at F3.1 (by decide), sto_K (by decide)]
      exact h1 k hk
    | succ e ih =>
      intro i μ1 hi F1 h1
      refine u_X12_fault_2 (br_f (nI_ge (b := 9) (by omega) (by decide)) ?_)
      rw [tn_nI (by omega), nI_1]
      refine ⟨vp_in_nI (by omega) (by decide), ih (i + 1) _ (by omega) (FRN_s F1) (fun k hk => ?_)⟩
      by_cases y : k = i
      · subst y; exact sto_eq
      · rw [sto_s y]; exact h1 k (by omega)
  exact u_X12_fault (in9 9 0 μ rfl ⟨Fr_rf, fun _ _ _ _ _ _ => rfl⟩ (fun k hk => absurd hk (by omega)))
end PMR
