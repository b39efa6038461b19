/-! gaps and ask -/
theorem VER_tot (fm : Nat → Nat) (T S n : Nat) (V : Nat → Nat → Nat) (r : Nat → Bool) : ∃ v dat, VER fm T S n V r v dat := by
  by_cases h0 : n = 0
  · exact ⟨0, fun _ => 0, Or.inl ⟨h0, rfl⟩⟩
  · by_cases hr : ∃ c, c < n ∧ r c = true
    · obtain ⟨c0, a, b, c⟩ := fb_first (p := fun c => r c = true) hr
      by_cases hs : ∃ c, c < n ∧ r c = true ∧ ∃ i, i < fm 4 ∧ V c (2 + i) ≠ V c0 (2 + i)
      · exact ⟨2, fun i => V c0 (2 + i), Or.inr (Or.inl ⟨c0, a, b, fun c' hc => by simpa using c c' hc, fun i _ => rfl, Or.inr ⟨rfl, hs⟩⟩)⟩
      · refine ⟨1, fun i => V c0 (2 + i), Or.inr (Or.inl ⟨c0, a, b, fun c' hc => by simpa using c c' hc, fun i _ => rfl, Or.inl ⟨rfl, fun c' h1 h2 i hi => ?_⟩⟩)⟩
        by_cases e : V c' (2 + i) = V c0 (2 + i)
        · exact e
        · exact absurd ⟨c', h1, h2, i, hi, e⟩ hs
    · have hl : ∀ c, c < n → r c = false := fun c hc => by
        cases e : r c
        · rfl
        · exact absurd ⟨c, hc, e⟩ hr
      by_cases hu : ∃ dat, UNI fm T S n V dat
      · obtain ⟨dat, hu⟩ := hu
        exact ⟨3, dat, Or.inr (Or.inr ⟨by omega, hl, Or.inl ⟨rfl, hu⟩⟩)⟩
      · exact ⟨4, fun _ => 0, Or.inr (Or.inr ⟨by omega, hl, Or.inr ⟨rfl, hu⟩⟩)⟩
def SV (fm : Nat → Nat) (nr : Nat) (ml : Nat → Nat) (st : Nat → Nat → Nat) (sv : Nat → Nat) : Prop := ∀ c, ∃ dat, VER fm (c / 4) (c % 4) (gN fm nr ml st (c / 4) (c % 4)) (gV fm nr ml st (c / 4) (c % 4)) (gR fm nr ml st (c / 4) (c % 4)) (sv c) dat
theorem SV_ex (fm : Nat → Nat) (nr : Nat) (ml : Nat → Nat) (st : Nat → Nat → Nat) : ∃ sv, SV fm nr ml st sv := Classical.skolem.mp (fun c => VER_tot fm (c / 4) (c % 4) (gN fm nr ml st (c / 4) (c % 4)) (gV fm nr ml st (c / 4) (c % 4)) (gR fm nr ml st (c / 4) (c % 4)))
def nsd (v : Nat) : Bool := !(decide (v = 1) || decide (v = 3))
theorem nsd_t {v : Nat} (h : ¬ (v = 1 ∨ v = 3)) : nsd v = true := by simp [nsd]; omega
theorem nsd_f {v : Nat} (h : v = 1 ∨ v = 3) : nsd v = false := by simp [nsd]; omega
theorem FRK_Fr {μ μ' : mH} (h : FRK μ μ') (K : Nat) (hK : K ∉ [3, 24, 26, 27, 29, 30, 31, 32, 33]) : μ' K = μ K := h.1 K hK
def FRX (μ μ' : mH) : Prop := Fr [0, 3, 24, 26, 27, 29, 30, 31, 32, 33, 34, 35, 36] μ μ' ∧ ∀ q, q ≠ 88 → μ' 24 q = μ 24 q
theorem DC_fr {f0 f1 hd ln : Nat → Nat} {nf : Nat} {l : List Nat} {μ μ' : mH} (h : DC f0 f1 hd ln nf μ) (hF : Fr l μ μ') (h0 : ∀ s, s ≠ 1 → μ' 0 0 s = μ 0 0 s) (h35 : 35 ∉ l) (h37 : 37 ∉ l) (h38 : 38 ∉ l) : DC f0 f1 hd ln nf μ' := ⟨RW_fr h.1 hF h35, RW_fr h.2.1 hF h35, HD_fr h.2.2.1 hF (h0 0 (by decide)) h37 h38, fun z => by
  rw [h0 8 (by decide)] at z
  rw [h0 9 (by decide)]
  rcases h.2.2.2 z with ⟨a, b, c⟩ | y
  · exact Or.inl ⟨a, b, RW_fr c hF h35⟩
  · exact Or.inr y⟩
theorem JC_fr {fm : Nat → Nat} {nr : Nat} {ml : Nat → Nat} {st : Nat → Nat → Nat} {l : List Nat} {μ μ' : mH} (h : JC fm nr ml st μ) (hF : Fr l μ μ') (h3 : 3 ∉ l) (h26 : 26 ∉ l) (h27 : 27 ∉ l) (h7 : ∀ q, q < 80 → μ' 7 q = μ 7 q) (h24 : ∀ q, q ≠ 80 → q ≠ 81 → q ≠ 82 → q ≠ 83 → q ≠ 84 → q ≠ 85 → q ≠ 86 → q ≠ 87 → μ' 24 q = μ 24 q) : JC fm nr ml st μ' := by
  obtain ⟨a, b⟩ := h
  refine ⟨?_, fun c hc => by rw [hF 27 h27]; exact b c hc⟩
  rw [hF 3 h3]
  rcases a with a | ⟨T, S, t1, t2, t3, t4, v, dat, v1, v2, v3, v4⟩
  · exact Or.inl a
  · exact Or.inr ⟨T, S, t1, t2, t3, t4, v, dat, v1, by rw [hF 3 h3]; exact v2, CPC_fr v3 (by rw [hF 3 h3]) (by rw [hF 3 h3]) (hF 26 h26) h7 (fun q hq => h24 q (by omega) (by omega) (by omega) (by omega) (by omega) (by omega) (by omega) (by omega)), fun h i hi => by rw [h24 88 (by decide) (by decide) (by decide) (by decide) (by decide) (by decide) (by decide) (by decide)]; exact v4 h i hi⟩
section PGP
variable {Γ : cx_T}
/-- the class's heap, as gaps and ask go over it -/
def CX (fm : Nat → Nat) (f nr : Nat) (dr ml : Nat → Nat) (st : Nat → Nat → Nat) (f0 f1 hd ln : Nat → Nat) (nf : Nat) (μ0 μ : mH) : Prop := FMC 1 fm μ ∧ RDC fm nr dr ml st μ ∧ JC fm nr ml st μ ∧ DC f0 f1 hd ln nf μ ∧ FRX μ0 μ
theorem CX_k {fm : Nat → Nat} {f nr : Nat} {dr ml : Nat → Nat} {st : Nat → Nat → Nat} {f0 f1 hd ln : Nat → Nat} {nf : Nat} {μ0 μ μ' : mH} (h : CX fm f nr dr ml st f0 f1 hd ln nf μ0 μ) (hJ : JC fm nr ml st μ') (hR : RDC fm nr dr ml st μ') (hM : FMC 1 fm μ') (hK : FRK μ μ') : CX fm f nr dr ml st f0 f1 hd ln nf μ0 μ' := ⟨hM, hR, hJ, DC_fr h.2.2.2.1 hK.1 (fun s _ => Fr_at hK.1 (by decide) _ _) (by decide) (by decide) (by decide), ⟨Fr_tr h.2.2.2.2.1 (Fr_mono hK.1 (by decide)), fun q y => (hK.2 q y).trans (h.2.2.2.2.2 q y)⟩⟩
theorem CX_d {fm : Nat → Nat} {f nr : Nat} {dr ml : Nat → Nat} {st : Nat → Nat → Nat} {f0 f1 hd ln : Nat → Nat} {nf : Nat} {μ0 μ μ' : mH} (h : CX fm f nr dr ml st f0 f1 hd ln nf μ0 μ) (hD : DC f0 f1 hd ln nf μ') (hF : Fr [0, 34, 35, 36] μ μ') : CX fm f nr dr ml st f0 f1 hd ln nf μ0 μ' := ⟨FMC_fr h.1 hF (by decide), RDC_fr h.2.1 hF (by decide) (by decide) (by decide) (by decide) (by decide) (by decide) (fun q _ => by rw [hF 24 (by decide)]), JC_fr h.2.2.1 hF (by decide) (by decide) (by decide) (fun q _ => by rw [hF 7 (by decide)]) (fun q _ _ _ _ _ _ _ _ => by rw [hF 24 (by decide)]), hD, ⟨Fr_tr h.2.2.2.2.1 (Fr_mono hF (by decide)), fun q y => by rw [hF 24 (by decide)]; exact h.2.2.2.2.2 q y⟩⟩
def gpok (f : Nat) (o : Option (Nat → Nat)) (nf : Nat) (x : Int32) : Prop := f = 1 ∧ o ≠ none ∧ inN x nf
theorem c_gaps {fm : Nat → Nat} {f nr : Nat} {dr ml : Nat → Nat} {st : Nat → Nat → Nat} {f0 f1 hd ln sv : Nat → Nat} {nf : Nat} {x : Int32} {μ0 μ : mH} {Q : Int32 → mH → Prop} (hf : f ≤ 1) (h4 : μ 4 1 0 = nI f) (hO : f = 1 → OKF fm) (hsv : SV fm nr ml st sv) (hX : CX fm f nr dr ml st f0 f1 hd ln nf μ0 μ)
    (k1 : ∀ row, f = 1 → CRo f0 f1 hd ln nf 2 = some row → inN x nf → ∀ μ', CX fm f nr dr ml st f0 f1 hd ln nf μ0 μ' → Q (nI (fb_ct (fun i => nsd (sv (ca row (hd (tn x)) i))) (cN row (hd (tn x))))) μ')
    (k0 : ¬ gpok f (CRo f0 f1 hd ln nf 2) nf x → ∀ μ', CX fm f nr dr ml st f0 f1 hd ln nf μ0 μ' → Q (-1) μ') : cwi Γ M_X11_gaps [aR 11 0, aI x] μ Q := by
  have h4' : ∀ μ', Fr [0, 35, 36] μ μ' → μ' 4 1 0 = nI f := fun μ' F => by rw [Fr_at F (by decide)]; exact h4
  refine u_X11_gaps (c_rowOf hX.2.2.2.1 (fun i row μ1 e R D F => ?_) (fun μ1 e D F => ?_))
  · have X1 := CX_d hX D (Fr_mono F (by decide))
    rw [h4' μ1 F]
    refine pk_eq f 0 (fun c => k0 (fun q => by have := q.1; omega) μ1 X1) (fun c => ⟨fun z => (nomatch z), fun j z _ => ?_⟩)
    cases z
    have hnf := D.2.2.1.1
    refine s_dholds (n := nf) (by omega) D.2.2.1.2.1 (fun h => ⟨fun z => absurd rfl z, fun _ => k0 (fun q => h q.2.2) μ1 X1⟩) (fun h => ⟨fun _ => ?_, fun z => absurd z (by decide)⟩)
    have f1' : f = 1 := by omega
    have k1 := k1 row f1' e h
    obtain ⟨e2, l2⟩ := h
    conv => arg 3; rw [e2]
    have g1 := (D.2.2.1.2.2 _ l2).1
    have hN := cN_le row (hd (tn x))
    refine c_walk l2 D.2.2.1 R (fun μ2 F2 s2 n2 p2 => ?_)
    have X2 := CX_d X1 (DC_fr D F2 s2 (by decide) (by decide) (by decide)) (Fr_mono F2 (by decide))
    generalize eN : cN row (hd (tn x)) = N at *
    have lp : ∀ d i (μ3 : mH), i + d = N → CX fm f nr dr ml st f0 f1 hd ln nf μ0 μ3 → μ3 0 0 1 = nI N → (∀ j, j < N → μ3 34 0 j = nI (ca row (hd (tn x)) j)) → aw Γ M_X11_gaps 50 [aR 11 0, aX, aX, aI (nI (fb_ct (fun i => nsd (sv (ca row (hd (tn x)) i))) i)), aI (nI i)] [] μ3 (rI Q) := by
      intro d
      induction d with
      | zero =>
        intro i μ3 hi X3 n3 p3
        obtain rfl : i = N := by omega
        refine u_X11_gaps_50 ?_
        rw [n3]
        exact br_t (nI_le (Nat.le_refl _) (by omega)) (k1 μ3 X3)
      | succ d ih =>
        intro i μ3 hi X3 n3 p3
        have go := fun μ4 => ih (i + 1) μ4 (by omega)
        rw [fb_ct_succ] at go
        obtain ⟨c1, _⟩ := cok_t (cN_t (row := row) (h := hd (tn x)) (k := i) (by omega))
        refine u_X11_gaps_50 ?_
        rw [n3, tn_nI (by omega), p3 i (by omega), nI_1 i]
        refine br_f (nI_ge (by omega) (by omega)) ⟨vp_in_nI (by omega) (by decide), c_judgeCluster c1 (hO f1') X3.1 X3.2.1 X3.2.2.1 (fun v dat μ4 hv J4 R4 M4 K4 => ?_)⟩
        obtain ⟨dat', hv'⟩ := hsv (ca row (hd (tn x)) i)
        have ev := (VER_one hv hv').1
        have X4 := CX_k X3 J4 R4 M4 K4
        have go := go μ4 X4 (by rw [Fr_at K4.1 (by decide)]; exact n3) (fun j hj => by rw [Fr_at K4.1 (by decide)]; exact p3 j hj)
        refine s_sound (VER_le hv) (fun s => ⟨fun _ => ?_, fun z => absurd z (by decide)⟩) (fun s => ⟨fun z => absurd rfl z, fun _ => ?_⟩)
        · simp only [nsd_f (show sv (ca row (hd (tn x)) i) = 1 ∨ sv (ca row (hd (tn x)) i) = 3 by omega), Bool.false_eq_true, if_false, Nat.add_zero] at go
          exact go
        · simp only [nsd_t (show ¬ (sv (ca row (hd (tn x)) i) = 1 ∨ sv (ca row (hd (tn x)) i) = 3) by omega), if_true] at go
          rw [nI_1]
          exact go
    exact lp N 0 μ2 (Nat.zero_add _) X2 n2 p2
  · have X1 := CX_d hX D (Fr_mono F (by decide))
    have q := k0 (fun q => q.2.1 e) μ1 X1
    exact ⟨fun _ => q, fun _ => ⟨fun _ => q, fun j z => (nomatch z)⟩⟩
/-- the reference's heap -/
def FRT (μ μ' : mH) : Prop := Fr [12, 50, 51, 52, 53, 54, 55, 56, 57, 58, 59, 60, 61] μ μ' ∧ ∀ s, s ≠ 20 → s ≠ 21 → s ≠ 26 → s ≠ 34 → μ' 12 0 s = μ 12 0 s
theorem FRT_rf {μ : mH} : FRT μ μ := ⟨Fr_rf, fun _ _ _ _ _ => rfl⟩
theorem FRT_tr {a b c : mH} (h : FRT a b) (h2 : FRT b c) : FRT a c := ⟨Fr_tr h.1 h2.1, fun s x y z w => (h2.2 s x y z w).trans (h.2 s x y z w)⟩
theorem FRT_s {a b : mH} (h : FRS a b) : FRT a b := ⟨Fr_mono h.1 (by decide), fun s x y z _ => h.2 s x y z⟩
theorem FRT_d {a b : mH} (h : Fr [12, 60, 61] a b) (h2 : ∀ s, s ≠ 34 → b 12 0 s = a 12 0 s) : FRT a b := ⟨Fr_mono h (by decide), fun s _ _ _ w => h2 s w⟩
theorem m_gaps {fm : Nat → Nat} {f nr : Nat} {dr ml : Nat → Nat} {st : Nat → Nat → Nat} {f0 f1 hd ln sv : Nat → Nat} {nf : Nat} {x : Int32} {μ : mH} {Q : Int32 → mH → Prop} (hf : f ≤ 1) (h4 : μ 12 0 8 = nI f) (hO : f = 1 → OKF fm) (hF : f = 1 → FMM fm μ) (hsv : SV fm nr ml st sv) (hR : RDM nr dr ml st μ) (hT : TM f0 f1 μ) (hH : HM nf hd ln μ)
    (k1 : ∀ row, f = 1 → CRo f0 f1 hd ln nf 2 = some row → inN x nf → ∀ μ', FRT μ μ' → Q (nI (fb_ct (fun i => nsd (sv (ca row (hd (tn x)) i))) (cN row (hd (tn x))))) μ')
    (k0 : ¬ gpok f (CRo f0 f1 hd ln nf 2) nf x → Q (-1) μ) : cwi Γ M_X12_gaps [aR 12 0, aI x] μ Q := by
  have hnf := hH.1
  refine u_X12_gaps (s_inN (n := nf) (by omega) (by rw [hH.2.1]) (fun h => ⟨fun _ => k0 (fun q => h q.2.2), fun z => absurd rfl z⟩) (fun h => ⟨fun z => absurd z (by decide), fun _ => ?_⟩))
  rw [h4]
  refine pk_eq f 0 (fun c => k0 (fun q => by have := q.1; omega)) (fun c => m_asks hT hH (fun row μ1 e R F s => ⟨fun _ => ?_, fun z => absurd z (by decide)⟩) (fun e => ⟨fun z => absurd rfl z, fun _ => k0 (fun q => q.2.1 e)⟩))
  have f1' : f = 1 := by omega
  have k1 := k1 row f1' e h
  have hO := hO f1'
  have hF := hF f1'
  obtain ⟨e2, l2⟩ := h
  conv => arg 3; rw [e2]
  have hN := cN_le row (hd (tn x))
  refine m_chains l2 (HM_fr hH F (s 16 (by decide)) (by decide) (by decide)) R (fun μ2 F2 s2 n2 p2 => ?_)
  have T2 : FRT μ μ2 := FRT_tr (FRT_d F s) (FRT_d (Fr_mono F2 (by decide)) s2)
  generalize eN : cN row (hd (tn x)) = N at *
  have lp : ∀ d i (μ3 : mH), i + d = N → FRT μ μ3 → μ3 12 0 34 = nI N → (∀ j, j < N → μ3 61 0 j = nI (ca row (hd (tn x)) j)) → aw Γ M_X12_gaps 40 [aR 12 0, aX, aI (nI (fb_ct (fun i => nsd (sv (ca row (hd (tn x)) i))) i)), aI (nI i)] [] μ3 (rI Q) := by
    intro d
    induction d with
    | zero =>
      intro i μ3 hi T3 n3 p3
      obtain rfl : i = N := by omega
      refine u_X12_gaps_40 ?_
      rw [n3]
      exact br_t (nI_le (Nat.le_refl _) (by omega)) (k1 μ3 T3)
    | succ d ih =>
      intro i μ3 hi T3 n3 p3
      have go := fun μ4 => ih (i + 1) μ4 (by omega)
      rw [fb_ct_succ] at go
      obtain ⟨c1, _⟩ := cok_t (cN_t (row := row) (h := hd (tn x)) (k := i) (by omega))
      refine u_X12_gaps_40 ?_
      rw [n3, tn_nI (by omega), p3 i (by omega), nI_1 i]
      generalize ca row (hd (tn x)) i = c at *
      rw [show nI c - nI c / (4 : Int32) * (4 : Int32) = nI (c % 4) from pk_rem (d := 4) (by omega) (by decide) (by decide), show nI c / (4 : Int32) = nI (c / 4) from pk_div (d := 4) (by omega) (by decide) (by decide)]
      refine br_f (nI_ge (by omega) (by omega)) ⟨vp_in_nI (by omega) (by decide), vp_in_nI (by omega) (by decide), m_statusOf (by omega) (by omega) hO (FMM_fr hF T3.1 (by decide)) (RDM_fr hR T3.1 (T3.2 11 (by decide) (by decide) (by decide) (by decide)) (by decide) (by decide) (by decide)) (fun v dat μ4 hv _ _ S4 => ?_)⟩
      obtain ⟨dat', hv'⟩ := hsv c
      have ev := (VER_one hv hv').1
      have go := go μ4 (FRT_tr T3 (FRT_s S4)) (by rw [S4.2 34 (by decide) (by decide) (by decide)]; exact n3) (fun j hj => by rw [Fr_at S4.1 (by decide)]; exact p3 j hj)
      refine s_whole (VER_le hv) (fun s => ⟨fun z => absurd z (by decide), fun _ => ?_⟩) (fun s => ⟨fun _ => ?_, fun z => absurd rfl z⟩)
      · simp only [nsd_f (show sv c = 1 ∨ sv c = 3 by omega), Bool.false_eq_true, if_false, Nat.add_zero] at go
        rw [show ∀ a, nI a + (0 : Int32) = nI a from fun a => nI_add a 0]
        exact go
      · simp only [nsd_t (show ¬ (sv c = 1 ∨ sv c = 3) by omega), if_true] at go
        rw [nI_1]
        exact go
  exact lp N 0 μ2 (Nat.zero_add _) T2 n2 p2
end PGP
