/-! verdicts -/
theorem CPC_fr {fm : Nat → Nat} {n : Nat} {V : Nat → Nat → Nat} {r : Nat → Bool} {μ μ' : mH} (h : CPC fm n V r μ) (h0 : μ' 3 0 0 = μ 3 0 0) (h1 : μ' 3 0 1 = μ 3 0 1) (h26 : μ' 26 = μ 26) (h7 : ∀ q, q < 80 → μ' 7 q = μ 7 q) (h24 : ∀ q, q < 80 → μ' 24 q = μ 24 q) : CPC fm n V r μ' := by
  obtain ⟨a, b, c⟩ := h
  refine ⟨by rw [h0]; exact a, by rw [h1]; exact b, fun k hk => ?_⟩
  obtain ⟨q, q1, q2, q3, q4, q5⟩ := c k hk
  exact ⟨q, q1, by rw [h26]; exact q2, by rw [h24 q q1]; exact q3, by rw [h7 q q1]; exact q4, by rw [h7 q q1]; exact q5⟩
section PVE
variable {Γ : cx_T}
theorem s_isRightC {fm : Nat → Nat} {T S n c q : Nat} {V : Nat → Nat → Nat} {r : Nat → Bool} {μ : mH} {Q : Int32 → mH → Prop} (hO : OKF fm) (hW : CPV fm T S n V r) (hc : c < n) (h3 : μ 7 q 3 = nI (256 * V c (2 + fm 4) + V c (3 + fm 4))) (h4 : μ 7 q 4 = nI (sm fm (V c) (2 + fm 4))) (k1 : r c = true → Q 1 μ) (k0 : r c = false → Q 0 μ) : cwi Γ M_X7_isRight [aR 7 q] μ Q := by
  obtain ⟨w1, _, _, w4⟩ := hW.2 c hc
  have l1 := w1 (2 + fm 4)
  have l2 := w1 (3 + fm 4)
  have l3 := sm_lt hO (2 + fm 4) (fun j _ => w1 j)
  refine u_X7_isRight ?_
  rw [h3, h4]
  refine ⟨fun z => k0 ?_, fun z => k1 ?_⟩
  · rw [w4, decide_eq_false_iff_not]
    exact fun y => z (by rw [y])
  · rw [w4, decide_eq_true_eq]
    exact (nI_eq (by omega) (by omega)).mp z
theorem s_hasData {z q q' : Nat} {v v' : Nat → Nat} {μ : mH} {Q : Int32 → mH → Prop} (hz : z ≤ 8) (h : ∀ i, i < z → v i < 256 ∧ v' i < 256 ∧ μ 24 q i = nI (v i) ∧ μ 24 q' i = nI (v' i)) (k1 : (∀ i, i < z → v i = v' i) → Q 1 μ) (k0 : (∃ i, i < z ∧ v i ≠ v' i) → Q 0 μ) : cwi Γ M_X7_hasData [aR 7 q, aR 7 q', aI (nI z)] μ Q := by
  have lp : ∀ d i, i + d = z → (∀ j, j < i → v j = v' j) → aw Γ M_X7_hasData 2 [aR 7 q, aR 7 q', aI (nI z), aI (nI i)] [] μ (rI Q) := by
    intro d
    induction d with
    | zero =>
      intro i hi hj
      obtain rfl : i = z := by omega
      exact u_X7_hasData_2 (br_t (nI_le (Nat.le_refl _) (by omega)) (k1 hj))
    | succ d ih =>
      intro i hi hj
      obtain ⟨a, b, c, e⟩ := h i (by omega)
      refine u_X7_hasData_2 (br_f (nI_ge (by omega) (by omega)) (br_f (nI_ge (b := 8) (by omega) (by decide)) ?_))
      rw [tn_nI (by omega), c, e, nI_1]
      refine ⟨vp_in_nI (by omega) (by decide), vp_in_nI (by omega) (by decide), fun y => ih (i + 1) (by omega) (fun j hj' => ?_), fun y => k0 ⟨i, by omega, fun w => y (by rw [w])⟩⟩
      by_cases w : j = i
      · subst w; exact (nI_eq (by omega) (by omega)).mp y
      · exact hj j (by omega)
  exact u_X7_hasData (lp z 0 (Nat.zero_add _) (fun j hj => absurd hj (by omega)))
theorem c_rightAgree {fm : Nat → Nat} {T S n : Nat} {V : Nat → Nat → Nat} {r : Nat → Bool} {μ : mH} {Q : Int32 → mH → Prop} (hO : OKF fm) (hW : CPV fm T S n V r) (hC : CPC fm n V r μ) (hr : 0 < fb_ct r n)
    (k1 : ∀ dat μ', VER fm T S n V r 1 dat → (∀ i, i < fm 4 → μ' 24 88 i = nI (dat i)) → Fr [24] μ μ' → (∀ q, q ≠ 88 → μ' 24 q = μ 24 q) → Q 1 μ') (k0 : ∀ dat, VER fm T S n V r 2 dat → Q 0 μ) : cwi Γ M_X3_rightAgree [aR 3 0, aI (nI (fm 4))] μ Q := by
  have o6 := hO.2.2.2.2.2.1
  have hn8 := hW.1
  obtain ⟨a0, a1, a2⟩ := hC
  have lpB : ∀ d c c0 q0, c + d = n → c0 < c → r c0 = true → (∀ c', c' < c0 → r c' = false) → q0 < 80 → (∀ i, i < fm 4 → μ 24 q0 i = nI (V c0 (2 + i))) → (∀ c', c' < c → r c' = true → ∀ i, i < fm 4 → V c' (2 + i) = V c0 (2 + i)) → aw Γ M_X3_rightAgree 4 [aR 3 0, aI (nI (fm 4)), aQ 7 (some q0), aI (nI c)] [] μ (rI Q) := by
    intro d
    induction d with
    | zero =>
      intro c c0 q0 hc h0 r0 rl hq hd ha
      obtain rfl : c = n := by omega
      refine u_X3_rightAgree_4 ?_
      rw [a0]
      refine br_t (nI_le (Nat.le_refl _) (by omega)) ⟨fun z => (nomatch z), fun j1 hj1 _ => ?_⟩
      obtain rfl : q0 = j1 := by injection hj1
      refine k1 (fun i => V c0 (2 + i)) _ (Or.inr (Or.inl ⟨c0, h0, r0, rl, fun i _ => rfl, Or.inl ⟨rfl, ha⟩⟩)) (fun i hi => ?_) (fun K hK => ?_) (fun q y => ?_)
      · unfold cpy
        rw [if_pos ⟨rfl, rfl, by omega, by omega⟩, show 0 + (i - 0) = i by omega]
        exact hd i hi
      · funext x y
        exact if_neg (fun z => hK (by rw [z.1]; decide))
      · funext s'
        exact if_neg (fun z => y z.2.1)
    | succ d ih =>
      intro c c0 q0 hc h0 r0 rl hq hd ha
      obtain ⟨q, q1, q2, q3, q4, q5⟩ := a2 c (by omega)
      have w1 := (hW.2 c (by omega)).1
      have w0 := (hW.2 c0 (by omega)).1
      refine u_X3_rightAgree_4 ?_
      rw [a0, tn_nI (by omega), nI_1]
      refine br_f (nI_ge (by omega) (by omega)) ⟨vp_in_nI (by omega) (by decide), q, q2, by omega, s_isRightC hO hW (show c < n by omega) q4 q5 (fun rc => ⟨fun z => absurd z (by decide), fun _ => ⟨fun z => (nomatch z), fun j5 hj5 _ => ⟨vp_in_nI (by omega) (by decide), q, q2, by omega, ?_⟩⟩⟩) (fun rc => ⟨fun _ => ih (c + 1) c0 q0 (by omega) (by omega) r0 rl hq hd (fun c' hc' rc' => ?_), fun z => absurd rfl z⟩)⟩
      · obtain rfl : q0 = j5 := by injection hj5
        refine s_hasData (v := fun i => V c0 (2 + i)) (v' := fun i => V c (2 + i)) o6 (fun i hi => ⟨w0 _, w1 _, hd i hi, q3 i hi⟩) (fun he => ⟨fun _ => ih (c + 1) c0 q0 (by omega) (by omega) r0 rl hq hd (fun c' hc' rc' => ?_), fun z => absurd z (by decide)⟩) (fun ⟨i, hi, he⟩ => ⟨fun z => absurd rfl z, fun _ => k0 (fun i => V c0 (2 + i)) (Or.inr (Or.inl ⟨c0, by omega, r0, rl, fun i _ => rfl, Or.inr ⟨rfl, c, by omega, rc, i, hi, fun y => he y.symm⟩⟩))⟩)
        by_cases e : c' = c
        · subst e; exact fun i hi => (he i hi).symm
        · exact ha c' (by omega) rc'
      · by_cases e : c' = c
        · subst e; rw [rc] at rc'; cases rc'
        · exact ha c' (by omega) rc'
  have lpA : ∀ d c, c + d = n → (∀ c', c' < c → r c' = false) → aw Γ M_X3_rightAgree 4 [aR 3 0, aI (nI (fm 4)), aQ 7 none, aI (nI c)] [] μ (rI Q) := by
    intro d
    induction d with
    | zero =>
      intro c hc hl
      obtain rfl : c = n := by omega
      exact absurd (fb_ct_zero.mpr hl) (by omega)
    | succ d ih =>
      intro c hc hl
      obtain ⟨q, q1, q2, q3, q4, q5⟩ := a2 c (by omega)
      refine u_X3_rightAgree_4 ?_
      rw [a0, tn_nI (by omega), nI_1]
      refine br_f (nI_ge (by omega) (by omega)) ⟨vp_in_nI (by omega) (by decide), q, q2, by omega, s_isRightC hO hW (show c < n by omega) q4 q5 (fun rc => ⟨fun z => absurd z (by decide), fun _ => ⟨fun _ => ⟨vp_in_nI (by omega) (by decide), q, q2, by omega, ?_⟩, fun j5 z => (nomatch z)⟩⟩) (fun rc => ⟨fun _ => ih (c + 1) (by omega) (fun c' hc' => ?_), fun z => absurd rfl z⟩)⟩
      · refine lpB d (c + 1) c q (by omega) (by omega) rc hl q1 q3 (fun c' hc' rc' i hi => ?_)
        by_cases e : c' = c
        · rw [e]
        · rw [hl c' (by omega)] at rc'; cases rc'
      · by_cases e : c' = c
        · subst e; exact rc
        · exact hl c' (by omega)
  exact u_X3_rightAgree (lpA n 0 (Nat.zero_add _) (fun c' hc' => absurd hc' (by omega)))
end PVE
def JV (fm : Nat → Nat) (nr : Nat) (ml : Nat → Nat) (st : Nat → Nat → Nat) (T S : Nat) (μ : mH) : Prop := ∃ v dat, VER fm T S (gN fm nr ml st T S) (gV fm nr ml st T S) (gR fm nr ml st T S) v dat ∧ μ 3 0 2 = nI v ∧ CPC fm (gN fm nr ml st T S) (gV fm nr ml st T S) (gR fm nr ml st T S) μ ∧ (v = 1 ∨ v = 3 → ∀ i, i < fm 4 → μ 24 88 i = nI (dat i))
def JC (fm : Nat → Nat) (nr : Nat) (ml : Nat → Nat) (st : Nat → Nat → Nat) (μ : mH) : Prop := ((μ 3 0 5 = -1 ∧ μ 3 0 6 = -1) ∨ ∃ T S, T < 256 ∧ S < 256 ∧ μ 3 0 5 = nI T ∧ μ 3 0 6 = nI S ∧ JV fm nr ml st T S μ) ∧ ∀ c, c < 24 → μ 27 0 c = -1 ∨ ∃ v dat, VER fm (c / 4) (c % 4) (gN fm nr ml st (c / 4) (c % 4)) (gV fm nr ml st (c / 4) (c % 4)) (gR fm nr ml st (c / 4) (c % 4)) v dat ∧ μ 27 0 c = nI v
def FRK (μ μ' : mH) : Prop := Fr [3, 24, 26, 27, 29, 30, 31, 32, 33] μ μ' ∧ ∀ q, q ≠ 88 → μ' 24 q = μ 24 q
theorem FRK_rf {μ : mH} : FRK μ μ := ⟨Fr_rf, fun _ _ => rfl⟩
theorem FRK_tr {a b c : mH} (h : FRK a b) (h2 : FRK b c) : FRK a c := ⟨Fr_tr h.1 h2.1, fun q y => (h2.2 q y).trans (h.2 q y)⟩
theorem RDC_fr {fm : Nat → Nat} {nr : Nat} {dr ml : Nat → Nat} {st : Nat → Nat → Nat} {l : List Nat} {μ μ' : mH} (h : RDC fm nr dr ml st μ) (hF : Fr l μ μ') (h1 : 1 ∉ l) (h7 : 7 ∉ l) (h8 : 8 ∉ l) (h9 : 9 ∉ l) (h10 : 10 ∉ l) (h21 : 21 ∉ l) (h24 : ∀ q, q < 80 → μ' 24 q = μ 24 q) : RDC fm nr dr ml st μ' := by
  obtain ⟨r1, r2, r3⟩ := h
  refine ⟨r1, by rw [hF 8 h8]; exact r2, fun r hr => ?_⟩
  obtain ⟨a1, a2, a3, a4, a5⟩ := r3 r hr
  refine ⟨a1, by rw [hF 9 h9]; exact a2, TPC_at a3 (by rw [hF 10 h10]) (by rw [hF 21 h21]), FDC_at a4 (by rw [hF 1 h1]) (fun q hq => ⟨by rw [hF 7 h7], h24 q (by omega)⟩), fun y => ?_⟩
  rw [hF 9 h9] at y
  have := a5 y
  unfold TUN at this ⊢
  rw [hF 9 h9]
  exact this
section PJU
variable {Γ : cx_T}
theorem c_judge {fm : Nat → Nat} {nr T S : Nat} {dr ml : Nat → Nat} {st : Nat → Nat → Nat} {μ : mH} {Q : mH → Prop} (hT : T < 256) (hS : S < 256) (hO : OKF fm) (hF : FMC 1 fm μ) (hR : RDC fm nr dr ml st μ) (hJ : JC fm nr ml st μ)
    (kk : ∀ μ', JV fm nr ml st T S μ' → JC fm nr ml st μ' → RDC fm nr dr ml st μ' → FMC 1 fm μ' → FRK μ μ' → Q μ') : cwv Γ M_X3_judge [aR 3 0, aI (nI T), aI (nI S), aR 8 0, aR 4 1] μ Q := by
  have hW := g_CPV (fm := fm) (nr := nr) (ml := ml) (st := st) (T := T) (S := S) hR.1
  have hn8 := hW.1
  have go : aw Γ M_X3_judge 17 [aR 3 0, aI (nI T), aI (nI S), aR 8 0, aR 4 1] [] μ (rV Q) := by
    have F0 : Fr [3] μ (sto (sto μ 3 0 5 (nI T)) 3 0 6 (nI S)) := Fr_st2 (Fr_sto (by decide)) (by decide)
    have R0 := RDC_fr hR F0 (by decide) (by decide) (by decide) (by decide) (by decide) (by decide) (fun q _ => by rw [F0 24 (by decide)])
    refine u_X3_judge_17 (c_gather hT hS hO R0 (by rw [sto_s (by decide), sto_eq]) sto_eq (fun μ1 C1 F1 s1 => ?_))
    have F01 : Fr [3, 26] μ μ1 := Fr_tr (Fr_mono F0 (by decide)) F1
    have e5 : μ1 3 0 5 = nI T := by rw [s1 5 (by decide) (by decide), sto_s (by decide), sto_eq]
    have e6 : μ1 3 0 6 = nI S := by rw [s1 6 (by decide) (by decide), sto_eq]
    have M1 := FMC_fr hF F01 (by decide)
    have fin : ∀ (μ2 : mH) (v : Nat) (dat : Nat → Nat), VER fm T S (gN fm nr ml st T S) (gV fm nr ml st T S) (gR fm nr ml st T S) v dat → Fr [24, 29, 30, 31, 32] μ1 μ2 → (∀ q, q ≠ 88 → μ2 24 q = μ1 24 q) → (v = 1 ∨ v = 3 → ∀ i, i < fm 4 → μ2 24 88 i = nI (dat i)) → Q (sto μ2 3 0 2 (nI v)) := by
      intro μ2 v dat hv F2 q2 hd
      have Fa : Fr [3, 24, 26, 29, 30, 31, 32] μ (sto μ2 3 0 2 (nI v)) := Fr_st2 (Fr_tr (Fr_mono F01 (by decide)) (Fr_mono F2 (by decide))) (by decide)
      have qa : ∀ q, q ≠ 88 → (sto μ2 3 0 2 (nI v)) 24 q = μ 24 q := fun q y => by
        rw [← F01 24 (by decide), ← q2 q y]
        funext s'
        exact sto_K (by decide)
      have jv : JV fm nr ml st T S (sto μ2 3 0 2 (nI v)) := ⟨v, dat, hv, sto_eq, CPC_fr C1 (by rw [sto_s (by decide), Fr_at F2 (by decide)]) (by rw [sto_s (by decide), Fr_at F2 (by decide)]) (by funext a b; rw [sto_K (by decide), Fr_at F2 (by decide)]) (fun q _ => by funext s'; rw [sto_K (by decide), Fr_at F2 (by decide)]) (fun q hq => by rw [← q2 q (by omega)]; funext s'; exact sto_K (by decide)), fun h i hi => by rw [sto_K (by decide)]; exact hd h i hi⟩
      refine kk _ jv ⟨Or.inr ⟨T, S, hT, hS, ?_, ?_, jv⟩, fun c hc => ?_⟩ (RDC_fr hR Fa (by decide) (by decide) (by decide) (by decide) (by decide) (by decide) (fun q hq => qa q (by omega))) (FMC_fr hF Fa (by decide)) ⟨Fr_mono Fa (by decide), qa⟩
      · rw [sto_s (by decide), Fr_at F2 (by decide)]; exact e5
      · rw [sto_s (by decide), Fr_at F2 (by decide)]; exact e6
      · rw [Fr_at Fa (by decide)]; exact hJ.2 c hc
    have hrl := fb_ct_le (gR fm nr ml st T S) (gN fm nr ml st T S)
    rw [C1.1, C1.2.1]
    refine ⟨fun z => ?_, fun z => fin μ1 0 (fun _ => 0) (Or.inl ⟨(nI_eq (b := 0) (by omega) (by decide)).mp z, rfl⟩) Fr_rf (fun _ _ => rfl) (fun h => by omega)⟩
    have hn : 0 < gN fm nr ml st T S := by
      have : gN fm nr ml st T S ≠ 0 := fun y => z (by rw [y]; rfl)
      omega
    refine pk_le (fb_ct (gR fm nr ml st T S) (gN fm nr ml st T S)) 0 (fun c => ?_) (fun c => ?_)
    · have hno := fb_ct_zero.mp (show fb_ct (gR fm nr ml st T S) (gN fm nr ml st T S) = 0 by omega)
      refine c_mend hO hT hS M1 hn hW C1 e5 e6 (fun dat μ2 hu hd J2 => ⟨fun y => absurd y (by decide), fun _ => fin μ2 3 dat (Or.inr (Or.inr ⟨hn, hno, Or.inl ⟨rfl, hu⟩⟩)) J2.1 J2.2 (fun _ => hd)⟩) (fun hu μ2 J2 => ⟨fun _ => fin μ2 4 (fun _ => 0) (Or.inr (Or.inr ⟨hn, hno, Or.inr ⟨rfl, hu⟩⟩)) J2.1 J2.2 (fun h => by omega), fun y => absurd rfl y⟩)
    · rw [M1 4 (by decide) (by decide)]
      exact c_rightAgree hO hW C1 c (fun dat μ2 hv hd F2 q2 => ⟨fun y => absurd y (by decide), fun _ => fin μ2 1 dat hv (Fr_mono F2 (by decide)) q2 (fun _ => hd)⟩) (fun dat hv => ⟨fun _ => fin μ1 2 dat hv Fr_rf (fun _ _ => rfl) (fun h => by omega), fun y => absurd rfl y⟩)
  rcases hJ.1 with ⟨a, b⟩ | ⟨T', S', t1, t2, t3, t4, t5⟩
  · refine u_X3_judge ⟨fun _ => go, fun z => absurd (a.symm.trans z) (fun y => nI_m1 (show T < 2 ^ 31 by omega) y.symm)⟩
  · refine u_X3_judge ⟨fun _ => go, fun z => ⟨fun _ => go, fun y => ?_⟩⟩
    rw [t3] at z
    rw [t4] at y
    have z := (nI_eq (by omega) (by omega)).mp z
    have y := (nI_eq (by omega) (by omega)).mp y
    subst z
    subst y
    exact kk μ t5 hJ hR hF FRK_rf
theorem c_judgeCluster {fm : Nat → Nat} {nr c : Nat} {dr ml : Nat → Nat} {st : Nat → Nat → Nat} {μ : mH} {Q : Int32 → mH → Prop} (hc : c < 24) (hO : OKF fm) (hF : FMC 1 fm μ) (hR : RDC fm nr dr ml st μ) (hJ : JC fm nr ml st μ)
    (kk : ∀ v dat μ', VER fm (c / 4) (c % 4) (gN fm nr ml st (c / 4) (c % 4)) (gV fm nr ml st (c / 4) (c % 4)) (gR fm nr ml st (c / 4) (c % 4)) v dat → JC fm nr ml st μ' → RDC fm nr dr ml st μ' → FMC 1 fm μ' → FRK μ μ' → Q (nI v) μ') : cwi Γ M_X3_judgeCluster [aR 3 0, aI (nI c), aR 8 0, aR 4 1] μ Q := by
  refine u_X3_judgeCluster (s_clN (fun h => absurd (inN_of hc (by decide)) h) (fun _ => ⟨fun _ => ⟨vp_in_nI hc (by decide), ?_⟩, fun z => absurd z (by decide)⟩))
  rw [tn_nI (by omega)]
  refine ⟨fun z => ⟨vp_in_nI hc (by decide), ?_⟩, fun z => ?_⟩
  · rcases hJ.2 c hc with h | ⟨v, dat, h1, h2⟩
    · exact absurd h z
    · rw [h2]
      exact kk v dat μ h1 hJ hR hF FRK_rf
  · rw [show nI c / (4 : Int32) = nI (c / 4) from pk_div (d := 4) (by omega) (by decide) (by decide), show nI c - nI (c / 4) * (4 : Int32) = nI (c % 4) by rw [← show nI c / (4 : Int32) = nI (c / 4) from pk_div (d := 4) (by omega) (by decide) (by decide)]; exact pk_rem (d := 4) (by omega) (by decide) (by decide)]
    refine c_judge (by omega) (by omega) hO hF hR hJ (fun μ1 V1 J1 R1 M1 K1 => ⟨vp_in_nI hc (by decide), vp_in_nI hc (by decide), ?_⟩)
    obtain ⟨v, dat, v1, v2, v3, v4⟩ := V1
    rw [v2]
    have Fa : Fr [27] μ1 (sto μ1 27 0 c (nI v)) := Fr_sto (by decide)
    have q24 : ∀ q, (sto μ1 27 0 c (nI v)) 24 q = μ1 24 q := fun q => by funext s'; exact sto_K (by decide)
    refine kk v dat _ v1 ⟨?_, fun c' hc' => ?_⟩ (RDC_fr R1 Fa (by decide) (by decide) (by decide) (by decide) (by decide) (by decide) (fun q _ => q24 q)) (FMC_fr M1 Fa (by decide)) (FRK_tr K1 ⟨Fr_mono Fa (by decide), fun q _ => q24 q⟩)
    · rw [sto_K (by decide), sto_K (by decide)]
      rcases J1.1 with h | ⟨T, S, t1, t2, t3, t4, w, dat', w1, w2, w3, w4⟩
      · exact Or.inl h
      · exact Or.inr ⟨T, S, t1, t2, t3, t4, w, dat', w1, by rw [sto_K (by decide)]; exact w2, CPC_fr w3 (sto_K (by decide)) (sto_K (by decide)) (by funext a b; exact sto_K (by decide)) (fun q _ => by funext s'; exact sto_K (by decide)) (fun q _ => q24 q), fun h i hi => by rw [sto_K (by decide)]; exact w4 h i hi⟩
    · by_cases e : c' = c
      · subst e
        rw [sto_eq]
        exact Or.inr ⟨v, dat, v1, rfl⟩
      · rw [sto_s e]; exact J1.2 c' hc'
end PJU
