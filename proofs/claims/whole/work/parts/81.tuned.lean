/-! tuned -/
theorem tlo_8 {fm : Nat → Nat} (h : OKF fm) : 8 ≤ tlo fm ∧ tlo fm ≤ thi fm ∧ thi fm ≤ 60 := by
  obtain ⟨o1, o2, _⟩ := h
  unfold tlo thi
  omega
theorem tlo_I {fm : Nat → Nat} (h : OKF fm) : smx 8 (nI (fm 1) - 6) = nI (tlo fm) := by
  obtain ⟨o1, o2, _⟩ := h
  rw [show nI (fm 1) - (6 : Int32) = nI (fm 1 - 6) from pk_sub (b := 6) (by omega)]
  show (if nI 8 < nI (fm 1 - 6) then nI (fm 1 - 6) else nI 8) = _
  unfold tlo
  by_cases c : 8 < fm 1 - 6
  · rw [if_pos (nI_lt c (by omega)), show max 8 (fm 1 - 6) = fm 1 - 6 by omega]
  · rw [if_neg (nI_nlt (a := 8) (b := fm 1 - 6) (by omega) (by decide)), show max 8 (fm 1 - 6) = 8 by omega]
theorem thi_I {fm : Nat → Nat} (h : OKF fm) : smn 60 (nI (fm 1) + 6) = nI (thi fm) := by
  obtain ⟨o1, o2, _⟩ := h
  rw [show nI (fm 1) + (6 : Int32) = nI (fm 1 + 6) from nI_add _ 6]
  show (if nI (fm 1 + 6) < nI 60 then nI (fm 1 + 6) else nI 60) = _
  unfold thi
  by_cases c : fm 1 + 6 < 60
  · rw [if_pos (nI_lt c (by decide)), show min 60 (fm 1 + 6) = fm 1 + 6 by omega]
  · rw [if_neg (nI_nlt (a := fm 1 + 6) (b := 60) (by omega) (by omega)), show min 60 (fm 1 + 6) = 60 by omega]
theorem tR_le (fm s : Nat → Nat) (m e : Nat) : tR fm s m e ≤ 8 := by
  have h := FN_le fm (rbt (tlo fm + e / 9) (e % 9) s m) (rz (tlo fm + e / 9) (e % 9) s m)
  have h2 := fb_ct_le (fun k => rg fm (rbt (tlo fm + e / 9) (e % 9) s m) (FP fm (rbt (tlo fm + e / 9) (e % 9) s m) (rz (tlo fm + e / 9) (e % 9) s m) k)) (FN fm (rbt (tlo fm + e / 9) (e % 9) s m) (rz (tlo fm + e / 9) (e % 9) s m))
  unfold tR Rn
  omega
theorem tS_le {fm : Nat → Nat} (hO : OKF fm) (s : Nat → Nat) (m e : Nat) : tS fm s m e ≤ 768 := by
  have h := FN_le fm (rbt (tlo fm + e / 9) (e % 9) s m) (rz (tlo fm + e / 9) (e % 9) s m)
  have h2 := smk_le (b := rbt (tlo fm + e / 9) (e % 9) s m) (nb := rz (tlo fm + e / 9) (e % 9) s m) hO (FN fm (rbt (tlo fm + e / 9) (e % 9) s m) (rz (tlo fm + e / 9) (e % 9) s m))
  unfold tS Sn
  omega
def TI (fm s : Nat → Nat) (m r e : Nat) (μ : mH) : Prop := (e = 0 ∧ μ 9 r 6 = -1) ∨ (0 < e ∧ TUN fm s m r (e - 1) μ)
def TJ (fm s : Nat → Nat) (m r : Nat) (μ0 : mH) (e : Nat) (μ : mH) : Prop := Fr [1, 5, 7, 9, 22, 24] μ0 μ ∧ (∀ t', t' ≠ 10 → μ 1 t' = μ0 1 t') ∧ (∀ q, q / 8 ≠ 10 → μ 7 q = μ0 7 q ∧ μ 24 q = μ0 24 q) ∧ (∀ r', r' ≠ r → μ 9 r' = μ0 9 r') ∧ (∀ s, s < 4 → μ 9 r s = μ0 9 r s) ∧ TI fm s m r e μ
section PTU
variable {Γ : cx_T}
theorem s_keep {fm s : Nat → Nat} {m r e nb : Nat} {b : Nat → Nat} {μ0 μ : mH} {Q : mH → Prop} (hO : OKF fm) (hb : ∀ j, b j ≤ 1) (eb : b = rbt (tlo fm + e / 9) (e % 9) s m) (en : nb = rz (tlo fm + e / 9) (e % 9) s m) (hD : FDC fm b nb 10 μ) (hJ : TJ fm s m r μ0 e μ) (kk : ∀ μ', TJ fm s m r μ0 (e + 1) μ' → Q μ') : cwv Γ M_X8_keepBetter [aR 8 0, aR 9 r, aI (nI (tlo fm + e / 9)), aI (nI (e % 9))] μ Q := by
  refine u_X8_keepBetter (c_rightOnes hO hb hD (c_slipsOfRight hO hb hD ?_))
  have eR : Rn fm b nb = tR fm s m e := by rw [eb, en]; rfl
  have eS : Sn fm b nb = tS fm s m e := by rw [eb, en]; rfl
  rw [eR, eS]
  obtain ⟨j1, j2, j3, j4, j5, j6⟩ := hJ
  have lR := tR_le fm s m
  have lS := tS_le hO s m
  have set : tb fm s m e = e → Q (sto (sto (sto (sto μ 9 r 4 (nI (tlo fm + e / 9))) 9 r 5 (nI (e % 9))) 9 r 6 (nI (tR fm s m e))) 9 r 7 (nI (tS fm s m e))) := fun et => by
    refine kk _ ⟨Fr_st2 (Fr_st2 (Fr_st2 (Fr_st2 j1 (by decide)) (by decide)) (by decide)) (by decide), fun t' z => ?_, fun q z => ?_, fun r' z => ?_, fun s' z => ?_, Or.inr ⟨by omega, ?_⟩⟩
    · rw [← j2 t' z]
      funext s'
      rw [sto_K (by decide), sto_K (by decide), sto_K (by decide), sto_K (by decide)]
    · rw [← (j3 q z).1, ← (j3 q z).2]
      exact ⟨by funext s'; rw [sto_K (by decide), sto_K (by decide), sto_K (by decide), sto_K (by decide)], by funext s'; rw [sto_K (by decide), sto_K (by decide), sto_K (by decide), sto_K (by decide)]⟩
    · rw [← j4 r' z]
      funext s'
      rw [sto_i z, sto_i z, sto_i z, sto_i z]
    · rw [sto_s (by omega), sto_s (by omega), sto_s (by omega), sto_s (by omega)]
      exact j5 s' z
    · rw [show e + 1 - 1 = e by omega]
      unfold TUN
      rw [et]
      refine ⟨?_, ?_, ?_, sto_eq⟩
      · rw [sto_s (by decide), sto_s (by decide), sto_s (by decide), sto_eq]
      · rw [sto_s (by decide), sto_s (by decide), sto_eq]
      · rw [sto_s (by decide), sto_eq]
  rcases j6 with ⟨e0, h6⟩ | ⟨e1, t4, t5, t6, t7⟩
  · rw [h6]
    exact br_t (neg_lt (by decide) (by have := lR e; omega)) (set (by rw [e0]; rfl))
  · have ee : e = (e - 1) + 1 := by omega
    have et : tb fm s m e = if tbt fm s m e (tb fm s m (e - 1)) then e else tb fm s m (e - 1) := by
      conv => lhs; rw [ee]
      show (if tbt fm s m (e - 1 + 1) _ then e - 1 + 1 else _) = _
      rw [← ee]
    have keep : tbt fm s m e (tb fm s m (e - 1)) = false → Q μ := fun c => kk μ ⟨j1, j2, j3, j4, j5, Or.inr ⟨by omega, by
      rw [show e + 1 - 1 = e by omega]
      unfold TUN
      rw [et, c]
      exact ⟨t4, t5, t6, t7⟩⟩⟩
    have set : tbt fm s m e (tb fm s m (e - 1)) = true → _ := fun c => set (by rw [et, c]; rfl)
    have l1 := lR e
    have l2 := lR (tb fm s m (e - 1))
    have l3 := lS e
    have l4 := lS (tb fm s m (e - 1))
    rw [t6, t7]
    refine pk_lt (tR fm s m (tb fm s m (e - 1))) (tR fm s m e) (fun c => set (by simp [tbt, c])) (fun c => ⟨fun z => keep ?_, fun z => ?_⟩)
    · have : tR fm s m e ≠ tR fm s m (tb fm s m (e - 1)) := fun y => z (by rw [y])
      simp [tbt]
      omega
    · have z := (nI_eq (by omega) (by omega)).mp z
      refine pk_le (tS fm s m (tb fm s m (e - 1))) (tS fm s m e) (fun c2 => keep ?_) (fun c2 => set ?_)
      · simp [tbt]
        omega
      · simp [tbt, z, c2]
theorem tune_lp {fm s : Nat → Nat} {m r : Nat} {μ0 : mH} {Q : mH → Prop} (hO : OKF fm) (hF : FMC 1 fm μ0) (hT : TPC (r + 1) m s μ0) (kk : ∀ μ', TJ fm s m r μ0 (tE fm) μ' → Q μ') :
    ∀ (d i : Nat) (μ : mH), i + d = thi fm - tlo fm + 1 → TJ fm s m r μ0 (9 * i) μ → aw Γ M_X8_tune 73 [aR 8 0, aX, aR 4 1, aR 5 0, aR 9 r, aX, aI (nI (thi fm)), aI (nI (tlo fm + i)), aX] [] μ (rV Q) := by
  obtain ⟨l1, l2, l3⟩ := tlo_8 hO
  intro d
  induction d with
  | zero =>
    intro i μ hi hJ
    refine u_X8_tune_73 (br_t (nI_lt (by omega) (by omega)) (kk μ ?_))
    unfold tE
    rw [← show i = thi fm - tlo fm + 1 by omega]
    exact hJ
  | succ d ih =>
    intro i μ hi hJ
    refine u_X8_tune_73 (br_f (nI_nlt (by omega) (by omega)) ?_)
    have lp : ∀ d2 g (μ1 : mH), g + d2 = 9 → TJ fm s m r μ0 (9 * i + g) μ1 → aw Γ M_X8_tune 83 [aR 8 0, aX, aR 4 1, aR 5 0, aR 9 r, aX, aI (nI (thi fm)), aI (nI (tlo fm + i)), aI (nI g)] [] μ1 (rV Q) := by
      intro d2
      induction d2 with
      | zero =>
        intro g μ1 hg hJ1
        obtain rfl : g = 9 := by omega
        refine u_X8_tune_83 (br_t (by decide) ?_)
        rw [nI_1]
        exact ih (i + 1) μ1 (by omega) hJ1
      | succ d2 ih2 =>
        intro g μ1 hg hJ1
        refine u_X8_tune_83 (br_f (nI_nlt (a := 8) (b := g) (by omega) (by decide)) ?_)
        rw [nI_1]
        obtain ⟨j1, j2, j3, j4, j5, j6⟩ := hJ1
        refine c_fill (by omega) (by omega) (TPC_at hT (by rw [Fr_at j1 (by decide)]) (by rw [j1 21 (by decide)])) (fun μ2 B2 F2 => ?_)
        refine c_search hO (FMC_fr (FMC_fr hF j1 (by decide)) F2 (by decide)) B2 (rbt_le _ _ _ _) (by have := rz_le (tlo fm + i) g s m; have := hT.1; omega) (fun μ3 D3 F3 t3 q3 => ?_)
        have e1 : (9 * i + g) / 9 = i := by omega
        have e2 : (9 * i + g) % 9 = g := by omega
        have J3 : TJ fm s m r μ0 (9 * i + g) μ3 := by
          refine ⟨Fr_tr j1 (Fr_tr (Fr_mono F2 (by decide)) (Fr_mono F3 (by decide))), fun t' z => ?_, fun q z => ?_, fun r' z => ?_, fun s' z => ?_, ?_⟩
          · rw [t3 t' z, F2 1 (by decide)]; exact j2 t' z
          · obtain ⟨a, c⟩ := q3 q z
            rw [a, c, F2 7 (by decide), F2 24 (by decide)]; exact j3 q z
          · rw [F3 9 (by decide), F2 9 (by decide)]; exact j4 r' z
          · rw [F3 9 (by decide), F2 9 (by decide)]; exact j5 s' z
          · unfold TI TUN
            rw [F3 9 (by decide), F2 9 (by decide)]; exact j6
        have := s_keep (Γ := Γ) (e := 9 * i + g) hO (rbt_le (tlo fm + i) g s m) (by rw [e1, e2]) (by rw [e1, e2]) D3 J3 (fun μ4 J4 => ih2 (g + 1) μ4 (by omega) J4)
        rw [e1, e2] at this
        exact this
    exact lp 9 0 μ rfl hJ
theorem c_tune {fm : Nat → Nat} {nr r : Nat} {dr ml : Nat → Nat} {st : Nat → Nat → Nat} {μ : mH} {Q : mH → Prop} (hr : r < nr) (hO : OKF fm) (hF : FMC 1 fm μ) (hR : RDC fm nr dr ml st μ) (kk : ∀ μ', RDC fm nr dr ml st μ' → TUN fm (st r) (ml r) r (tE fm - 1) μ' → Fr [1, 5, 7, 9, 22, 24] μ μ' → (∀ q, q / 8 ≠ 10 → μ' 7 q = μ 7 q ∧ μ' 24 q = μ 24 q) → Q μ') : cwv Γ M_X8_tune [aR 8 0, aI (nI r), aR 4 1, aR 5 0] μ Q := by
  have hR0 := hR
  obtain ⟨r1, r2, r3⟩ := hR
  obtain ⟨g1, g2, g3, g4, g5⟩ := r3 r hr
  obtain ⟨l1, l2, l3⟩ := tlo_8 hO
  refine u_X8_tune (s_sholds (n := nr) (by omega) r2 (fun h => absurd (inN_of hr (by omega)) h) (fun _ => ⟨fun z => absurd z (by decide), fun _ => ?_⟩))
  rw [tn_nI (by omega)]
  refine ⟨vp_in_nI (by omega) (by decide), fun z => ⟨vp_in_nI (by omega) (by decide), ?_⟩, fun z => kk μ hR0 (g5 z) Fr_rf (fun _ _ => ⟨rfl, rfl⟩)⟩
  have F1 : Fr [9] μ (sto (sto μ 9 r 3 1) 9 r 6 (-1)) := Fr_st2 (Fr_sto (by decide)) (by decide)
  rw [hF 1 (by decide) (by decide)]
  refine s_max ?_
  rw [tlo_I hO, Fr_at F1 (by decide), hF 1 (by decide) (by decide)]
  refine s_min ?_
  rw [thi_I hO]
  refine tune_lp hO (FMC_fr hF F1 (by decide)) (TPC_at g3 (by rw [Fr_at F1 (by decide)]) (by rw [F1 21 (by decide)])) (fun μ2 J2 => ?_) _ 0 _ (Nat.zero_add _) ⟨Fr_rf, fun _ _ => rfl, fun _ _ => ⟨rfl, rfl⟩, fun _ _ => rfl, fun _ _ => rfl, Or.inl ⟨rfl, sto_eq⟩⟩
  obtain ⟨j1, j2, j3, j4, j5, j6⟩ := J2
  have T2 : TUN fm (st r) (ml r) r (tE fm - 1) μ2 := by
    rcases j6 with ⟨a, _⟩ | ⟨_, a⟩
    · unfold tE at a; omega
    · exact a
  have f9 : ∀ r', r' ≠ r → μ2 9 r' = μ 9 r' := fun r' y => by
    rw [j4 r' y]
    funext s'
    rw [sto_i y, sto_i y]
  refine kk μ2 ⟨r1, by rw [Fr_at j1 (by decide), Fr_at F1 (by decide)]; exact r2, fun r' hr' => ?_⟩ T2 (Fr_tr (Fr_mono F1 (by decide)) j1) (fun q y => ?_)
  · obtain ⟨a1, a2, a3, a4, a5⟩ := r3 r' hr'
    have tp : TPC (r' + 1) (ml r') (st r') μ2 := TPC_at a3 (by rw [Fr_at j1 (by decide), Fr_at F1 (by decide)]) (by rw [j1 21 (by decide), F1 21 (by decide)])
    have fd : FDC fm (fbb fm (st r') (ml r')) (fzz fm (st r') (ml r')) r' μ2 := FDC_at a4 (by rw [j2 r' (by omega), F1 1 (by decide)]) (fun q hq => by
      obtain ⟨u1, u2⟩ := j3 q (by omega)
      rw [u1, u2, F1 7 (by decide), F1 24 (by decide)]
      exact ⟨rfl, rfl⟩)
    by_cases y : r' = r
    · subst y
      refine ⟨a1, ?_, tp, fd, fun _ => T2⟩
      rw [j5 2 (by decide), sto_s (by decide), sto_s (by decide)]
      exact a2
    · refine ⟨a1, by rw [f9 r' y]; exact a2, tp, fd, fun w => ?_⟩
      rw [f9 r' y] at w
      have := a5 w
      unfold TUN at this ⊢
      rw [f9 r' y]
      exact this
  · obtain ⟨u1, u2⟩ := j3 q y
    rw [u1, u2, F1 7 (by decide), F1 24 (by decide)]
    exact ⟨rfl, rfl⟩
def tunV (fm s : Nat → Nat) (m : Nat) (x : Int32) : Int32 := if x = 0 then nI (tlo fm + tb fm s m (tE fm - 1) / 9) else if x = 1 then nI (tb fm s m (tE fm - 1) % 9) else if x = 2 then nI (tR fm s m (tb fm s m (tE fm - 1))) else nI (tS fm s m (tb fm s m (tE fm - 1)))
def tunA (fm : Nat → Nat) (nr : Nat) (ml : Nat → Nat) (st : Nat → Nat → Nat) (x1 x2 : Int32) : Int32 := if inN x1 nr ∧ inN x2 4 then tunV fm (st (tn x1)) (ml (tn x1)) x2 else -1
theorem c_tuned {fm : Nat → Nat} {nr : Nat} {dr ml : Nat → Nat} {st : Nat → Nat → Nat} {x1 x2 : Int32} {μ : mH} {Q : Int32 → mH → Prop} (hO : 0 < nr → OKF fm) (hF : FMC 1 fm μ) (hR : RDC fm nr dr ml st μ) (kk : ∀ μ', RDC fm nr dr ml st μ' → Fr [1, 5, 7, 9, 22, 24] μ μ' → (∀ q, q / 8 ≠ 10 → μ' 7 q = μ 7 q ∧ μ' 24 q = μ 24 q) → Q (tunA fm nr ml st x1 x2) μ') : cwi Γ M_X11_tuned [aR 11 0, aI x1, aI x2] μ Q := by
  unfold tunA at kk
  have r1 := hR.1
  have kn : ¬ (inN x1 nr ∧ inN x2 4) → Q (-1) μ := fun h => by
    have := kk μ hR Fr_rf (fun _ _ => ⟨rfl, rfl⟩)
    rw [if_neg h] at this
    exact this
  refine u_X11_tuned (s_sholds (n := nr) (by omega) hR.2.1 (fun h => ⟨fun _ => kn (fun q => h q.1), fun z => absurd rfl z⟩) (fun h => ⟨fun z => absurd z (by decide), fun _ => ?_⟩))
  have hpos := h.2
  rcases Int32_cases x2 with hn | ⟨v, hv, rfl⟩
  · exact ⟨fun _ => kn (fun q => inN_neg hn (by decide) q.2), fun z => absurd hn z⟩
  · refine ⟨fun z => absurd z (nI_pos hv), fun _ => pk_le v 3 (fun c => ?_) (fun c => kn (fun q => inN_no (by omega) hv q.2))⟩
    simp only [if_pos (show inN x1 nr ∧ inN (nI v) 4 from ⟨h, inN_of (by omega) (by decide)⟩)] at kk
    conv => arg 3; rw [h.1]
    refine c_tune hpos (hO (by omega)) hF hR (fun μ1 R1 T1 F1 q1 => ⟨by rw [h.1]; exact vp_in_nI (by omega) (by decide), ?_⟩)
    have k := kk μ1 R1 F1 q1
    unfold tunV at k
    rw [T1.1, T1.2.1, T1.2.2.1, T1.2.2.2]
    refine ⟨fun z => by rw [if_pos z] at k; exact k, fun z => by rw [z] at k; exact k, fun z => by rw [z] at k; exact k, fun n0 n1 n2 => ?_⟩
    rw [if_neg n0, if_neg n1, if_neg n2] at k
    exact k
end PTU
