section PPR
variable {Γ : cx_T} {x1 x2 x3 x4 x5 : Int32} {μ : mH} {G F : mH → Prop}
theorem p_read (h : Iv μ) (kk : ∀ μ', Iv μ' → G μ') : cwi Γ M_X11_read [aR 11 0, aI x1] μ (fun r μ1 => cwi Γ M_X12_read [aR 12 0, aI x1] μ1 (fun r' μ2 => (r = r' → G μ2) ∧ (¬ r = r' → F μ2))) := by
  obtain ⟨n, t, m, s, f, fm, nr, dr, ml, st, f0, f1, hd, ln, nf, P, C, M⟩ := h
  obtain ⟨c1, c2, ⟨c3, c4⟩, c5, c6, c7⟩ := id C
  refine c_read P.1 c3 P.2.1 c4 c5 c2 (fun e1 i1 l1 μ1 R1 T1 J1 F1 => ?_) (fun no => ?_)
  · have M1 := MI_c M (Fr_c F1 (by decide))
    have C1 : CI n t 0 s f fm (nr + 1) (up dr nr (tn x1)) (up ml nr m) (ups st nr s) f0 f1 hd ln nf μ1 := ⟨TXC_fr c1 F1 (by decide) (by decide), T1, ⟨by rw [F1 4 (by decide)]; exact c3, FMC_fr c4 F1 (by decide)⟩, R1, ⟨Or.inl ⟨J1.1, J1.2.1⟩, fun c hc => Or.inl (J1.2.2 c hc)⟩, DC_fr c7 F1 (fun q _ => by rw [F1 0 (by decide)]) (by decide) (by decide) (by decide)⟩
    refine m_read P.1 M1.2.2.1.1 M1.2.2.2.1 M1.2.1 (fun _ _ _ μ2 R2 T2 F2 s2 => ⟨fun _ => kk μ2 ⟨n, t, 0, s, f, fm, nr + 1, _, _, _, f0, f1, hd, ln, nf, ⟨P.1, P.2.1, fun q => by omega⟩, CI_m C1 (Fr_m F2 (by decide)), ?_⟩, fun z => absurd rfl z⟩) (fun no => absurd ⟨e1, i1, l1⟩ no)
    obtain ⟨a1, a2, a3, a4, a5, a6⟩ := M1
    refine ⟨?_, T2, ?_, R2, TM_fr a5 F2 (by decide), HM_fr a6 F2 (s2 16 (by decide) (by decide)) (by decide) (by decide)⟩
    · unfold TXM at a1 ⊢
      rw [s2 1 (by decide) (by decide), F2 40 (by decide)]
      exact a1
    · unfold FMM at a3 ⊢
      rw [s2 8 (by decide) (by decide), F2 42 (by decide)]
      exact a3
  · exact m_read P.1 M.2.2.1.1 M.2.2.2.1 M.2.1 (fun e1 i1 l1 => absurd ⟨e1, i1, l1⟩ no) (fun _ => ⟨fun _ => kk μ ⟨n, t, m, s, f, fm, nr, dr, ml, st, f0, f1, hd, ln, nf, P, C, M⟩, fun z => absurd rfl z⟩)
theorem p_raw (h : Iv μ) (kk : ∀ μ', Iv μ' → G μ') : cwi Γ M_X11_raw [aR 11 0, aI x1, aI x2, aI x3] μ (fun r μ1 => cwi Γ M_X12_raw [aR 12 0, aI x1, aI x2, aI x3] μ1 (fun r' μ2 => (r = r' → G μ2) ∧ (¬ r = r' → F μ2))) := by
  obtain ⟨n, t, m, s, f, fm, nr, dr, ml, st, f0, f1, hd, ln, nf, P, C, M⟩ := h
  refine c_raw C.2.1 (fun ok μ1 F1 => ?_) (fun no => ?_)
  · have M1 := MI_c M (Fr_c F1 (by decide))
    exact m_raw M1.2.1 (fun _ μ2 F2 s2 => ⟨fun _ => kk μ2 ⟨n, t, m, s, f, fm, nr, dr, ml, st, f0, f1, hd, ln, nf, P, CI_m (CI_raw C F1) (Fr_m F2 (by decide)), MI_same M1 F2 (fun q hq => s2 q (by omega)) (by decide)⟩, fun z => absurd rfl z⟩) (fun no => absurd ok no)
  · exact m_raw M.2.1 (fun ok => absurd ok no) (fun _ => ⟨fun _ => kk μ ⟨n, t, m, s, f, fm, nr, dr, ml, st, f0, f1, hd, ln, nf, P, C, M⟩, fun z => absurd rfl z⟩)
theorem pu_f {f nr : Nat} {fm : Nat → Nat} (P : PU f fm nr) (h : 0 < nr) : f = 1 := by
  obtain ⟨a, _, c⟩ := P
  by_cases e : f = 0
  · have := c e; omega
  · omega
theorem p_found (h : Iv μ) (kk : ∀ μ', Iv μ' → G μ') : cwi Γ M_X11_found [aR 11 0, aI x1, aI x2, aI x3] μ (fun r μ1 => cwi Γ M_X12_found [aR 12 0, aI x1, aI x2, aI x3] μ1 (fun r' μ2 => (r = r' → G μ2) ∧ (¬ r = r' → F μ2))) := by
  obtain ⟨n, t, m, s, f, fm, nr, dr, ml, st, f0, f1, hd, ln, nf, P, C, M⟩ := h
  refine c_found (fun q => P.2.1 (pu_f P q)) C.2.2.1.2 C.2.2.2.1 (m_found (fun q => P.2.1 (pu_f P q)) (fun q => M.2.2.1.2.1 (pu_f P q)) M.2.2.2.1 (fun μ2 F2 s2 => ⟨fun _ => kk μ2 ⟨n, t, m, s, f, fm, nr, dr, ml, st, f0, f1, hd, ln, nf, P, CI_m C (Fr_m F2 (by decide)), MI_same M F2 (fun q hq => s2 q (by omega) (by omega)) (by decide)⟩, fun z => absurd rfl z⟩))
theorem p_tuned (h : Iv μ) (kk : ∀ μ', Iv μ' → G μ') : cwi Γ M_X11_tuned [aR 11 0, aI x1, aI x2] μ (fun r μ1 => cwi Γ M_X12_tuned [aR 12 0, aI x1, aI x2] μ1 (fun r' μ2 => (r = r' → G μ2) ∧ (¬ r = r' → F μ2))) := by
  obtain ⟨n, t, m, s, f, fm, nr, dr, ml, st, f0, f1, hd, ln, nf, P, C, M⟩ := h
  refine c_tuned (fun q => P.2.1 (pu_f P q)) C.2.2.1.2 C.2.2.2.1 (fun μ1 R1 F1 q1 => ?_)
  have M1 := MI_c M (Fr_c F1 (by decide))
  exact m_tuned (fun q => P.2.1 (pu_f P q)) (fun q => M1.2.2.1.2.1 (pu_f P q)) M1.2.2.2.1 (fun μ2 F2 => ⟨fun _ => kk μ2 ⟨n, t, m, s, f, fm, nr, dr, ml, st, f0, f1, hd, ln, nf, P, CI_m (CI_tu C R1 F1 q1) (Fr_m F2.1 (by decide)), MI_same M1 F2.1 (fun q hq => F2.2 q (by omega) (by omega)) (by decide)⟩, fun z => absurd rfl z⟩)
theorem p_status (h : Iv μ) (kk : ∀ μ', Iv μ' → G μ') : cwi Γ M_X11_status [aR 11 0, aI x1, aI x2, aI x3] μ (fun r μ1 => cwi Γ M_X12_status [aR 12 0, aI x1, aI x2, aI x3] μ1 (fun r' μ2 => (r = r' → G μ2) ∧ (¬ r = r' → F μ2))) := by
  obtain ⟨n, t, m, s, f, fm, nr, dr, ml, st, f0, f1, hd, ln, nf, P, C, M⟩ := h
  refine c_status P.1 C.2.2.1.1 P.2.1 C.2.2.1.2 C.2.2.2.1 C.2.2.2.2.1 (fun ok i3 v dat μ1 hv J1 R1 K1 => ?_) (fun no => ?_)
  · have M1 := MI_c M (Fr_c K1.1 (by decide))
    refine m_status P.1 M1.2.2.1.1 P.2.1 M1.2.2.1.2.1 M1.2.2.2.1 (fun _ _ v' dat' μ2 hv' F2 => ⟨fun _ => kk μ2 ⟨n, t, m, s, f, fm, nr, dr, ml, st, f0, f1, hd, ln, nf, P, CI_m (CI_j C J1 R1 (Fr_mono K1.1 (by decide))) (Fr_m F2.1 (by decide)), MI_same M1 F2.1 (fun q hq => F2.2 q (by omega) (by omega) (by omega)) (by decide)⟩, fun z => absurd ?_ z⟩) (fun no => absurd ⟨ok, i3⟩ no)
    rw [(VER_one hv hv').1]
  · exact m_status P.1 M.2.2.1.1 P.2.1 M.2.2.1.2.1 M.2.2.2.1 (fun a b => absurd ⟨a, b⟩ no) (fun _ => ⟨fun _ => kk μ ⟨n, t, m, s, f, fm, nr, dr, ml, st, f0, f1, hd, ln, nf, P, C, M⟩, fun z => absurd rfl z⟩)
theorem p_value (h : Iv μ) (kk : ∀ μ', Iv μ' → G μ') : cwi Γ M_X11_value [aR 11 0, aI x1, aI x2, aI x3] μ (fun r μ1 => cwi Γ M_X12_value [aR 12 0, aI x1, aI x2, aI x3] μ1 (fun r' μ2 => (r = r' → G μ2) ∧ (¬ r = r' → F μ2))) := by
  obtain ⟨n, t, m, s, f, fm, nr, dr, ml, st, f0, f1, hd, ln, nf, P, C, M⟩ := h
  refine c_value P.1 C.2.2.1.1 P.2.1 C.2.2.1.2 C.2.2.2.1 C.2.2.2.2.1 (fun ok i3 v dat μ1 hv J1 R1 K1 => ?_) (fun no => ?_)
  · have M1 := MI_c M (Fr_c K1.1 (by decide))
    refine m_value P.1 M1.2.2.1.1 P.2.1 M1.2.2.1.2.1 M1.2.2.2.1 (fun _ _ v' dat' μ2 hv' F2 => ⟨fun _ => kk μ2 ⟨n, t, m, s, f, fm, nr, dr, ml, st, f0, f1, hd, ln, nf, P, CI_m (CI_j C J1 R1 (Fr_mono K1.1 (by decide))) (Fr_m F2.1 (by decide)), MI_same M1 F2.1 (fun q hq => F2.2 q (by omega) (by omega) (by omega)) (by decide)⟩, fun z => absurd ?_ z⟩) (fun no => absurd ⟨ok, i3⟩ no)
    obtain ⟨e1, e2⟩ := VER_one hv hv'
    subst e1
    unfold valV
    by_cases q : v = 1 ∨ v = 3
    · rw [if_pos q, if_pos q, e2 q _ i3.2]
    · rw [if_neg q, if_neg q]
  · exact m_value P.1 M.2.2.1.1 P.2.1 M.2.2.1.2.1 M.2.2.2.1 (fun a b => absurd ⟨a, b⟩ no) (fun _ => ⟨fun _ => kk μ ⟨n, t, m, s, f, fm, nr, dr, ml, st, f0, f1, hd, ln, nf, P, C, M⟩, fun z => absurd rfl z⟩)
theorem p_tell (h : Iv μ) (kk : ∀ μ', Iv μ' → G μ') : cwi Γ M_X11_tell [aR 11 0, aI x1, aI x2, aI x3] μ (fun r μ1 => cwi Γ M_X12_tell [aR 12 0, aI x1, aI x2, aI x3] μ1 (fun r' μ2 => (r = r' → G μ2) ∧ (¬ r = r' → F μ2))) := by
  obtain ⟨n, t, m, s, f, fm, nr, dr, ml, st, f0, f1, hd, ln, nf, P, C, M⟩ := h
  refine c_tell C.2.2.2.2.2 (fun ok μ1 D1 F1 => ?_) (fun no => ?_)
  · have M1 := MI_c M (Fr_c F1 (by decide))
    refine m_tell M1.2.2.2.2.1 (fun _ μ2 T2 F2 => ⟨fun _ => kk μ2 ⟨n, t, m, s, f, fm, nr, dr, ml, st, _, _, hd, ln, nf, P, CI_m (CI_d C D1 (Fr_mono F1 (by decide))) (Fr_m F2 (by decide)), ?_⟩, fun z => absurd rfl z⟩) (fun no => absurd ok no)
    obtain ⟨a1, a2, a3, a4, a5, a6⟩ := M1
    refine ⟨?_, ?_, ?_, RDM_fr a4 F2 (by rw [F2 12 (by decide)]) (by decide) (by decide) (by decide), T2, HM_fr a6 F2 (by rw [F2 12 (by decide)]) (by decide) (by decide)⟩
    · unfold TXM at a1 ⊢
      rw [F2 12 (by decide), F2 40 (by decide)]
      exact a1
    · unfold TPM at a2 ⊢
      rw [F2 12 (by decide), F2 43 (by decide)]
      exact a2
    · unfold FMM at a3 ⊢
      rw [F2 12 (by decide), F2 42 (by decide)]
      exact a3
  · exact m_tell M.2.2.2.2.1 (fun ok => absurd ok no) (fun _ => ⟨fun _ => kk μ ⟨n, t, m, s, f, fm, nr, dr, ml, st, f0, f1, hd, ln, nf, P, C, M⟩, fun z => absurd rfl z⟩)
theorem p_file (h : Iv μ) (kk : ∀ μ', Iv μ' → G μ') : cwi Γ M_X11_file [aR 11 0, aI x1, aI x2] μ (fun r μ1 => cwi Γ M_X12_file [aR 12 0, aI x1, aI x2] μ1 (fun r' μ2 => (r = r' → G μ2) ∧ (¬ r = r' → F μ2))) := by
  obtain ⟨n, t, m, s, f, fm, nr, dr, ml, st, f0, f1, hd, ln, nf, P, C, M⟩ := h
  refine c_file C.2.2.2.2.2 (fun ok μ1 D1 F1 => ?_) (fun no => ?_)
  · have M1 := MI_c M (Fr_c F1 (by decide))
    refine m_file M1.2.2.2.2.2 (fun _ μ2 T2 F2 s2 => ⟨fun _ => kk μ2 ⟨n, t, m, s, f, fm, nr, dr, ml, st, f0, f1, _, _, nf + 1, P, CI_m (CI_d C D1 (Fr_mono F1 (by decide))) (Fr_m F2 (by decide)), ?_⟩, fun z => absurd rfl z⟩) (fun no => absurd ok no)
    obtain ⟨a1, a2, a3, a4, a5, a6⟩ := M1
    refine ⟨?_, ?_, ?_, RDM_fr a4 F2 (s2 11 (by decide)) (by decide) (by decide) (by decide), TM_fr a5 F2 (by decide), T2⟩
    · unfold TXM at a1 ⊢
      rw [s2 1 (by decide), F2 40 (by decide)]
      exact a1
    · unfold TPM at a2 ⊢
      rw [s2 9 (by decide), F2 43 (by decide)]
      exact a2
    · unfold FMM at a3 ⊢
      rw [s2 8 (by decide), F2 42 (by decide)]
      exact a3
  · exact m_file M.2.2.2.2.2 (fun ok => absurd ok no) (fun _ => ⟨fun _ => kk μ ⟨n, t, m, s, f, fm, nr, dr, ml, st, f0, f1, hd, ln, nf, P, C, M⟩, fun z => absurd rfl z⟩)
theorem p_mishaps (h : Iv μ) (kk : ∀ μ', Iv μ' → G μ') : cwi Γ M_X11_mishaps [aR 11 0, aI x1] μ (fun r μ1 => cwi Γ M_X12_mishaps [aR 12 0, aI x1] μ1 (fun r' μ2 => (r = r' → G μ2) ∧ (¬ r = r' → F μ2))) := by
  obtain ⟨n, t, m, s, f, fm, nr, dr, ml, st, f0, f1, hd, ln, nf, P, C, M⟩ := h
  refine c_mishaps C.2.2.2.2.2 (fun μ1 D1 F1 => ?_)
  have M1 := MI_c M (Fr_c F1 (by decide))
  exact m_mishaps M1.2.2.2.2.1 M1.2.2.2.2.2 (fun μ2 F2 s2 => ⟨fun _ => kk μ2 ⟨n, t, m, s, f, fm, nr, dr, ml, st, f0, f1, hd, ln, nf, P, CI_m (CI_d C D1 (Fr_mono F1 (by decide))) (Fr_m F2 (by decide)), MI_same M1 F2 (fun q hq => s2 q (by omega)) (by decide)⟩, fun z => absurd rfl z⟩)
theorem p_next (h : Iv μ) (kk : ∀ μ', Iv μ' → G μ') : cwi Γ M_X11_next [aR 11 0, aI x1, aI x2] μ (fun r μ1 => cwi Γ M_X12_next [aR 12 0, aI x1, aI x2] μ1 (fun r' μ2 => (r = r' → G μ2) ∧ (¬ r = r' → F μ2))) := by
  obtain ⟨n, t, m, s, f, fm, nr, dr, ml, st, f0, f1, hd, ln, nf, P, C, M⟩ := h
  refine c_next C.2.2.2.2.2 (fun μ1 D1 F1 => ?_)
  have M1 := MI_c M (Fr_c F1 (by decide))
  exact m_next M1.2.2.2.2.1 M1.2.2.2.2.2 (fun μ2 F2 s2 => ⟨fun _ => kk μ2 ⟨n, t, m, s, f, fm, nr, dr, ml, st, f0, f1, hd, ln, nf, P, CI_m (CI_d C D1 (Fr_mono F1 (by decide))) (Fr_m F2 (by decide)), MI_same M1 F2 (fun q hq => s2 q (by omega)) (by decide)⟩, fun z => absurd rfl z⟩)
theorem p_chain (h : Iv μ) (kk : ∀ μ', Iv μ' → G μ') : cwi Γ M_X11_chain [aR 11 0, aI x1, aI x2, aI x3] μ (fun r μ1 => cwi Γ M_X12_chain [aR 12 0, aI x1, aI x2, aI x3] μ1 (fun r' μ2 => (r = r' → G μ2) ∧ (¬ r = r' → F μ2))) := by
  obtain ⟨n, t, m, s, f, fm, nr, dr, ml, st, f0, f1, hd, ln, nf, P, C, M⟩ := h
  refine c_chain C.2.2.2.2.2 (fun μ1 D1 F1 => ?_)
  have M1 := MI_c M (Fr_c F1 (by decide))
  exact m_chain M1.2.2.2.2.1 M1.2.2.2.2.2 (fun μ2 F2 s2 => ⟨fun _ => kk μ2 ⟨n, t, m, s, f, fm, nr, dr, ml, st, f0, f1, hd, ln, nf, P, CI_m (CI_d C D1 (Fr_mono F1 (by decide))) (Fr_m F2 (by decide)), MI_same M1 F2 (fun q hq => s2 q (by omega)) (by decide)⟩, fun z => absurd rfl z⟩)
theorem CI_CX {n m f nr nf : Nat} {t s fm dr ml f0 f1 hd ln : Nat → Nat} {st : Nat → Nat → Nat} {μ : mH} (C : CI n t m s f fm nr dr ml st f0 f1 hd ln nf μ) : CX fm f nr dr ml st f0 f1 hd ln nf μ μ := ⟨C.2.2.1.2, C.2.2.2.1, C.2.2.2.2.1, C.2.2.2.2.2, Fr_rf, fun _ _ => rfl⟩
theorem p_gaps (h : Iv μ) (kk : ∀ μ', Iv μ' → G μ') : cwi Γ M_X11_gaps [aR 11 0, aI x1] μ (fun r μ1 => cwi Γ M_X12_gaps [aR 12 0, aI x1] μ1 (fun r' μ2 => (r = r' → G μ2) ∧ (¬ r = r' → F μ2))) := by
  obtain ⟨n, t, m, s, f, fm, nr, dr, ml, st, f0, f1, hd, ln, nf, P, C, M⟩ := h
  obtain ⟨sv, hsv⟩ := SV_ex fm nr ml st
  refine c_gaps P.1 C.2.2.1.1 P.2.1 hsv (CI_CX C) (fun row e1 er i1 μ1 X1 => ?_) (fun no μ1 X1 => ?_)
  · have M1 := MI_c M (Fr_c X1.2.2.2.2.1 (by decide))
    refine m_gaps P.1 M1.2.2.1.1 P.2.1 M1.2.2.1.2.1 hsv M1.2.2.2.1 M1.2.2.2.2.1 M1.2.2.2.2.2 (fun row' _ er' _ μ2 F2 => ⟨fun _ => kk μ2 ⟨n, t, m, s, f, fm, nr, dr, ml, st, f0, f1, hd, ln, nf, P, CI_m (CI_x C X1) (Fr_m F2.1 (by decide)), MI_same M1 F2.1 (fun q hq => F2.2 q (by omega) (by omega) (by omega) (by omega)) (by decide)⟩, fun z => absurd ?_ z⟩) (fun no => absurd ⟨e1, by rw [er]; exact fun q => (nomatch q), i1⟩ no)
    rw [er] at er'
    injection er' with er'
    rw [er']
  · have M1 := MI_c M (Fr_c X1.2.2.2.2.1 (by decide))
    exact m_gaps P.1 M1.2.2.1.1 P.2.1 M1.2.2.1.2.1 hsv M1.2.2.2.1 M1.2.2.2.2.1 M1.2.2.2.2.2 (fun row' a er' b => absurd ⟨a, by rw [er']; exact fun q => (nomatch q), b⟩ no) (fun _ => ⟨fun _ => kk μ1 ⟨n, t, m, s, f, fm, nr, dr, ml, st, f0, f1, hd, ln, nf, P, CI_x C X1, M1⟩, fun z => absurd rfl z⟩)
theorem p_hope (h : Iv μ) (kk : ∀ μ', Iv μ' → G μ') : cwi Γ M_X11_hope [aR 11 0, aI x1] μ (fun r μ1 => cwi Γ M_X12_hope [aR 12 0, aI x1] μ1 (fun r' μ2 => (r = r' → G μ2) ∧ (¬ r = r' → F μ2))) := by
  obtain ⟨n, t, m, s, f, fm, nr, dr, ml, st, f0, f1, hd, ln, nf, P, C, M⟩ := h
  refine c_hope P.1 C.2.2.1.1 P.2.1 C.2.2.2.1 (fun e1 i1 => ?_) (fun no => ?_)
  · exact m_hope P.1 M.2.2.1.1 P.2.1 M.2.2.1.2.1 M.2.2.2.1 (fun _ _ μ2 F2 => ⟨fun _ => kk μ2 ⟨n, t, m, s, f, fm, nr, dr, ml, st, f0, f1, hd, ln, nf, P, CI_m C (Fr_m F2.1 (by decide)), MI_same M F2.1 (fun q hq => F2.2 q (by omega) (by omega)) (by decide)⟩, fun z => absurd rfl z⟩) (fun no => absurd ⟨e1, i1⟩ no)
  · exact m_hope P.1 M.2.2.1.1 P.2.1 M.2.2.1.2.1 M.2.2.2.1 (fun a b => absurd ⟨a, b⟩ no) (fun _ => ⟨fun _ => kk μ ⟨n, t, m, s, f, fm, nr, dr, ml, st, f0, f1, hd, ln, nf, P, C, M⟩, fun z => absurd rfl z⟩)
theorem p_ask (h : Iv μ) (kk : ∀ μ', Iv μ' → G μ') : cwi Γ M_X11_ask [aR 11 0, aI x1] μ (fun r μ1 => cwi Γ M_X12_ask [aR 12 0, aI x1] μ1 (fun r' μ2 => (r = r' → G μ2) ∧ (¬ r = r' → F μ2))) := by
  obtain ⟨n, t, m, s, f, fm, nr, dr, ml, st, f0, f1, hd, ln, nf, P, C, M⟩ := h
  obtain ⟨sv, hsv⟩ := SV_ex fm nr ml st
  refine c_ask P.1 C.2.2.1.1 P.2.1 hsv (CI_CX C) (fun e1 i1 μ1 X1 => ?_) (fun no => ?_)
  · have M1 := MI_c M (Fr_c X1.2.2.2.2.1 (by decide))
    exact m_ask P.1 M1.2.2.1.1 P.2.1 M1.2.2.1.2.1 hsv M1.2.2.2.1 M1.2.2.2.2.1 M1.2.2.2.2.2 (fun _ _ μ2 F2 => ⟨fun _ => kk μ2 ⟨n, t, m, s, f, fm, nr, dr, ml, st, f0, f1, hd, ln, nf, P, CI_m (CI_x C X1) (Fr_m F2.1 (by decide)), MI_same M1 F2.1 (fun q hq => F2.2 q (by omega) (by omega) (by omega) (by omega)) (by decide)⟩, fun z => absurd rfl z⟩) (fun no => absurd ⟨e1, i1⟩ no)
  · exact m_ask P.1 M.2.2.1.1 P.2.1 M.2.2.1.2.1 hsv M.2.2.2.1 M.2.2.2.2.1 M.2.2.2.2.2 (fun a b => absurd ⟨a, b⟩ no) (fun _ => ⟨fun _ => kk μ ⟨n, t, m, s, f, fm, nr, dr, ml, st, f0, f1, hd, ln, nf, P, C, M⟩, fun z => absurd rfl z⟩)
theorem p_written (h : Iv μ) (kk : ∀ μ', Iv μ' → G μ') : cwi Γ M_X11_written [aR 11 0, aI x1, aI x2, aI x3] μ (fun r μ1 => cwi Γ M_X12_written [aR 12 0, aI x1, aI x2, aI x3] μ1 (fun r' μ2 => (r = r' → G μ2) ∧ (¬ r = r' → F μ2))) := by
  obtain ⟨n, t, m, s, f, fm, nr, dr, ml, st, f0, f1, hd, ln, nf, P, C, M⟩ := h
  refine c_written P.1 C.2.2.1.1 P.2.1 C.2.2.1.2 C.2.2.2.1 C.2.2.2.2.1 (fun ok v dat μ1 hv J1 R1 K1 => ?_) (fun no => ?_)
  · have M1 := MI_c M (Fr_c K1.1 (by decide))
    refine m_written P.1 M1.2.2.1.1 P.2.1 M1.2.2.1.2.1 M1.2.2.2.1 (fun _ v' dat' μ2 hv' F2 => ⟨fun _ => kk μ2 ⟨n, t, m, s, f, fm, nr, dr, ml, st, f0, f1, hd, ln, nf, P, CI_m (CI_j C J1 R1 K1.1) (Fr_m F2.1 (by decide)), MI_same M1 F2.1 (fun q hq => F2.2 q (by omega) (by omega) (by omega) (by omega) (by omega)) (by decide)⟩, fun z => absurd ?_ z⟩) (fun no => absurd ok no)
    obtain ⟨e1, e2⟩ := VER_one hv hv'
    subst e1
    unfold wrV
    by_cases q : v = 1 ∨ v = 3
    · rw [if_pos q, if_pos q]
      unfold wrA
      rw [datN_eq (e2 q)]
    · rw [if_neg q, if_neg q]
  · exact m_written P.1 M.2.2.1.1 P.2.1 M.2.2.1.2.1 M.2.2.2.1 (fun ok => absurd ok no) (fun _ => ⟨fun _ => kk μ ⟨n, t, m, s, f, fm, nr, dr, ml, st, f0, f1, hd, ln, nf, P, C, M⟩, fun z => absurd rfl z⟩)
theorem p_count (h : Iv μ) (kk : ∀ μ', Iv μ' → G μ') : cwi Γ M_X11_count [aR 11 0, aI x1] μ (fun r μ1 => cwi Γ M_X12_count [aR 12 0, aI x1] μ1 (fun r' μ2 => (r = r' → G μ2) ∧ (¬ r = r' → F μ2))) := by
  have h0 := h
  obtain ⟨n, t, m, s, f, fm, nr, dr, ml, st, f0, f1, hd, ln, nf, P, C, M⟩ := h
  obtain ⟨c1, c2, ⟨c3, c4⟩, c5, c6, c7⟩ := C
  obtain ⟨a1, a2, ⟨a3, _, a4, a5, a6⟩, a7, a8, a9⟩ := M
  have k : ∀ x : Int32, (x = x → G μ) ∧ (¬ x = x → F μ) := fun x => ⟨fun _ => kk μ h0, fun z => absurd rfl z⟩
  refine u_X11_count ?_
  rw [c4 4 (by decide) (by decide), c4 1 (by decide) (by decide), c4 2 (by decide) (by decide), c5.2.1, c2.2.1, c7.2.2.1.2.1, c1.2.1]
  have mm : ∀ r : Int32, ((x1 = 0 → (r = nI (fm 4) → G μ) ∧ (¬ r = nI (fm 4) → F μ)) ∧ (x1 = 1 → (r = nI (fm 1) → G μ) ∧ (¬ r = nI (fm 1) → F μ)) ∧ (x1 = 2 → (r = nI (fm 2) → G μ) ∧ (¬ r = nI (fm 2) → F μ)) ∧ (x1 = 3 → (r = nI nr → G μ) ∧ (¬ r = nI nr → F μ)) ∧ (x1 = 4 → (r = nI m → G μ) ∧ (¬ r = nI m → F μ)) ∧ (x1 = 5 → (r = nI nf → G μ) ∧ (¬ r = nI nf → F μ)) ∧ (x1 = 6 → (r = nI n → G μ) ∧ (¬ r = nI n → F μ)) ∧ (¬ x1 = 0 → ¬ x1 = 1 → ¬ x1 = 2 → ¬ x1 = 3 → ¬ x1 = 4 → ¬ x1 = 5 → ¬ x1 = 6 → (r = -1 → G μ) ∧ (¬ r = -1 → F μ))) → cwi Γ M_X12_count [aR 12 0, aI x1] μ (fun r' μ2 => (r = r' → G μ2) ∧ (¬ r = r' → F μ2)) := fun r hr => u_X12_count (by rw [a4, a5, a6, a7.2.1, a2.2.1, a9.2.1, a1.2.1]; exact hr)
  refine ⟨fun z => mm _ ?_, fun z => mm _ ?_, fun z => mm _ ?_, fun z => mm _ ?_, fun z => mm _ ?_, fun z => mm _ ?_, fun z => mm _ ?_, fun z0 z1 z2 z3 z4 z5 z6 => mm _ ?_⟩
  · subst z; exact ⟨fun _ => k _, fun q => absurd q (by decide), fun q => absurd q (by decide), fun q => absurd q (by decide), fun q => absurd q (by decide), fun q => absurd q (by decide), fun q => absurd q (by decide), fun q => absurd rfl q⟩
  · subst z; exact ⟨fun q => absurd q (by decide), fun _ => k _, fun q => absurd q (by decide), fun q => absurd q (by decide), fun q => absurd q (by decide), fun q => absurd q (by decide), fun q => absurd q (by decide), fun _ q => absurd rfl q⟩
  · subst z; exact ⟨fun q => absurd q (by decide), fun q => absurd q (by decide), fun _ => k _, fun q => absurd q (by decide), fun q => absurd q (by decide), fun q => absurd q (by decide), fun q => absurd q (by decide), fun _ _ q => absurd rfl q⟩
  · subst z; exact ⟨fun q => absurd q (by decide), fun q => absurd q (by decide), fun q => absurd q (by decide), fun _ => k _, fun q => absurd q (by decide), fun q => absurd q (by decide), fun q => absurd q (by decide), fun _ _ _ q => absurd rfl q⟩
  · subst z; exact ⟨fun q => absurd q (by decide), fun q => absurd q (by decide), fun q => absurd q (by decide), fun q => absurd q (by decide), fun _ => k _, fun q => absurd q (by decide), fun q => absurd q (by decide), fun _ _ _ _ q => absurd rfl q⟩
  · subst z; exact ⟨fun q => absurd q (by decide), fun q => absurd q (by decide), fun q => absurd q (by decide), fun q => absurd q (by decide), fun q => absurd q (by decide), fun _ => k _, fun q => absurd q (by decide), fun _ _ _ _ _ q => absurd rfl q⟩
  · subst z; exact ⟨fun q => absurd q (by decide), fun q => absurd q (by decide), fun q => absurd q (by decide), fun q => absurd q (by decide), fun q => absurd q (by decide), fun q => absurd q (by decide), fun _ => k _, fun _ _ _ _ _ _ q => absurd rfl q⟩
  · exact ⟨fun q => absurd q z0, fun q => absurd q z1, fun q => absurd q z2, fun q => absurd q z3, fun q => absurd q z4, fun q => absurd q z5, fun q => absurd q z6, fun _ _ _ _ _ _ _ => k _⟩
end PPR
