section PPF
variable {n m f nr nf n' m' : Nat} {t s fm dr ml f0 f1 hd ln t' s' : Nat → Nat} {st : Nat → Nat → Nat} {μ μ' : mH}
theorem CI_tx (C : CI n t m s f fm nr dr ml st f0 f1 hd ln nf μ) (T : TXC n' t' μ') (F : Fr [2, 20] μ μ') : CI n' t' m s f fm nr dr ml st f0 f1 hd ln nf μ' := by
  obtain ⟨c1, c2, ⟨c3, c4⟩, c5, c6, c7⟩ := C
  exact ⟨T, TPC_at c2 (by rw [F 10 (by decide)]) (by rw [F 21 (by decide)]), ⟨by rw [F 4 (by decide)]; exact c3, FMC_fr c4 F (by decide)⟩, RDC_fr c5 F (by decide) (by decide) (by decide) (by decide) (by decide) (by decide) (fun q _ => by rw [F 24 (by decide)]), JC_fr c6 F (by decide) (by decide) (by decide) (fun q _ => by rw [F 7 (by decide)]) (fun q _ _ _ _ _ _ _ _ => by rw [F 24 (by decide)]), DC_fr c7 F (fun q _ => by rw [F 0 (by decide)]) (by decide) (by decide) (by decide)⟩
theorem CI_f (C : CI n t m s f fm nr dr ml st f0 f1 hd ln nf μ) (T : TXC n t μ') (F : FPP μ μ') : CI n t m s f fm nr dr ml st f0 f1 hd ln nf μ' := by
  obtain ⟨c1, c2, ⟨c3, c4⟩, c5, c6, c7⟩ := C
  have F1 := F.1
  exact ⟨T, TPC_at c2 (by rw [F1 10 (by decide)]) (by rw [F1 21 (by decide)]), ⟨by rw [F.2]; exact c3, fun q a b => by rw [F.2]; exact c4 q a b⟩, RDC_fr c5 F1 (by decide) (by decide) (by decide) (by decide) (by decide) (by decide) (fun q _ => by rw [F1 24 (by decide)]), JC_fr c6 F1 (by decide) (by decide) (by decide) (fun q _ => by rw [F1 7 (by decide)]) (fun q _ _ _ _ _ _ _ _ => by rw [F1 24 (by decide)]), DC_fr c7 F1 (fun q _ => by rw [F1 0 (by decide)]) (by decide) (by decide) (by decide)⟩
theorem CI_tp (C : CI n t m s f fm nr dr ml st f0 f1 hd ln nf μ) (T : TPC 0 m' s' μ') (F : Fr [10, 21] μ μ') (hi : ∀ i, i ≠ 0 → μ' 10 i = μ 10 i ∧ μ' 21 i = μ 21 i) : CI n t m' s' f fm nr dr ml st f0 f1 hd ln nf μ' := by
  obtain ⟨c1, c2, ⟨c3, c4⟩, c5, c6, c7⟩ := C
  refine ⟨TXC_fr c1 F (by decide) (by decide), T, ⟨by rw [F 4 (by decide)]; exact c3, FMC_fr c4 F (by decide)⟩, ?_, JC_fr c6 F (by decide) (by decide) (by decide) (fun q _ => by rw [F 7 (by decide)]) (fun q _ _ _ _ _ _ _ _ => by rw [F 24 (by decide)]), DC_fr c7 F (fun q _ => by rw [F 0 (by decide)]) (by decide) (by decide) (by decide)⟩
  obtain ⟨r1, r2, r3⟩ := c5
  refine ⟨r1, by rw [F 8 (by decide)]; exact r2, fun r hr => ?_⟩
  obtain ⟨a1, a2, a3, a4, a5⟩ := r3 r hr
  obtain ⟨i1, i2⟩ := hi (r + 1) (by omega)
  refine ⟨a1, by rw [F 9 (by decide)]; exact a2, TPC_at a3 (by rw [i1]) i2, FDC_at a4 (by rw [F 1 (by decide)]) (fun q _ => ⟨by rw [F 7 (by decide)], by rw [F 24 (by decide)]⟩), fun y => ?_⟩
  rw [F 9 (by decide)] at y
  have := a5 y
  unfold TUN at this ⊢
  rw [F 9 (by decide)]
  exact this
theorem CI_raw (C : CI n t m s f fm nr dr ml st f0 f1 hd ln nf μ) (F : Fr [5, 22] μ μ') : CI n t m s f fm nr dr ml st f0 f1 hd ln nf μ' := by
  obtain ⟨c1, c2, ⟨c3, c4⟩, c5, c6, c7⟩ := C
  exact ⟨TXC_fr c1 F (by decide) (by decide), TPC_at c2 (by rw [F 10 (by decide)]) (by rw [F 21 (by decide)]), ⟨by rw [F 4 (by decide)]; exact c3, FMC_fr c4 F (by decide)⟩, RDC_fr c5 F (by decide) (by decide) (by decide) (by decide) (by decide) (by decide) (fun q _ => by rw [F 24 (by decide)]), JC_fr c6 F (by decide) (by decide) (by decide) (fun q _ => by rw [F 7 (by decide)]) (fun q _ _ _ _ _ _ _ _ => by rw [F 24 (by decide)]), DC_fr c7 F (fun q _ => by rw [F 0 (by decide)]) (by decide) (by decide) (by decide)⟩
theorem CI_tu (C : CI n t m s f fm nr dr ml st f0 f1 hd ln nf μ) (R : RDC fm nr dr ml st μ') (F : Fr [1, 5, 7, 9, 22, 24] μ μ') (hq : ∀ q, q / 8 ≠ 10 → μ' 7 q = μ 7 q ∧ μ' 24 q = μ 24 q) : CI n t m s f fm nr dr ml st f0 f1 hd ln nf μ' := by
  obtain ⟨c1, c2, ⟨c3, c4⟩, c5, c6, c7⟩ := C
  exact ⟨TXC_fr c1 F (by decide) (by decide), TPC_at c2 (by rw [F 10 (by decide)]) (by rw [F 21 (by decide)]), ⟨by rw [F 4 (by decide)]; exact c3, FMC_fr c4 F (by decide)⟩, R, JC_fr c6 F (by decide) (by decide) (by decide) (fun q h => (hq q (by omega)).1) (fun q _ _ _ _ _ _ _ _ => (hq q (by omega)).2), DC_fr c7 F (fun q _ => by rw [F 0 (by decide)]) (by decide) (by decide) (by decide)⟩
theorem CI_j (C : CI n t m s f fm nr dr ml st f0 f1 hd ln nf μ) (J : JC fm nr ml st μ') (R : RDC fm nr dr ml st μ') (F : Fr [3, 6, 24, 26, 27, 29, 30, 31, 32, 33, 39] μ μ') : CI n t m s f fm nr dr ml st f0 f1 hd ln nf μ' := by
  obtain ⟨c1, c2, ⟨c3, c4⟩, c5, c6, c7⟩ := C
  exact ⟨TXC_fr c1 F (by decide) (by decide), TPC_at c2 (by rw [F 10 (by decide)]) (by rw [F 21 (by decide)]), ⟨by rw [F 4 (by decide)]; exact c3, FMC_fr c4 F (by decide)⟩, R, J, DC_fr c7 F (fun q _ => by rw [F 0 (by decide)]) (by decide) (by decide) (by decide)⟩
theorem CI_d {f0' f1' hd' ln' : Nat → Nat} {nf' : Nat} (C : CI n t m s f fm nr dr ml st f0 f1 hd ln nf μ) (D : DC f0' f1' hd' ln' nf' μ') (F : Fr [0, 34, 35, 36, 37, 38] μ μ') : CI n t m s f fm nr dr ml st f0' f1' hd' ln' nf' μ' := by
  obtain ⟨c1, c2, ⟨c3, c4⟩, c5, c6, c7⟩ := C
  exact ⟨TXC_fr c1 F (by decide) (by decide), TPC_at c2 (by rw [F 10 (by decide)]) (by rw [F 21 (by decide)]), ⟨by rw [F 4 (by decide)]; exact c3, FMC_fr c4 F (by decide)⟩, RDC_fr c5 F (by decide) (by decide) (by decide) (by decide) (by decide) (by decide) (fun q _ => by rw [F 24 (by decide)]), JC_fr c6 F (by decide) (by decide) (by decide) (fun q _ => by rw [F 7 (by decide)]) (fun q _ _ _ _ _ _ _ _ => by rw [F 24 (by decide)]), D⟩
theorem CI_x (C : CI n t m s f fm nr dr ml st f0 f1 hd ln nf μ) (X : CX fm f nr dr ml st f0 f1 hd ln nf μ μ') : CI n t m s f fm nr dr ml st f0 f1 hd ln nf μ' := by
  obtain ⟨c1, c2, ⟨c3, c4⟩, c5, c6, c7⟩ := C
  obtain ⟨x1, x2, x3, x4, F, _⟩ := X
  exact ⟨TXC_fr c1 F (by decide) (by decide), TPC_at c2 (by rw [F 10 (by decide)]) (by rw [F 21 (by decide)]), ⟨by rw [F 4 (by decide)]; exact c3, x1⟩, x2, x3, x4⟩
theorem MI_tx (M : MI n t m s f fm nr dr ml st f0 f1 hd ln nf μ) (T : TXM n' t' μ') (F : Fr [12, 40] μ μ') (h1 : ∀ q, q ≠ 1 → μ' 12 0 q = μ 12 0 q) : MI n' t' m s f fm nr dr ml st f0 f1 hd ln nf μ' := by
  refine ⟨T, ?_⟩
  have M := M.2
  unfold TPM FMM RDM TM HM at M ⊢
  rw [h1 8 (by decide), h1 9 (by decide), h1 11 (by decide), h1 16 (by decide), F 42 (by decide), F 43 (by decide), F 44 (by decide), F 45 (by decide), F 46 (by decide), F 47 (by decide), F 48 (by decide), F 49 (by decide)]
  exact M
theorem MI_tp (M : MI n t m s f fm nr dr ml st f0 f1 hd ln nf μ) (T : TPM m' s' μ') (F : Fr [12, 43] μ μ') (h1 : ∀ q, q ≠ 9 → μ' 12 0 q = μ 12 0 q) : MI n t m' s' f fm nr dr ml st f0 f1 hd ln nf μ' := by
  obtain ⟨a1, a2, a3⟩ := M
  refine ⟨?_, T, ?_⟩
  · unfold TXM at a1 ⊢
    rw [h1 1 (by decide), F 40 (by decide)]
    exact a1
  · unfold FMM RDM TM HM at a3 ⊢
    rw [h1 8 (by decide), h1 11 (by decide), h1 16 (by decide), F 42 (by decide), F 44 (by decide), F 45 (by decide), F 46 (by decide), F 47 (by decide), F 48 (by decide), F 49 (by decide)]
    exact a3
end PPF
section PPP
variable {Γ : cx_T} {x1 x2 x3 x4 x5 : Int32} {μ : mH} {G F : mH → Prop}
theorem p_feed (h : Iv μ) (kk : ∀ μ', Iv μ' → G μ') : cwi Γ M_X11_feed [aR 11 0, aI x1, aI x2, aI x3, aI x4, aI x5] μ (fun r μ1 => cwi Γ M_X12_feed [aR 12 0, aI x1, aI x2, aI x3, aI x4, aI x5] μ1 (fun r' μ2 => (r = r' → G μ2) ∧ (¬ r = r' → F μ2))) := by
  obtain ⟨n, t, m, s, f, fm, nr, dr, ml, st, f0, f1, hd, ln, nf, P, C, M⟩ := h
  refine c_feed C.1 (fun c μ1 T1 F1 => ?_) (fun c => ?_)
  · have M1 := MI_c M (Fr_c F1 (by decide))
    refine m_feed M1.1 (fun _ μ2 T2 F2 s2 => ⟨fun _ => kk μ2 ⟨_, _, m, s, f, fm, nr, dr, ml, st, f0, f1, hd, ln, nf, P, CI_m (CI_tx C T1 F1) (Fr_m F2 (by decide)), MI_tx M1 T2 F2 s2⟩, fun z => absurd rfl z⟩) (fun c' => absurd c c')
  · exact m_feed M.1 (fun c' => absurd c' c) (fun _ => ⟨fun _ => kk μ ⟨n, t, m, s, f, fm, nr, dr, ml, st, f0, f1, hd, ln, nf, P, C, M⟩, fun z => absurd rfl z⟩)
theorem p_end (h : Iv μ) (kk : ∀ μ', Iv μ' → G μ') : cwi Γ M_X11_end [aR 11 0, aI x1] μ (fun r μ1 => cwi Γ M_X12_end [aR 12 0, aI x1] μ1 (fun r' μ2 => (r = r' → G μ2) ∧ (¬ r = r' → F μ2))) := by
  obtain ⟨n, t, m, s, f, fm, nr, dr, ml, st, f0, f1, hd, ln, nf, P, C, M⟩ := h
  have hn := C.1.1
  refine c_end C.1 (fun k hk e μ1 T1 F1 => ?_) (fun c => ?_)
  · have M1 := MI_c M (Fr_c F1 (by decide))
    refine m_end M1.1 (fun k' hk' e' μ2 T2 F2 s2 => ?_) (fun c => absurd ⟨by rw [e]; exact nI_pos' (by omega), by rw [e]; exact nI_le hk (by omega)⟩ c)
    have ek : k = k' := (nI_eq (by omega) (by omega)).mp (e.symm.trans e')
    subst ek
    exact ⟨fun _ => kk μ2 ⟨k, t, m, s, f, fm, nr, dr, ml, st, f0, f1, hd, ln, nf, P, CI_m (CI_tx C T1 (Fr_mono F1 (by decide))) (Fr_m F2 (by decide)), MI_tx M1 T2 (Fr_mono F2 (by decide)) s2⟩, fun z => absurd rfl z⟩
  · exact m_end M.1 (fun k' hk' e' => absurd ⟨by rw [e']; exact nI_pos' (by omega), by rw [e']; exact nI_le hk' (by omega)⟩ c) (fun _ => ⟨fun _ => kk μ ⟨n, t, m, s, f, fm, nr, dr, ml, st, f0, f1, hd, ln, nf, P, C, M⟩, fun z => absurd rfl z⟩)
theorem p_fault (h : Iv μ) (kk : ∀ μ', Iv μ' → G μ') : cwi Γ M_X11_fault [aR 11 0] μ (fun r μ1 => cwi Γ M_X12_fault [aR 12 0] μ1 (fun r' μ2 => (r = r' → G μ2) ∧ (¬ r = r' → F μ2))) := by
  obtain ⟨n, t, m, s, f, fm, nr, dr, ml, st, f0, f1, hd, ln, nf, P, C, M⟩ := h
  have fin : ∀ μ1 μ2, TXC n t μ1 → FPP μ μ1 → FRN μ1 μ2 → G μ2 := fun μ1 μ2 T1 F1 F2 => kk μ2 ⟨n, t, m, s, f, fm, nr, dr, ml, st, f0, f1, hd, ln, nf, P, CI_m (CI_f C T1 F1) (Fr_m F2.1 (by decide)), MI_same (MI_c M (Fr_c F1.1 (by decide))) F2.1 (fun q hq => F2.2 q (by omega) (by omega) (by omega) (by omega) (by omega)) (by decide)⟩
  refine u_X11_fault (c_parse C.1 (fun x μ1 e hx T1 F1 => ?_) (fun g μ1 e T1 D1 G1 g0 g4 g5 F1 => ?_))
  · have M1 := MI_c M (Fr_c F1.1 (by decide))
    refine m_fault M1.1 (fun x' μ2 e' hx' T2 F2 => ⟨fun _ => fin μ1 μ2 T1 F1 F2, fun z => absurd ?_ z⟩) (fun g μ2 e' _ _ _ _ => by rw [e] at e'; cases e')
    rw [e] at e'
    injection e' with e'
    rw [e']
  · have M1 := MI_c M (Fr_c F1.1 (by decide))
    exact m_fault M1.1 (fun x' μ2 e' _ _ _ => by rw [e] at e'; cases e') (fun g' μ2 e' _ _ _ F2 => ⟨fun _ => fin μ1 μ2 T1 F1 F2, fun z => absurd rfl z⟩)
theorem p_format (h : Iv μ) (kk : ∀ μ', Iv μ' → G μ') : cwi Γ M_X11_format [aR 11 0] μ (fun r μ1 => cwi Γ M_X12_format [aR 12 0] μ1 (fun r' μ2 => (r = r' → G μ2) ∧ (¬ r = r' → F μ2))) := by
  obtain ⟨n, t, m, s, f, fm, nr, dr, ml, st, f0, f1, hd, ln, nf, P, C, M⟩ := h
  refine c_format C.1 (fun x μ1 e T1 F1 => ?_) (fun g μ1 e G1 g0 g4 g5 T1 h10 h8 h4 M4 J1 F1 => ?_)
  · have M1 := MI_c M (Fr_c F1.1 (by decide))
    refine m_format M1.1 (fun x' μ2 e' T2 F2 => ⟨fun _ => kk μ2 ⟨n, t, m, s, f, fm, nr, dr, ml, st, f0, f1, hd, ln, nf, P, CI_m (CI_f C T1 F1) (Fr_m F2.1 (by decide)), MI_same M1 F2.1 (fun q hq => F2.2 q (by omega) (by omega) (by omega) (by omega) (by omega)) (by decide)⟩, fun z => absurd rfl z⟩) (fun g μ2 e' _ _ _ _ _ _ _ => by rw [e] at e'; cases e')
  · have M1 := MI_c M (Fr_c F1 (by decide))
    have C1 : CI 0 t 0 s 1 (fmg g) 0 dr ml st f0 f1 hd ln nf μ1 := ⟨T1, ⟨by decide, h10, fun j hj => absurd hj (by omega)⟩, ⟨h4, M4⟩, ⟨by decide, h8, fun r hr => absurd hr (by omega)⟩, ⟨Or.inl ⟨J1.1, J1.2.1⟩, fun c hc => Or.inl (J1.2.2 c hc)⟩, DC_fr C.2.2.2.2.2 F1 (fun q _ => by rw [F1 0 (by decide)]) (by decide) (by decide) (by decide)⟩
    refine m_format M1.1 (fun x' μ2 e' _ _ => by rw [e] at e'; cases e') (fun g' μ2 e' hM T2 k9 k11 k8 F2 k16 => ?_)
    rw [e] at e'
    injection e' with e'
    subst e'
    have K2 := hM G1 g5
    have F2' : ∀ K, K ≠ 12 → K ≠ 41 → K ≠ 42 → μ2 K = μ1 K := fun K a b c => F2 K (by simp; omega)
    refine ⟨fun _ => kk μ2 ⟨0, t, 0, s, 1, fmg g, 0, dr, ml, st, f0, f1, hd, ln, nf, ⟨by decide, fun _ => fmg_ok G1 g0 g4, fun q => (nomatch q)⟩, CI_m C1 (Fr_m F2 (by decide)), ⟨T2, ⟨by decide, k9, fun j hj => absurd hj (by omega)⟩, ⟨k8, fun _ => K2, K2.2.2.2.2.1, K2.1, K2.2.1⟩, ⟨by decide, k11, fun r hr => absurd hr (by omega)⟩, TM_fr M1.2.2.2.2.1 F2 (by decide), HM_fr M1.2.2.2.2.2 F2 k16 (by decide) (by decide)⟩⟩, fun z => absurd rfl z⟩
theorem p_flux (h : Iv μ) (kk : ∀ μ', Iv μ' → G μ') : cwi Γ M_X11_flux [aR 11 0, aI x1, aI x2, aI x3, aI x4, aI x5] μ (fun r μ1 => cwi Γ M_X12_flux [aR 12 0, aI x1, aI x2, aI x3, aI x4, aI x5] μ1 (fun r' μ2 => (r = r' → G μ2) ∧ (¬ r = r' → F μ2))) := by
  obtain ⟨n, t, m, s, f, fm, nr, dr, ml, st, f0, f1, hd, ln, nf, P, C, M⟩ := h
  refine c_flux C.2.1 (fun c μ1 T1 F1 i1 => ?_) (fun c => ?_)
  · have M1 := MI_c M (Fr_c F1 (by decide))
    refine m_flux M1.2.1 (fun _ μ2 T2 F2 s2 => ⟨fun _ => kk μ2 ⟨n, t, _, _, f, fm, nr, dr, ml, st, f0, f1, hd, ln, nf, P, CI_m (CI_tp C T1 F1 i1) (Fr_m F2 (by decide)), MI_tp M1 T2 F2 s2⟩, fun z => absurd rfl z⟩) (fun c' => absurd c c')
  · exact m_flux M.2.1 (fun c' => absurd c' c) (fun _ => ⟨fun _ => kk μ ⟨n, t, m, s, f, fm, nr, dr, ml, st, f0, f1, hd, ln, nf, P, C, M⟩, fun z => absurd rfl z⟩)
theorem p_wipe (h : Iv μ) (kk : ∀ μ', Iv μ' → G μ') : cwi Γ M_X11_wipe [aR 11 0] μ (fun r μ1 => cwi Γ M_X12_wipe [aR 12 0] μ1 (fun r' μ2 => (r = r' → G μ2) ∧ (¬ r = r' → F μ2))) := by
  obtain ⟨n, t, m, s, f, fm, nr, dr, ml, st, f0, f1, hd, ln, nf, P, C, M⟩ := h
  have F1 : Fr [10, 21] μ (sto μ 10 0 1 0) := Fr_sto (by decide)
  have M1 := MI_c M (Fr_c F1 (by decide))
  have F2 : Fr [12, 43] (sto μ 10 0 1 0) (sto (sto μ 10 0 1 0) 12 0 9 0) := Fr_sto (by decide)
  refine u_X11_wipe (u_X12_wipe ⟨fun _ => kk _ ⟨n, t, 0, s, f, fm, nr, dr, ml, st, f0, f1, hd, ln, nf, P, CI_m (CI_tp C (m' := 0) (s' := s) ⟨by decide, sto_eq, fun j hj => absurd hj (by omega)⟩ F1 (fun i hi => ⟨by funext q; exact sto_i hi, by funext q; exact sto_K (by decide)⟩)) (Fr_m F2 (by decide)), MI_tp M1 ⟨by decide, sto_eq, fun j hj => absurd hj (by omega)⟩ F2 (fun q hq => sto_s hq)⟩, fun z => absurd ?_ z⟩)
  rw [C.2.1.2.1, M1.2.1.2.1]
end PPP
