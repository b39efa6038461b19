/-! format; what holds between two calls -/
def fmg (g : Nat → Option Nat) (s : Nat) : Nat := if s = 1 then (g 0).getD 0 else if s = 2 then (g 1).getD 0 else if s = 3 then 256 * (g 2).getD 0 + (g 3).getD 0 else if s = 4 then (g 4).getD 0 else if s = 5 then sk5 (g 5) else if s = 6 then (g 6).getD 0 else if s = 7 then (g 7).getD 0 else if s = 8 then (g 8).getD 0 else 0
theorem getD_lt {o : Option Nat} {k : Nat} (h : ∀ v, o = some v → v < k) (hk : 0 < k) : o.getD 0 < k := by
  cases o with
  | none => exact hk
  | some v => exact h v rfl
theorem fmg_ok {g : Nat → Option Nat} (h : GOK g) (h0 : (g 0).isSome = true) (h4 : (g 4).isSome = true) : OKF (fmg g) := by
  obtain ⟨G0, G1, G2, G3, G4, G5, G6, G7, G8⟩ := h
  have a0 : 8 ≤ (g 0).getD 0 ∧ (g 0).getD 0 ≤ 60 := by
    cases e : g 0 with
    | none => rw [e] at h0; cases h0
    | some v => exact G0 v e
  have a4 : 1 ≤ (g 4).getD 0 ∧ (g 4).getD 0 ≤ 8 := by
    cases e : g 4 with
    | none => rw [e] at h4; cases h4
    | some v => exact G4 v e
  have a1 := getD_lt (o := g 1) (k := 9) (fun v hv => by have := G1 v hv; omega) (by decide)
  have a2 := getD_lt (o := g 2) (k := 256) (fun v hv => G2 v hv) (by decide)
  have a3 := getD_lt (o := g 3) (k := 256) (fun v hv => G3 v hv) (by decide)
  have a6 := getD_lt (o := g 6) (k := 65536) (fun v hv => G6 v hv) (by decide)
  have a7 := getD_lt (o := g 7) (k := 65536) (fun v hv => G7 v hv) (by decide)
  have a8 := getD_lt (o := g 8) (k := 2) (fun v hv => by have := G8 v hv; omega) (by decide)
  have a5 : sk5 (g 5) < 3 := by
    unfold sk5
    split
    · decide
    · split <;> decide
  refine ⟨a0.1, a0.2, ?_, ?_, a4.1, a4.2, a5, a6, a7, a8⟩
  · show (g 1).getD 0 ≤ 8
    omega
  · show 256 * (g 2).getD 0 + (g 3).getD 0 < 65536
    omega
section PIV
variable {Γ : cx_T}
theorem c_format {n : Nat} {t : Nat → Nat} {μ : mH} {Q : Int32 → mH → Prop} (hT : TXC n t μ) (kF : ∀ x μ', psr n t 201 0 (fun _ => none) = .inl x → TXC n t μ' → FPP μ μ' → Q (-1) μ')
    (kS : ∀ g μ', psr n t 201 0 (fun _ => none) = .inr g → GOK g → (g 0).isSome = true → (g 4).isSome = true → (g 5).isSome = true → TXC 0 t μ' → μ' 10 0 1 = nI 0 → μ' 8 0 1 = nI 0 → μ' 4 1 0 = nI 1 → FMC 1 (fmg g) μ' → JF μ' → Fr [2, 3, 4, 8, 10, 27] μ μ' → Q (nI (fmg g 4)) μ') : cwi Γ M_X11_format [aR 11 0] μ Q := by
  have hn := hT.1
  refine u_X11_format (c_parse hT (fun x μ1 e hx T1 F1 => ⟨fun z => absurd z (nI_m1 (by omega)), fun _ => kF x μ1 e T1 F1⟩) (fun g μ1 e T1 D1 G1 g0 g4 g5 F1 => ⟨fun _ => ?_, fun z => absurd rfl z⟩))
  obtain ⟨d1, d2, d3, d4, d5, d6, d7, d8⟩ := D1
  have b8 : (g 8).getD 0 = 0 ∨ (g 8).getD 0 = 1 := by
    cases e8 : g 8 with
    | none => exact Or.inl rfl
    | some v => exact Or.inr (G1.2.2.2.2.2.2.2.2 v e8)
  refine u_X4_take ⟨by rw [d8]; rcases b8 with w | w <;> rw [w] <;> decide, ?_⟩
  rw [d1, d2, d3, d4, d5, d6, d7, d8]
  generalize hμa : sto (sto (sto (sto (sto (sto (sto (sto (sto μ1 4 1 0 1) 4 1 1 (nI ((g 0).getD 0))) 4 1 2 (nI ((g 1).getD 0))) 4 1 3 (nI (256 * (g 2).getD 0 + (g 3).getD 0))) 4 1 4 (nI ((g 4).getD 0))) 4 1 5 (nI (sk5 (g 5)))) 4 1 6 (nI ((g 6).getD 0))) 4 1 7 (nI ((g 7).getD 0))) 4 1 8 (nI ((g 8).getD 0)) = μa
  have Fa : Fr [2, 4] μ μa := by
    rw [← hμa]
    exact Fr_st2 (Fr_st2 (Fr_st2 (Fr_st2 (Fr_st2 (Fr_st2 (Fr_st2 (Fr_st2 (Fr_st2 F1.1 (by decide)) (by decide)) (by decide)) (by decide)) (by decide)) (by decide)) (by decide)) (by decide)) (by decide)
  have Ma : FMC 1 (fmg g) μa := fun s s1 s8 => by
    rw [← hμa]
    rcases (show s = 1 ∨ s = 2 ∨ s = 3 ∨ s = 4 ∨ s = 5 ∨ s = 6 ∨ s = 7 ∨ s = 8 by omega) with w | w | w | w | w | w | w | w <;> subst w <;> simp [sto] <;> rfl
  have e0 : μa 4 1 0 = 1 := by
    rw [← hμa]
    simp [sto]
  refine c_forget (fun μ4 J4 F4 => ?_)
  have Fb : Fr [2, 8, 10] μa (sto (sto (sto μa 2 0 1 0) 10 0 1 0) 8 0 1 0) := Fr_st2 (Fr_st2 (Fr_sto (by decide)) (by decide)) (by decide)
  have M4 : FMC 1 (fmg g) μ4 := FMC_fr (FMC_fr Ma Fb (by decide)) F4 (by decide)
  rw [M4 4 (by decide) (by decide)]
  refine kS g μ4 e G1 g0 g4 g5 ⟨by omega, ?_, fun j hj => absurd hj (by omega)⟩ ?_ ?_ ?_ M4 J4 (Fr_tr (Fr_mono Fa (by decide)) (Fr_tr (Fr_mono Fb (by decide)) (Fr_mono F4 (by decide))))
  · rw [Fr_at F4 (by decide), sto_K (by decide), sto_K (by decide), sto_eq]; rfl
  · rw [Fr_at F4 (by decide), sto_K (by decide), sto_eq]; rfl
  · rw [Fr_at F4 (by decide), sto_eq]; rfl
  · rw [Fr_at F4 (by decide), Fr_at Fb (by decide)]; exact e0
theorem m_format {n : Nat} {t : Nat → Nat} {μ : mH} {Q : Int32 → mH → Prop} (hT : TXM n t μ) (kF : ∀ x μ', psr n t 201 0 (fun _ => none) = .inl x → TXM n t μ' → FRN μ μ' → Q (-1) μ')
    (kS : ∀ g μ', psr n t 201 0 (fun _ => none) = .inr g → (GOK g → (g 5).isSome = true → FMM (fmg g) μ') → TXM 0 t μ' → μ' 12 0 9 = nI 0 → μ' 12 0 11 = nI 0 → μ' 12 0 8 = nI 1 → Fr [12, 41, 42] μ μ' → μ' 12 0 16 = μ 12 0 16 → Q (nI (fmg g 4)) μ') : cwi Γ M_X12_format [aR 12 0] μ Q := by
  have hn := hT.1
  refine u_X12_format (m_fault hT (fun x μ1 e hx T1 F1 => ⟨fun z => absurd z (nI_m1 (by omega)), fun _ => kF x μ1 e T1 F1⟩) (fun g μ1 e T1 N1 B1 F1 => ⟨fun _ => ?_, fun z => absurd rfl z⟩))
  have lp : ∀ d i (μ2 : mH), i + d = 9 → Fr [42] μ1 μ2 → (∀ k, k < i → μ2 42 0 k = nI ((g k).getD 0)) → aw Γ M_X12_format 12 [aR 12 0, aI (nI i)] [] μ2 (rI Q) := by
    intro d
    induction d with
    | zero =>
      intro i μ2 hi F2 h2
      obtain rfl : i = 9 := by omega
      refine u_X12_format_12 (br_t (by decide) ?_)
      rw [h2 4 (by decide)]
      have F3 : Fr [12] μ2 (sto (sto (sto (sto μ2 12 0 8 1) 12 0 11 0) 12 0 9 0) 12 0 1 0) := Fr_st2 (Fr_st2 (Fr_st2 (Fr_sto (by decide)) (by decide)) (by decide)) (by decide)
      refine kS g _ e (fun G g5 => ?_) ⟨by omega, by rw [sto_eq]; rfl, fun j hj => absurd hj (by omega)⟩ (by rw [sto_s (by decide), sto_eq]; rfl) (by rw [sto_s (by decide), sto_s (by decide), sto_eq]; rfl) (by rw [sto_s (by decide), sto_s (by decide), sto_s (by decide), sto_eq]; rfl) (Fr_tr (Fr_mono F1.1 (by decide)) (Fr_tr (Fr_mono F2 (by decide)) (Fr_mono F3 (by decide)))) ?_
      · have a3 := getD_lt (o := g 3) (k := 256) (fun v hv => G.2.2.2.1 v hv) (by decide)
        have c42 : ∀ k, k < 9 → (sto (sto (sto (sto μ2 12 0 8 1) 12 0 11 0) 12 0 9 0) 12 0 1 0) 42 0 k = nI ((g k).getD 0) := fun k hk => by rw [Fr_at F3 (by decide)]; exact h2 k hk
        refine ⟨c42 0 (by decide), c42 1 (by decide), ?_, ?_, c42 4 (by decide), ?_, c42 6 (by decide), c42 7 (by decide), c42 8 (by decide)⟩
        · rw [c42 2 (by decide)]
          show nI ((g 2).getD 0) = nI ((256 * (g 2).getD 0 + (g 3).getD 0) / 256)
          congr 1
          omega
        · rw [c42 3 (by decide)]
          show nI ((g 3).getD 0) = nI ((256 * (g 2).getD 0 + (g 3).getD 0) % 256)
          congr 1
          omega
        · rw [c42 5 (by decide)]
          show nI ((g 5).getD 0) = nI (if sk5 (g 5) = 2 then 1 else sk5 (g 5) + 2)
          cases e5 : g 5 with
          | none => rw [e5] at g5; cases g5
          | some v =>
            have := G.2.2.2.2.2.1 v e5
            rcases (show v = 1 ∨ v = 2 ∨ v = 3 by omega) with w | w | w <;> subst w <;> rfl
      · rw [sto_s (by decide), sto_s (by decide), sto_s (by decide), sto_s (by decide), Fr_at F2 (by decide)]
        exact F1.2 16 (by decide) (by decide) (by decide) (by decide) (by decide)
    | succ d ih =>
      intro i μ2 hi F2 h2
      have ei : μ2 41 0 i = nfv (g i) := by rw [Fr_at F2 (by decide)]; exact N1 i (by omega)
      refine u_X12_format_12 (br_f (nI_ge (b := 9) (by omega) (by decide)) ?_)
      rw [tn_nI (by omega), ei, nfv_m1 B1, nI_1]
      have go : ∀ x : Int32, x = nI ((g i).getD 0) → aw Γ M_X12_format 12 [aR 12 0, aI (nI (i + 1))] [] (sto μ2 42 0 i x) (rI Q) := fun x hx => ih (i + 1) _ (by omega) (Fr_st2 F2 (by decide)) (fun k hk => by
        by_cases w : k = i
        · subst w; rw [sto_eq, hx]
        · rw [sto_s w]; exact h2 k (by omega))
      refine ⟨vp_in_nI (by omega) (by decide), fun z => ⟨vp_in_nI (by omega) (by decide), vp_in_nI (by omega) (by decide), go _ ?_⟩, fun z => ⟨vp_in_nI (by omega) (by decide), go _ ?_⟩⟩
      · cases eg : g i with
        | none => rw [eg] at z; exact absurd rfl z
        | some v => rfl
      · cases eg : g i with
        | none => rfl
        | some v => rw [eg] at z; cases z
  exact lp 9 0 μ1 rfl Fr_rf (fun k hk => absurd hk (by omega))
end PIV
def PU (f : Nat) (fm : Nat → Nat) (nr : Nat) : Prop := f ≤ 1 ∧ (f = 1 → OKF fm) ∧ (f = 0 → nr = 0)
def CI (n : Nat) (t : Nat → Nat) (m : Nat) (s : Nat → Nat) (f : Nat) (fm : Nat → Nat) (nr : Nat) (dr ml : Nat → Nat) (st : Nat → Nat → Nat) (f0 f1 hd ln : Nat → Nat) (nf : Nat) (μ : mH) : Prop := TXC n t μ ∧ TPC 0 m s μ ∧ (μ 4 1 0 = nI f ∧ FMC 1 fm μ) ∧ RDC fm nr dr ml st μ ∧ JC fm nr ml st μ ∧ DC f0 f1 hd ln nf μ
def MI (n : Nat) (t : Nat → Nat) (m : Nat) (s : Nat → Nat) (f : Nat) (fm : Nat → Nat) (nr : Nat) (dr ml : Nat → Nat) (st : Nat → Nat → Nat) (f0 f1 hd ln : Nat → Nat) (nf : Nat) (μ : mH) : Prop := TXM n t μ ∧ TPM m s μ ∧ (μ 12 0 8 = nI f ∧ (f = 1 → FMM fm μ) ∧ μ 42 0 4 = nI (fm 4) ∧ μ 42 0 0 = nI (fm 1) ∧ μ 42 0 1 = nI (fm 2)) ∧ RDM nr dr ml st μ ∧ TM f0 f1 μ ∧ HM nf hd ln μ
def Iv (μ : mH) : Prop := ∃ (n : Nat) (t : Nat → Nat) (m : Nat) (s : Nat → Nat) (f : Nat) (fm : Nat → Nat) (nr : Nat) (dr ml : Nat → Nat) (st : Nat → Nat → Nat) (f0 f1 hd ln : Nat → Nat) (nf : Nat), PU f fm nr ∧ CI n t m s f fm nr dr ml st f0 f1 hd ln nf μ ∧ MI n t m s f fm nr dr ml st f0 f1 hd ln nf μ
section PIF
variable {n m f nr nf : Nat} {t s fm dr ml f0 f1 hd ln : Nat → Nat} {st : Nat → Nat → Nat}
theorem Fr_c {l : List Nat} {μ μ' : mH} (h : Fr l μ μ') (hl : ∀ x, x ∈ l → x < 40 ∧ x ≠ 12) : ∀ K, K = 12 ∨ 40 ≤ K → μ' K = μ K := fun K hK => h K (fun q => by have := hl K q; omega)
theorem Fr_m {l : List Nat} {μ μ' : mH} (h : Fr l μ μ') (hl : ∀ x, x ∈ l → x = 12 ∨ 40 ≤ x) : ∀ K, K < 40 → K ≠ 12 → μ' K = μ K := fun K h1 h2 => h K (fun q => by have := hl K q; omega)
theorem MI_c {μ μ' : mH} (hM : MI n t m s f fm nr dr ml st f0 f1 hd ln nf μ) (h : ∀ K, K = 12 ∨ 40 ≤ K → μ' K = μ K) : MI n t m s f fm nr dr ml st f0 f1 hd ln nf μ' := by
  unfold MI TXM TPM FMM RDM TM HM at hM ⊢
  rw [h 12 (by decide), h 40 (by decide), h 42 (by decide), h 43 (by decide), h 44 (by decide), h 45 (by decide), h 46 (by decide), h 47 (by decide), h 48 (by decide), h 49 (by decide)]
  exact hM
theorem CI_m {μ μ' : mH} (hC : CI n t m s f fm nr dr ml st f0 f1 hd ln nf μ) (h : ∀ K, K < 40 → K ≠ 12 → μ' K = μ K) : CI n t m s f fm nr dr ml st f0 f1 hd ln nf μ' := by
  obtain ⟨c1, c2, ⟨c3, c4⟩, c5, c6, c7⟩ := hC
  have hF : Fr [12, 40, 41, 42, 43] μ μ' → True := fun _ => trivial
  refine ⟨⟨c1.1, by rw [h 2 (by decide) (by decide)]; exact c1.2.1, fun j hj => by rw [h 20 (by decide) (by decide)]; exact c1.2.2 j hj⟩, TPC_at c2 (by rw [h 10 (by decide) (by decide)]) (by rw [h 21 (by decide) (by decide)]), ⟨by rw [h 4 (by decide) (by decide)]; exact c3, fun q a b => by rw [h 4 (by decide) (by decide)]; exact c4 q a b⟩, ?_, ?_, ?_⟩
  · obtain ⟨r1, r2, r3⟩ := c5
    refine ⟨r1, by rw [h 8 (by decide) (by decide)]; exact r2, fun r hr => ?_⟩
    obtain ⟨a1, a2, a3, a4, a5⟩ := r3 r hr
    refine ⟨a1, by rw [h 9 (by decide) (by decide)]; exact a2, TPC_at a3 (by rw [h 10 (by decide) (by decide)]) (by rw [h 21 (by decide) (by decide)]), FDC_at a4 (by rw [h 1 (by decide) (by decide)]) (fun q _ => ⟨by rw [h 7 (by decide) (by decide)], by rw [h 24 (by decide) (by decide)]⟩), fun y => ?_⟩
    rw [h 9 (by decide) (by decide)] at y
    have := a5 y
    unfold TUN at this ⊢
    rw [h 9 (by decide) (by decide)]
    exact this
  · unfold JC JV CPC at c6 ⊢
    rw [h 3 (by decide) (by decide), h 26 (by decide) (by decide), h 27 (by decide) (by decide), h 24 (by decide) (by decide), h 7 (by decide) (by decide)]
    exact c6
  · unfold DC RW HD at c7 ⊢
    rw [h 0 (by decide) (by decide), h 35 (by decide) (by decide), h 37 (by decide) (by decide), h 38 (by decide) (by decide)]
    exact c7
theorem MI_same {l : List Nat} {μ μ' : mH} (hM : MI n t m s f fm nr dr ml st f0 f1 hd ln nf μ) (hF : Fr l μ μ') (h1 : ∀ q, q = 1 ∨ q = 8 ∨ q = 9 ∨ q = 11 ∨ q = 16 → μ' 12 0 q = μ 12 0 q) (hl : ∀ x, x ∈ l → x = 12 ∨ x = 41 ∨ 50 ≤ x) : MI n t m s f fm nr dr ml st f0 f1 hd ln nf μ' := by
  have k : ∀ K, K ≠ 12 → K ≠ 41 → K < 50 → μ' K = μ K := fun K a b c => hF K (fun q => by have := hl K q; omega)
  unfold MI TXM TPM FMM RDM TM HM at hM ⊢
  rw [h1 1 (by decide), h1 8 (by decide), h1 9 (by decide), h1 11 (by decide), h1 16 (by decide), k 40 (by decide) (by decide) (by decide), k 42 (by decide) (by decide) (by decide), k 43 (by decide) (by decide) (by decide), k 44 (by decide) (by decide) (by decide), k 45 (by decide) (by decide) (by decide), k 46 (by decide) (by decide) (by decide), k 47 (by decide) (by decide) (by decide), k 48 (by decide) (by decide) (by decide), k 49 (by decide) (by decide) (by decide)]
  exact hM
end PIF
theorem Iv_0 : Iv mu0 := by
  have z : ∀ K i s, ¬ ((K = 3 ∧ (s = 5 ∨ s = 6)) ∨ K = 27) → ¬ ((K = 35 ∧ i < 2) ∨ K = 47) → mu0 K i s = 0 := fun K i s a b => by unfold mu0; rw [if_neg a, if_neg b]
  have q25 : (25 : Nat) ≤ 26 := by decide
  refine ⟨0, fun _ => 0, 0, fun _ => 0, 0, fun _ => 0, 0, fun _ => 0, fun _ => 0, fun _ _ => 0, fun _ => 25, fun _ => 25, fun _ => 0, fun _ => 0, 0, ⟨by decide, fun h => (nomatch h), fun _ => rfl⟩, ⟨⟨by decide, z _ _ _ (by decide) (by decide), fun j hj => absurd hj (by omega)⟩, ⟨by decide, z _ _ _ (by decide) (by decide), fun j hj => absurd hj (by omega)⟩, ⟨z _ _ _ (by decide) (by decide), fun q _ _ => z _ _ _ (by omega) (by omega)⟩, ⟨by decide, z _ _ _ (by decide) (by decide), fun r hr => absurd hr (by omega)⟩, ⟨Or.inl ⟨rfl, rfl⟩, fun c _ => Or.inl ?_⟩, ⟨fun c _ => ⟨q25, ?_⟩, fun c _ => ⟨q25, ?_⟩, ⟨by decide, z _ _ _ (by decide) (by decide), fun q hq => absurd hq (by omega)⟩, fun h => absurd (z _ _ _ (by decide) (by decide)) h⟩⟩, ⟨⟨by decide, z _ _ _ (by decide) (by decide), fun j hj => absurd hj (by omega)⟩, ⟨by decide, z _ _ _ (by decide) (by decide), fun j hj => absurd hj (by omega)⟩, ⟨z _ _ _ (by decide) (by decide), fun h => (nomatch h), z _ _ _ (by decide) (by decide), z _ _ _ (by decide) (by decide), z _ _ _ (by decide) (by decide)⟩, ⟨by decide, z _ _ _ (by decide) (by decide), fun r hr => absurd hr (by omega)⟩, fun c _ => ⟨q25, q25, ?_, ?_⟩, ⟨by decide, z _ _ _ (by decide) (by decide), fun q hq => absurd hq (by omega)⟩⟩⟩
  · unfold mu0; rw [if_pos (Or.inr rfl)]
  · unfold mu0; rw [if_neg (by omega), if_pos (Or.inl ⟨rfl, by decide⟩)]; rfl
  · unfold mu0; rw [if_neg (by omega), if_pos (Or.inl ⟨rfl, by decide⟩)]; rfl
  · unfold mu0; rw [if_neg (by omega), if_pos (Or.inr rfl)]; rfl
  · unfold mu0; rw [if_neg (by omega), if_pos (Or.inr rfl)]; rfl
