def FRJ (μ μ' : mH) : Prop := Fr [24, 29, 30, 31, 32] μ μ' ∧ ∀ q, q ≠ 88 → μ' 24 q = μ 24 q
theorem FITd_cong {fm : Nat → Nat} {T S n : Nat} {V : Nat → Nat → Nat} {d d' : Nat → Nat} (h : ∀ i, i < fm 4 → d i = d' i) (hf : FITd fm T S n V d) : FITd fm T S n V d' := by
  obtain ⟨a, b, c⟩ := hf
  have e := SUMd_cong (fm := fm) (T := T) (S := S) h
  exact ⟨fun i hi => by rw [← h i hi]; exact a i hi, by rw [← e]; exact b, by rw [← e]; exact c⟩
theorem dtd_inj {n : Nat} {V : Nat → Nat → Nat} {d d' : Nat → Nat} {i : Nat} (h : d i < KK n V i) (h' : d' i < KK n V i) (e : dtd n V d i = dtd n V d' i) : d i = d' i := kv_inj h h' e
def FI (fm : Nat → Nat) (T S n : Nat) (V : Nat → Nat → Nat) (F ρ : Nat) (μ : mH) : Prop :=
  (F = 0 ∧ ∀ d, (∀ s, s < fm 4 → d s < KK n V s) → rkq (KK n V) d (fm 4) < ρ → ¬ FITd fm T S n V (dtd n V d)) ∨ (F = 1 ∧ ∃ d0, (∀ s, s < fm 4 → d0 s < KK n V s) ∧ rkq (KK n V) d0 (fm 4) < ρ ∧ FITd fm T S n V (dtd n V d0) ∧ (∀ i, i < fm 4 → μ 24 88 i = nI (dtd n V d0 i)) ∧ ∀ d, (∀ s, s < fm 4 → d s < KK n V s) → rkq (KK n V) d (fm 4) < ρ → FITd fm T S n V (dtd n V d) → rkq (KK n V) d (fm 4) = rkq (KK n V) d0 (fm 4))
section PCN
variable {Γ : cx_T}
theorem c_keepRow {z n : Nat} {V : Nat → Nat → Nat} {d : Nat → Nat} {μ : mH} {Q : mH → Prop} (hz : z ≤ 8) (hn8 : n ≤ 80) (hK : KSC n V z μ) (hd : ∀ s, s < z → d s < KK n V s ∧ μ 31 0 s = nI (d s)) (kk : ∀ μ', (∀ i, i < z → μ' 24 88 i = nI (dtd n V d i)) → Fr [24] μ μ' → (∀ q, q ≠ 88 → μ' 24 q = μ 24 q) → Q μ') : cwv Γ M_X3_keepRow [aR 3 0, aI (nI z)] μ Q := by
  have lp : ∀ t s (μ1 : mH), s + t = z → (∀ i, i < s → μ1 24 88 i = nI (dtd n V d i)) → Fr [24] μ μ1 → (∀ q, q ≠ 88 → μ1 24 q = μ 24 q) → aw Γ M_X3_keepRow 2 [aR 3 0, aI (nI z), aI (nI s)] [] μ1 (rV Q) := by
    intro t
    induction t with
    | zero =>
      intro s μ1 hs h1 F1 q1
      obtain rfl : s = z := by omega
      exact u_X3_keepRow_2 (br_t (nI_le (Nat.le_refl _) (by omega)) (kk μ1 h1 F1 q1))
    | succ t ih =>
      intro s μ1 hs h1 F1 q1
      obtain ⟨a, b⟩ := hd s (by omega)
      have hk := kK_le n V (2 + s)
      change KK n V s ≤ n at hk
      refine u_X3_keepRow_2 (br_f (nI_ge (by omega) (by omega)) ?_)
      rw [tn_nI (by omega), Fr_at F1 (show 31 ∉ [24] by decide), b, tn_nI (show d s < 2 ^ 31 by omega), Fr_at F1 (show 29 ∉ [24] by decide), (hK s (by omega)).2 _ a, nI_1]
      refine ⟨vp_in_nI (by omega) (by decide), vp_in_nI (by omega) (by decide), vp_in_nI (by omega) (by decide), vp_in_nI (by omega) (by decide), ih (s + 1) _ (by omega) (fun i hi => ?_) (Fr_st2 F1 (by decide)) (fun q y => by rw [← q1 q y]; funext s'; exact sto_i y)⟩
      by_cases e : i = s
      · subst e; exact sto_eq
      · rw [sto_s e]; exact h1 i (by omega)
  exact u_X3_keepRow (lp z 0 μ (Nat.zero_add _) (fun i hi => absurd hi (by omega)) Fr_rf (fun _ _ => rfl))
theorem mend_lp {fm : Nat → Nat} {T S n : Nat} {V : Nat → Nat → Nat} {μ0 : mH} {Q : Int32 → mH → Prop} (hO : OKF fm) (hT : T < 256) (hS : S < 256) (hn8 : n ≤ 80) (hV : ∀ c, c < n → ∀ i, V c i < 256) (hF : FMC 1 fm μ0) (hK : KSC n V (fm 4 + 2) μ0) (hP : PKq (KK n V) (fm 4 + 2) ≤ 4096) (hPD : PKq (KK n V) (fm 4) ≤ 4096)
    (k1 : ∀ dat μ', UNI fm T S n V dat → (∀ i, i < fm 4 → μ' 24 88 i = nI (dat i)) → FRJ μ0 μ' → Q 1 μ') (k0 : (¬ ∃ dat, UNI fm T S n V dat) → ∀ μ', FRJ μ0 μ' → Q 0 μ') :
    ∀ (e ρ F ch : Nat) (d : Nat → Nat) (μ : mH), ρ + e = PKq (KK n V) (fm 4) → FRJ μ0 μ → KSC n V (fm 4 + 2) μ → (0 < e → (∀ s, s < fm 4 → d s < KK n V s ∧ μ 31 0 s = nI (d s)) ∧ rkq (KK n V) d (fm 4) = ρ ∧ ch ≤ fm 4 ∧ ∀ s, s ≤ ch → μ 32 0 s = nI (sm fm (hdv fm T S (dtd n V d)) (2 + s))) → FI fm T S n V F ρ μ → aw Γ M_X3_mend 82 [aR 3 0, aR 4 1, aI (nI (fm 4)), aI (nI (PKq (KK n V) (fm 4))), aI (nI ch), aI (nI F), aI (nI ρ), aX] [] μ (rI Q) := by
  have o5 := hO.2.2.2.2.1
  have o6 := hO.2.2.2.2.2.1
  have dOf : ∀ dat, FITd fm T S n V dat → ∃ d, (∀ s, s < fm 4 → d s < KK n V s) ∧ (∀ i, i < fm 4 → dtd n V d i = dat i) ∧ FITd fm T S n V (dtd n V d) := fun dat hf => by
    obtain ⟨d, hd⟩ := dig_of (fm 4) hf.1
    exact ⟨d, fun s hs => (hd s hs).1, fun i hi => (hd i hi).2, FITd_cong (fun i hi => ((hd i hi).2).symm) hf⟩
  intro e
  induction e with
  | zero =>
    intro ρ F ch d μ hρ hJ hKm _ hI
    refine u_X3_mend_82 (br_t (nI_le (by omega) (by omega)) ?_)
    rcases hI with ⟨f0, g⟩ | ⟨f1, d0, g1, g2, g3, g4, g5⟩
    · subst f0
      refine ⟨fun _ => k0 (fun ⟨dat, hu⟩ => ?_) μ hJ, fun z => absurd z (by decide)⟩
      obtain ⟨d', a, b, c⟩ := dOf dat hu.2.1
      exact g d' a (by have := rkq_lt (K := KK n V) (fm 4) a; omega) c
    · subst f1
      refine ⟨fun z => absurd rfl z, fun _ => k1 (dtd n V d0) μ ⟨hP, g3, fun dat' hf i hi => ?_⟩ g4 hJ⟩
      obtain ⟨d', a, b, c⟩ := dOf dat' hf
      have er := g5 d' a (by have := rkq_lt (K := KK n V) (fm 4) a; omega) c
      have ed := rkq_inj (fm 4) a g1 er i hi
      rw [← b i hi]
      unfold dtd
      rw [ed]
  | succ e ih =>
    intro ρ F ch d μ hρ hJ hKm hD hI
    obtain ⟨d1, d2, d3, d4⟩ := hD (by omega)
    have dv : ∀ s, s < fm 4 → d s < KK n V s := fun s hs => (d1 s hs).1
    have hF82 : F ≤ 1 := by rcases hI with ⟨a, _⟩ | ⟨a, _⟩ <;> omega
    have dlt : ∀ i, i < fm 4 → dtd n V d i < 256 := fun i hi => by
      obtain ⟨c, c1, c2⟩ := dtd_in (dv i hi)
      rw [c2]; exact hV c c1 _
    have hlt : ∀ j, j < 2 + fm 4 → hdv fm T S (dtd n V d) j < 256 := fun j hj => by
      unfold hdv
      split
      · split <;> assumption
      · split
        · split <;> assumption
        · exact dlt _ (by omega)
    refine u_X3_mend_82 (br_f (nI_ge (by omega) (by omega)) ?_)
    -- the sums
    have lp2 : ∀ t s (μ1 : mH), s + t = fm 4 → FRJ μ0 μ1 → KSC n V (fm 4 + 2) μ1 → (∀ s, s < fm 4 → μ1 31 0 s = nI (d s)) → (∀ i, μ1 24 88 i = μ 24 88 i) → (∀ s', s' ≤ s → μ1 32 0 s' = nI (sm fm (hdv fm T S (dtd n V d)) (2 + s'))) → aw Γ M_X3_mend 92 [aR 3 0, aR 4 1, aI (nI (fm 4)), aI (nI (PKq (KK n V) (fm 4))), aX, aI (nI F), aI (nI ρ), aI (nI s)] [] μ1 (rI Q) := by
      intro t
      induction t with
      | zero =>
        intro s μ1 hs J1 K1 h31 h24 h32
        obtain rfl : s = fm 4 := by omega
        have I1 : FI fm T S n V F ρ μ1 := by
          rcases hI with g | ⟨f1, d0, g1, g2, g3, g4, g5⟩
          · exact Or.inl g
          · exact Or.inr ⟨f1, d0, g1, g2, g3, fun i hi => by rw [h24]; exact g4 i hi, g5⟩
        have hsm := sm_lt hO (2 + fm 4) hlt
        have go : ∀ (F' : Nat) (μ2 : mH), F' ≤ 1 → FRJ μ0 μ2 → KSC n V (fm 4 + 2) μ2 → (∀ s, s < fm 4 → μ2 31 0 s = nI (d s)) → (∀ s', s' ≤ fm 4 → μ2 32 0 s' = nI (sm fm (hdv fm T S (dtd n V d)) (2 + s'))) → FI fm T S n V F' (ρ + 1) μ2 → cwi Γ M_X3_chooseAnother [aR 3 0, aI (nI (fm 4))] μ2 (fun r4 μ3 => aw Γ M_X3_mend 82 [aR 3 0, aR 4 1, aI (nI (fm 4)), aI (nI (PKq (KK n V) (fm 4))), aI r4, aI (nI F'), aI (nI ρ + 1), aX] [] μ3 (rI Q)) := by
          intro F' μ2 hF' J2 K2 g31 g32 I2
          rw [nI_1]
          have st : ∀ μ3, Fr [31] μ2 μ3 → FRJ μ0 μ3 ∧ KSC n V (fm 4 + 2) μ3 ∧ FI fm T S n V F' (ρ + 1) μ3 := fun μ3 F3 => by
            refine ⟨⟨Fr_tr J2.1 (Fr_mono F3 (by decide)), fun q y => by rw [F3 24 (by decide)]; exact J2.2 q y⟩, fun s hs => ?_, ?_⟩
            · rw [F3 30 (by decide), F3 29 (by decide)]; exact K2 s hs
            · unfold FI
              rw [F3 24 (by decide)]
              exact I2
          refine c_chooseAnother (K := KK n V) (d := d) o6 (fun s hs => ⟨Nat.le_trans (kK_le _ _ _) hn8, dv s hs, (K2 s (by omega)).1, g31 s hs⟩) (fun j d' μ3 hj a1 a2 a3 a4 a5 F3 => ?_) (fun hfull μ3 F3 => ?_)
          · obtain ⟨s1, s2, s3⟩ := st μ3 F3
            refine ih (ρ + 1) F' j d' μ3 (by omega) s1 s2 (fun _ => ⟨fun s hs => ⟨?_, a5 s hs⟩, ?_, by omega, fun s hs => ?_⟩) s3
            · rcases Nat.lt_trichotomy s j with q | q | q
              · rw [a1 s q]; exact dv s hs
              · rw [q]; exact a3
              · have := dv s hs
                rw [(a4 s q hs).2]; omega
            · have := rkq_step (K := KK n V) a1 a2 (fm 4 - (j + 1)) (fun s h1 h2 => a4 s h1 (by omega))
              rw [show j + 1 + (fm 4 - (j + 1)) = fm 4 by omega, d2] at this
              exact this
            · rw [Fr_at F3 (by decide), g32 s (by omega)]
              congr 1
              refine sm_cong _ (fun i hi => ?_)
              unfold hdv
              by_cases y : i = 0
              · rw [if_pos y, if_pos y]
              · rw [if_neg y, if_neg y]
                by_cases w : i = 1
                · rw [if_pos w, if_pos w]
                · rw [if_neg w, if_neg w]
                  unfold dtd
                  rw [a1 (i - 2) (by omega)]
          · obtain ⟨s1, s2, s3⟩ := st μ3 F3
            have := rkq_full (K := KK n V) (d := d) (fm 4) hfull
            exact ih (ρ + 1) F' 0 d μ3 (by omega) s1 s2 (fun h => absurd h (by omega)) s3
        have miss : ¬ FITd fm T S n V (dtd n V d) → cwi Γ M_X3_chooseAnother [aR 3 0, aI (nI (fm 4))] μ1 (fun r4 μ3 => aw Γ M_X3_mend 82 [aR 3 0, aR 4 1, aI (nI (fm 4)), aI (nI (PKq (KK n V) (fm 4))), aI r4, aI (nI F), aI (nI ρ + 1), aX] [] μ3 (rI Q)) := fun hno => by
          refine go F μ1 hF82 J1 K1 h31 h32 ?_
          have same : ∀ d', (∀ s, s < fm 4 → d' s < KK n V s) → rkq (KK n V) d' (fm 4) < ρ + 1 → FITd fm T S n V (dtd n V d') → rkq (KK n V) d' (fm 4) < ρ := fun d' v' l' f' => by
            by_cases y : rkq (KK n V) d' (fm 4) < ρ
            · exact y
            · have ed := rkq_inj (fm 4) v' dv (by omega)
              exact absurd (FITd_cong (fun i hi => by unfold dtd; rw [ed i hi]) f') hno
          rcases I1 with ⟨f0, g⟩ | ⟨f1, d0, g1, g2, g3, g4, g5⟩
          · exact Or.inl ⟨f0, fun d' v' l' f' => g d' v' (same d' v' l' f') f'⟩
          · exact Or.inr ⟨f1, d0, g1, by omega, g3, g4, fun d' v' l' f' => g5 d' v' (same d' v' l' f') f'⟩
        refine u_X3_mend_92 (br_t (nI_le (Nat.le_refl _) (by omega)) ⟨vp_in_nI (by omega) (by decide), u_X3_hasSum ?_⟩)
        rw [tn_nI (by omega), h32 (fm 4) (Nat.le_refl _), pk_shrN (by omega) _ 8 (by decide), pk_andN (by omega) 8 (by decide), show nI (fm 4) + (1 : Int32) = nI (fm 4 + 1) from nI_1 _]
        have kl : ∀ s, KK n V s ≤ 80 := fun s => Nat.le_trans (kK_le _ _ _) hn8
        have kvl : ∀ s j, j < KK n V s → kv n V (2 + s) j < 2 ^ 31 := fun s j hj => by
          obtain ⟨c, c1, _, _, c4⟩ := kv_in hj
          have := hV c c1 (2 + s)
          rw [c4]; omega
        have hsum : sm fm (hdv fm T S (dtd n V d)) (2 + fm 4) = SUMd fm T S (dtd n V d) := rfl
        rw [hsum] at hsm ⊢
        refine s_hasKind (by omega) (kl _) (K1 (fm 4) (by omega)).1 (K1 (fm 4) (by omega)).2 (kvl _) (by omega) (fun hA => ⟨fun y => absurd y (by decide), fun _ => ?_⟩) (fun hA => ⟨fun _ => ⟨fun _ => miss (fun hf => hA (kv_ex.mpr hf.2.1)), fun y => absurd rfl y⟩, fun y => absurd rfl y⟩)
        refine s_hasKind (by omega) (kl _) (K1 (fm 4 + 1) (by omega)).1 (K1 (fm 4 + 1) (by omega)).2 (kvl _) (by omega) (fun hB => ⟨fun y => absurd y (by decide), fun _ => ?_⟩) (fun hB => ⟨fun _ => ⟨fun _ => miss (fun hf => hB ?_), fun y => absurd rfl y⟩, fun y => absurd rfl y⟩)
        · -- it fits
          have hfit : FITd fm T S n V (dtd n V d) := ⟨fun i hi => dtd_in (dv i hi), kv_ex.mp hA, by
            have := kv_ex.mp hB
            rw [show 2 + (fm 4 + 1) = 3 + fm 4 by omega] at this
            exact this⟩
          refine ⟨fun y => absurd y (by decide), fun _ => ?_⟩
          rw [nI_1 F]
          refine pk_le (F + 1) 1 (fun hF1 => ?_) (fun hF1 => ?_)
          · refine c_keepRow o6 hn8 (fun s hs => K1 s (by omega)) (fun s hs => ⟨dv s hs, h31 s hs⟩) (fun μ2 hw F2 q2 => ?_)
            refine go (F + 1) μ2 (by omega) ⟨Fr_tr J1.1 (Fr_mono F2 (by decide)), fun q y => by rw [q2 q y]; exact J1.2 q y⟩ (fun s hs => by rw [F2 30 (by decide), F2 29 (by decide)]; exact K1 s hs) (fun s hs => by rw [F2 31 (by decide)]; exact h31 s hs) (fun s hs => by rw [F2 32 (by decide)]; exact h32 s hs) ?_
            rcases I1 with ⟨f0, g⟩ | ⟨f1, _⟩
            · refine Or.inr ⟨by omega, d, dv, by omega, hfit, hw, fun d' v' l' f' => ?_⟩
              by_cases y : rkq (KK n V) d' (fm 4) < ρ
              · exact absurd f' (g d' v' y)
              · omega
            · omega
          · rcases I1 with ⟨f0, g⟩ | ⟨f1, d0, g1, g2, g3, g4, g5⟩
            · omega
            · refine k0 (fun ⟨dat, hu⟩ => ?_) μ1 J1
              have ed : ∀ i, i < fm 4 → d0 i = d i := fun i hi => dtd_inj (g1 i hi) (dv i hi) (by rw [hu.2.2 _ g3 i hi, hu.2.2 _ hfit i hi])
              have := rkq_cong (K := KK n V) (fm 4) ed
              omega
        · have := hf.2.2
          rw [← show 2 + (fm 4 + 1) = 3 + fm 4 by omega] at this
          exact kv_ex.mpr this
      | succ t iht =>
        intro s μ1 hs J1 K1 h31 h24 h32
        have ds := dv s (by omega)
        have kl : KK n V s ≤ 80 := Nat.le_trans (kK_le _ _ _) hn8
        refine u_X3_mend_92 (br_f (nI_ge (by omega) (by omega)) ?_)
        rw [tn_nI (show s < 2 ^ 31 by omega), h32 s (Nat.le_refl _), h31 s (by omega), tn_nI (show d s < 2 ^ 31 by omega), (K1 s (by omega)).2 _ ds, nI_1 s, tn_nI (show s + 1 < 2 ^ 31 by omega)]
        refine ⟨vp_in_nI (by omega) (by decide), vp_in_nI (by omega) (by decide), vp_in_nI (by omega) (by decide), vp_in_nI (by omega) (by decide), s_sumWith hO (fun s' a b => by rw [Fr_at J1.1 (by decide)]; exact hF s' a b) (sm_lt hO _ (fun j hj => hlt j (by omega))) (dlt s (by omega)) ⟨vp_in_nI (by omega) (by decide), iht (s + 1) _ (by omega) ⟨Fr_st2 J1.1 (by decide), fun q y => by rw [← J1.2 q y]; funext s'; exact sto_K (by decide)⟩ (fun s' hs' => ?_) (fun s' hs' => by rw [sto_K (by decide)]; exact h31 s' hs') (fun i => by rw [sto_K (by decide)]; exact h24 i) (fun s' hs' => ?_)⟩⟩
        · refine ⟨by rw [sto_K (by decide)]; exact (K1 s' hs').1, fun j hj => by rw [sto_K (by decide)]; exact (K1 s' hs').2 j hj⟩
        · by_cases y : s' = s + 1
          · rw [y, sto_eq]
            congr 1
            have eh : hdv fm T S (dtd n V d) (2 + s) = kv n V (2 + s) (d s) := by
              unfold hdv
              rw [if_neg (by omega), if_neg (by omega), show 2 + s - 2 = s by omega]
              rfl
            show _ = sw fm (sm fm (hdv fm T S (dtd n V d)) (2 + s)) (hdv fm T S (dtd n V d) (2 + s))
            rw [eh]
          · rw [sto_s y]; exact h32 s' (by omega)
    exact lp2 (fm 4 - ch) ch μ (by omega) hJ hKm (fun s hs => (d1 s hs).2) (fun _ => rfl) d4
theorem c_mend {fm : Nat → Nat} {T S n : Nat} {V : Nat → Nat → Nat} {r : Nat → Bool} {μ : mH} {Q : Int32 → mH → Prop} (hO : OKF fm) (hT : T < 256) (hS : S < 256) (hF : FMC 1 fm μ) (hn : 0 < n) (hW : CPV fm T S n V r) (hC : CPC fm n V r μ) (h5 : μ 3 0 5 = nI T) (h6 : μ 3 0 6 = nI S)
    (k1 : ∀ dat μ', UNI fm T S n V dat → (∀ i, i < fm 4 → μ' 24 88 i = nI (dat i)) → FRJ μ μ' → Q 1 μ') (k0 : (¬ ∃ dat, UNI fm T S n V dat) → ∀ μ', FRJ μ μ' → Q 0 μ') : cwi Γ M_X3_mend [aR 3 0, aR 4 1] μ Q := by
  have o6 := hO.2.2.2.2.2.1
  have hn8 := hW.1
  have hV : ∀ c, c < n → ∀ i, V c i < 256 := fun c hc => (hW.2 c hc).1
  refine u_X3_mend ?_
  rw [hF 4 (by decide) (by decide)]
  refine s_min ?_
  have e4 : smn (nI (fm 4)) 8 = nI (fm 4) := by
    unfold smn
    by_cases z : fm 4 = 8
    · rw [z]; rfl
    · exact if_neg (nI_nlt (b := fm 4) (a := 8) (by omega) (by decide))
  rw [e4]
  refine c_gatherKinds hO hn hn8 hV hC (fun hP μ1 K1 F1 => ⟨fun _ => ?_, fun z => absurd z (by decide)⟩) (fun hP μ1 F1 => ⟨fun z => absurd rfl z, fun _ => k0 (fun ⟨dat, hu⟩ => hP hu.1) μ1 ⟨Fr_mono F1 (by decide), fun q _ => by rw [F1 24 (by decide)]⟩⟩)
  have hPD : PKq (KK n V) (fm 4) ≤ 4096 := Nat.le_trans (PKq_mono (K := KK n V) (a := fm 4) 2 (fun s' _ => kK_pos hn)) hP
  have lp : ∀ t s (μ2 : mH), s + t = fm 4 → Fr [29, 30, 31] μ μ2 → KSC n V (fm 4 + 2) μ2 → (∀ s', s' < s → μ2 31 0 s' = 0) → aw Γ M_X3_mend 25 [aR 3 0, aR 4 1, aI (nI (fm 4)), aI (nI (PKq (KK n V) s)), aI (nI s), aX, aX, aX] [] μ2 (rI Q) := by
    intro t
    induction t with
    | zero =>
      intro s μ2 hs F2 K2 h31
      obtain rfl : s = fm 4 := by omega
      refine u_X3_mend_25 (br_t (nI_le (Nat.le_refl _) (by omega)) ?_)
      rw [Fr_at F2 (by decide), Fr_at F2 (by decide), h5, h6]
      refine s_sumHead (f := hdv fm T S (dtd n V (fun _ => 0))) hO (FMC_fr hF F2 (by decide)) (by unfold hdv; simp; split <;> assumption) (by unfold hdv; simp; split <;> assumption) rfl rfl ?_
      refine mend_lp hO hT hS hn8 hV (μ0 := sto μ2 32 0 0 _) (fun s' a b => by rw [sto_K (by decide), Fr_at F2 (by decide)]; exact hF s' a b) (fun s' hs' => ⟨by rw [sto_K (by decide)]; exact (K2 s' hs').1, fun j hj => by rw [sto_K (by decide)]; exact (K2 s' hs').2 j hj⟩) hP hPD (fun dat μ3 hu hd J3 => k1 dat μ3 hu hd ⟨Fr_tr (Fr_st2 (Fr_mono F2 (by decide)) (by decide)) J3.1, fun q y => ?_⟩) (fun hno μ3 J3 => k0 hno μ3 ⟨Fr_tr (Fr_st2 (Fr_mono F2 (by decide)) (by decide)) J3.1, fun q y => ?_⟩) (PKq (KK n V) (fm 4)) 0 0 0 (fun _ => 0) _ (Nat.zero_add _) ⟨Fr_rf, fun _ _ => rfl⟩ (fun s' hs' => ⟨by rw [sto_K (by decide)]; exact (K2 s' hs').1, fun j hj => by rw [sto_K (by decide)]; exact (K2 s' hs').2 j hj⟩) (fun _ => ⟨fun s' hs' => ⟨kK_pos hn, by rw [sto_K (by decide)]; exact h31 s' hs'⟩, rkq_zero _ _, Nat.zero_le _, fun s' hs' => ?_⟩) (Or.inl ⟨rfl, fun d _ h => absurd h (by omega)⟩)
      · rw [J3.2 q y, ← F2 24 (by decide)]; funext s'; exact sto_K (by decide)
      · rw [J3.2 q y, ← F2 24 (by decide)]; funext s'; exact sto_K (by decide)
      · obtain rfl : s' = 0 := by omega
        exact sto_eq
    | succ t ih =>
      intro s μ2 hs F2 K2 h31
      refine u_X3_mend_25 (br_f (nI_ge (by omega) (by omega)) ?_)
      rw [tn_nI (by omega), (K2 s (by omega)).1, pk_mul, nI_1]
      refine ⟨vp_in_nI (by omega) (by decide), vp_in_nI (by omega) (by decide), ih (s + 1) _ (by omega) (Fr_st2 F2 (by decide)) (fun s' hs' => ⟨by rw [sto_K (by decide)]; exact (K2 s' hs').1, fun j hj => by rw [sto_K (by decide)]; exact (K2 s' hs').2 j hj⟩) (fun s' hs' => ?_)⟩
      by_cases y : s' = s
      · subst y; exact sto_eq
      · rw [sto_s y]; exact h31 s' (by omega)
  exact lp (fm 4) 0 μ1 (Nat.zero_add _) (Fr_mono F1 (by decide)) K1 (fun s' hs' => absurd hs' (by omega))
end PCN
