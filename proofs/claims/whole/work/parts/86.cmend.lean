/-! mending, by the class -/
def KK (n : Nat) (V : Nat → Nat → Nat) (s : Nat) : Nat := kK n V (2 + s)
def dtd (n : Nat) (V : Nat → Nat → Nat) (d : Nat → Nat) (i : Nat) : Nat := kv n V (2 + i) (d i)
def KSC (n : Nat) (V : Nat → Nat → Nat) (t : Nat) (μ : mH) : Prop := ∀ s, s < t → μ 30 0 s = nI (KK n V s) ∧ ∀ j, j < KK n V s → μ 29 s j = nI (kv n V (2 + s) j)
theorem kD_has {n : Nat} {V : Nat → Nat → Nat} {i c : Nat} (hc : c < n) : (∃ j, j < fb_ct (kD V i) c ∧ kv n V i j = V c i) ↔ kD V i c = false := by
  constructor
  · rintro ⟨j, h1, h2⟩
    obtain ⟨c', g1, g2, g3, g4⟩ := kv_in (n := n) (V := V) (i := i) (j := j) (Nat.lt_of_lt_of_le h1 (fb_ct_mono _ (by omega)))
    have : c' < c := by
      by_cases z : c' < c
      · exact z
      · have := fb_ct_mono (kD V i) (show c ≤ c' by omega)
        omega
    exact kD_f.mpr ⟨c', this, by rw [← g4, h2]⟩
  · intro h
    obtain ⟨c', g1, g2⟩ := kD_f.mp h
    obtain ⟨c0, h1, h2, h3⟩ := fb_first (p := fun c' => V c' i = V c i) (n := c) ⟨c', g1, g2⟩
    have hD : kD V i c0 = true := by
      by_cases q : kD V i c0 = true
      · exact q
      · obtain ⟨c'', a1, a2⟩ := kD_f.mp (by simpa using q : kD V i c0 = false)
        exact absurd (a2.trans h2) (h3 c'' a1)
    exact ⟨fb_ct (kD V i) c0, ct_in h1 hD, (kv_at (by omega) hD).trans h2⟩
theorem kv_ex {n : Nat} {V : Nat → Nat → Nat} {i y : Nat} : (∃ j, j < kK n V i ∧ kv n V i j = y) ↔ ∃ c, c < n ∧ V c i = y := by
  constructor
  · rintro ⟨j, h1, h2⟩
    obtain ⟨c', g1, g2, g3, g4⟩ := kv_in h1
    exact ⟨c', g1, by rw [← g4, h2]⟩
  · rintro ⟨c, h1, h2⟩
    obtain ⟨j, g1, g2⟩ := kv_sur (V := V) (i := i) h1
    exact ⟨j, g1, g2.trans h2⟩
theorem dtd_in {n : Nat} {V : Nat → Nat → Nat} {d : Nat → Nat} {i : Nat} (h : d i < KK n V i) : ∃ c, c < n ∧ dtd n V d i = V c (2 + i) := by
  obtain ⟨c, g1, _, _, g4⟩ := kv_in (n := n) (V := V) (i := 2 + i) (j := d i) h
  exact ⟨c, g1, g4⟩
/-- any data of the kinds has its digits -/
theorem dig_of {n : Nat} {V : Nat → Nat → Nat} {dat : Nat → Nat} : ∀ (z : Nat), (∀ i, i < z → ∃ c, c < n ∧ dat i = V c (2 + i)) → ∃ d : Nat → Nat, ∀ i, i < z → d i < KK n V i ∧ dtd n V d i = dat i
  | 0, _ => ⟨fun _ => 0, fun i hi => absurd hi (by omega)⟩
  | z + 1, h => by
    obtain ⟨d, hd⟩ := dig_of z (fun i hi => h i (by omega))
    obtain ⟨c, h1, h2⟩ := h z (by omega)
    obtain ⟨j, g1, g2⟩ := kv_sur (V := V) (i := 2 + z) h1
    refine ⟨fun i => if i = z then j else d i, fun i hi => ?_⟩
    by_cases e : i = z
    · subst e
      unfold dtd
      simp only [if_true]
      exact ⟨g1, by rw [g2, h2]⟩
    · unfold dtd
      simp only [if_neg e]
      exact hd i (by omega)
section PCM
variable {Γ : cx_T}
theorem s_hasKind {s k y : Nat} {w : Nat → Nat} {μ : mH} {Q : Int32 → mH → Prop} (hs : s < 10) (hk : k ≤ 80) (h30 : μ 30 0 s = nI k) (h29 : ∀ j, j < k → μ 29 s j = nI (w j)) (hw : ∀ j, j < k → w j < 2 ^ 31) (hy : y < 2 ^ 31) (k1 : (∃ j, j < k ∧ w j = y) → Q 1 μ) (k0 : ¬ (∃ j, j < k ∧ w j = y) → Q 0 μ) : cwi Γ M_X3_hasKind [aR 3 0, aI (nI s), aI (nI y)] μ Q := by
  have lp : ∀ d i, i + d = k → (∀ j, j < i → w j ≠ y) → aw Γ M_X3_hasKind 2 [aR 3 0, aI (nI s), aI (nI y), aI (nI i)] [] μ (rI Q) := by
    intro d
    induction d with
    | zero =>
      intro i hi hn
      obtain rfl : i = k := by omega
      refine u_X3_hasKind_2 ⟨vp_in_nI hs (by decide), ?_⟩
      rw [tn_nI (by omega), h30]
      exact br_t (nI_le (Nat.le_refl _) (by omega)) (k0 (fun ⟨j, a, b⟩ => hn j a b))
    | succ d ih =>
      intro i hi hn
      refine u_X3_hasKind_2 ⟨vp_in_nI hs (by decide), ?_⟩
      rw [tn_nI (by omega), h30, tn_nI (by omega), h29 i (by omega), nI_1]
      have hwi := hw i (by omega)
      refine br_f (nI_ge (by omega) (by omega)) ⟨vp_in_nI hs (by decide), vp_in_nI (by omega) (by decide), fun z => ih (i + 1) (by omega) (fun j hj => ?_), fun z => k1 ⟨i, by omega, (nI_eq hwi hy).mp z⟩⟩
      by_cases e : j = i
      · subst e; exact fun q => z (by rw [q])
      · exact hn j (by omega)
  exact u_X3_hasKind (lp k 0 (Nat.zero_add _) (fun j hj => absurd hj (by omega)))
theorem s_byteOrSum {q s : Nat} {fm v : Nat → Nat} {μ : mH} {Q : Int32 → mH → Prop} (hO : OKF fm) (hs : s < fm 4 + 2) (hv : ∀ i, v i < 256) (hd : ∀ i, i < fm 4 → μ 24 q i = nI (v (2 + i))) (h3 : μ 7 q 3 = nI (256 * v (2 + fm 4) + v (3 + fm 4))) (kk : Q (nI (v (2 + s))) μ) : cwi Γ M_X7_byteOrSum [aR 7 q, aI (nI s), aI (nI (fm 4))] μ Q := by
  have o6 := hO.2.2.2.2.2.1
  have v1 := hv (2 + fm 4)
  have v2 := hv (3 + fm 4)
  have e1 : nI (256 * v (2 + fm 4) + v (3 + fm 4)) &&& (255 : Int32) = nI (v (3 + fm 4)) := by
    rw [pk_andN (by omega) 8 (by decide)]
    congr 1
    omega
  have e2 : nI (256 * v (2 + fm 4) + v (3 + fm 4)) >>> ((8 : Int32) &&& 31) = nI (v (2 + fm 4)) := by
    rw [pk_shrN (by omega) _ 8 (by decide)]
    congr 1
    omega
  have rest : fm 4 ≤ s → (¬ nI s = nI (fm 4) → Q (nI (v (3 + fm 4))) μ) ∧ (nI s = nI (fm 4) → Q (nI (v (2 + fm 4))) μ) := fun h => by
    refine ⟨fun z => ?_, fun z => ?_⟩
    · have : s ≠ fm 4 := fun y => z (by rw [y])
      rw [show 2 + s = 3 + fm 4 by omega] at kk
      exact kk
    · have := (nI_eq (by omega) (by omega)).mp z
      rw [this] at kk
      exact kk
  refine u_X7_byteOrSum ?_
  rw [h3, e1, e2]
  refine ⟨fun z => absurd z (nI_pos (by omega)), fun _ => pk_le (fm 4) s (fun c => rest c) (fun c => br_f (nI_ge (b := 8) (by omega) (by decide)) ⟨vp_in_nI (by omega) (by decide), ?_⟩)⟩
  rw [tn_nI (by omega), hd s c]
  exact kk
theorem c_gatherKinds {fm : Nat → Nat} {n : Nat} {V : Nat → Nat → Nat} {r : Nat → Bool} {μ : mH} {Q : Int32 → mH → Prop} (hO : OKF fm) (hn : 0 < n) (hn8 : n ≤ 80) (hV : ∀ c, c < n → ∀ i, V c i < 256) (hC : CPC fm n V r μ)
    (k1 : PKq (KK n V) (fm 4 + 2) ≤ 4096 → ∀ μ', KSC n V (fm 4 + 2) μ' → Fr [29, 30] μ μ' → Q 1 μ') (k0 : ¬ PKq (KK n V) (fm 4 + 2) ≤ 4096 → ∀ μ', Fr [29, 30] μ μ' → Q 0 μ') : cwi Γ M_X3_gatherKinds [aR 3 0, aI (nI (fm 4))] μ Q := by
  obtain ⟨a0, a1, a2⟩ := hC
  have o6 := hO.2.2.2.2.2.1
  have lp : ∀ d s (μ1 : mH), s + d = fm 4 + 2 → PKq (KK n V) s ≤ 4096 → KSC n V s μ1 → Fr [29, 30] μ μ1 → aw Γ M_X3_gatherKinds 4 [aR 3 0, aI (nI (fm 4)), aI (nI (PKq (KK n V) s)), aI (nI s), aX, aX] [] μ1 (rI Q) := by
    intro d
    induction d with
    | zero =>
      intro s μ1 hs hP hK F1
      obtain rfl : s = fm 4 + 2 := by omega
      refine u_X3_gatherKinds_4 ?_
      rw [show nI (fm 4) + (2 : Int32) = nI (fm 4 + 2) from nI_add _ 2]
      exact br_t (nI_le (Nat.le_refl _) (by omega)) (k1 hP μ1 hK F1)
    | succ d ih =>
      intro s μ1 hs hP hK F1
      refine u_X3_gatherKinds_4 ?_
      rw [show nI (fm 4) + (2 : Int32) = nI (fm 4 + 2) from nI_add _ 2, tn_nI (by omega)]
      refine br_f (nI_ge (by omega) (by omega)) ⟨vp_in_nI (by omega) (by decide), ?_⟩
      have lp2 : ∀ d2 c (μ2 : mH), c + d2 = n → KSC n V s μ2 → Fr [29, 30] μ μ2 → μ2 30 0 s = nI (fb_ct (kD V (2 + s)) c) → (∀ j, j < fb_ct (kD V (2 + s)) c → μ2 29 s j = nI (kv n V (2 + s) j)) → aw Γ M_X3_gatherKinds 21 [aR 3 0, aI (nI (fm 4)), aI (nI (PKq (KK n V) s)), aI (nI s), aI (nI c), aX] [] μ2 (rI Q) := by
        intro d2
        induction d2 with
        | zero =>
          intro c μ2 hc hK2 F2 b0 bj
          obtain rfl : c = n := by omega
          have hkl := kK_le c V (2 + s)
          have hkn : KK c V s ≤ 80 := by unfold KK; omega
          have eP : PKq (KK c V) (s + 1) = PKq (KK c V) s * KK c V s := rfl
          have hb : PKq (KK c V) s * KK c V s ≤ 4096 * 80 := Nat.mul_le_mul hP hkn
          refine u_X3_gatherKinds_21 ?_
          rw [Fr_at F2 (by decide), a0, tn_nI (by omega), b0, pk_mul, nI_1]
          refine br_t (nI_le (Nat.le_refl _) (by omega)) ⟨vp_in_nI (by omega) (by decide), pk_le (PKq (KK c V) (s + 1)) 4096 (fun q => ih (s + 1) μ2 (by omega) q (fun s' hs' => ?_) F2) (fun q => k0 (fun z => ?_) μ2 F2)⟩
          · by_cases e : s' = s
            · subst e; exact ⟨b0, bj⟩
            · exact hK2 s' (by omega)
          · have := PKq_mono (K := KK c V) (a := s + 1) (fm 4 + 2 - (s + 1)) (fun s' _ => kK_pos hn)
            rw [show s + 1 + (fm 4 + 2 - (s + 1)) = fm 4 + 2 by omega] at this
            omega
        | succ d2 ih2 =>
          intro c μ2 hc hK2 F2 b0 bj
          have hle := fb_ct_le (kD V (2 + s)) c
          obtain ⟨q, q1, q2, q3, q4, q5⟩ := a2 c (by omega)
          have hVc := hV c (by omega)
          refine u_X3_gatherKinds_21 ?_
          rw [Fr_at F2 (by decide), a0, tn_nI (show c < 2 ^ 31 by omega), Fr_at F2 (show 26 ∉ [29, 30] by decide)]
          refine br_f (nI_ge (by omega) (by omega)) ⟨vp_in_nI (by omega) (by decide), q, q2, by omega, ?_⟩
          refine s_byteOrSum hO (by omega) hVc (fun i hi => by rw [Fr_at F2 (by decide)]; exact q3 i hi) (by rw [Fr_at F2 (by decide)]; exact q4) ?_
          have hlt : ∀ j, j < fb_ct (kD V (2 + s)) c → kv n V (2 + s) j < 2 ^ 31 := fun j hj => by
            obtain ⟨c', g1, _, _, g4⟩ := kv_in (n := n) (V := V) (i := 2 + s) (j := j) (Nat.lt_of_lt_of_le hj (fb_ct_mono _ (by omega)))
            have := hV c' g1 (2 + s)
            rw [g4]
            omega
          have es := fb_ct_succ (kD V (2 + s)) c
          rw [nI_1 c, tn_nI (show s < 2 ^ 31 by omega)]
          refine s_hasKind (by omega) (by omega) b0 bj hlt (by have := hVc (2 + s); omega) (fun h => ⟨fun _ => ?_, fun z => absurd z (by decide)⟩) (fun h => ⟨fun z => absurd rfl z, fun _ => ?_⟩)
          · have c0 := (kD_has (show c < n by omega)).mp h
            rw [c0] at es
            exact ih2 (c + 1) μ2 (by omega) hK2 F2 (by rw [es]; exact b0) (by rw [es]; exact bj)
          · have c1 : kD V (2 + s) c = true := by
              by_cases z : kD V (2 + s) c = true
              · exact z
              · exact absurd ((kD_has (show c < n by omega)).mpr (by simpa using z)) h
            rw [c1] at es
            rw [b0, nI_1 (fb_ct (kD V (2 + s)) c), tn_nI (show fb_ct (kD V (2 + s)) c < 2 ^ 31 by omega)]
            refine ⟨vp_in_nI (by omega) (by decide), vp_in_nI (by omega) (by decide), vp_in_nI (by omega) (by decide), vp_in_nI (by omega) (by decide), vp_in_nI (by omega) (by decide), ih2 (c + 1) _ (by omega) (fun s' hs' => ?_) (Fr_st2 (Fr_st2 F2 (by decide)) (by decide)) (by rw [sto_eq, es]; rfl) (fun j hj => ?_)⟩
            · obtain ⟨u1, u2⟩ := hK2 s' hs'
              refine ⟨by rw [sto_s (by omega), sto_K (by decide)]; exact u1, fun j hj => by rw [sto_K (by decide), sto_i (by omega)]; exact u2 j hj⟩
            · rw [sto_K (by decide)]
              rw [es] at hj
              by_cases e : j = fb_ct (kD V (2 + s)) c
              · subst e
                rw [sto_eq, kv_at (by omega) c1]
              · rw [sto_s e]
                exact bj j (by simp at hj; omega)
      exact lp2 n 0 _ (Nat.zero_add _) (fun s' hs' => ⟨by rw [sto_s (by omega)]; exact (hK s' hs').1, fun j hj => by rw [sto_K (by decide)]; exact (hK s' hs').2 j hj⟩) (Fr_st2 F1 (by decide)) sto_eq (fun j hj => absurd hj (by show ¬ j < 0; omega))
  exact u_X3_gatherKinds (lp _ 0 μ (Nat.zero_add _) (by show 1 ≤ 4096; decide) (fun s hs => absurd hs (by omega)) Fr_rf)
theorem neg1_add (a : Int32) : a + -1 = a - 1 := (Int32.sub_eq_add_neg (a := a) (b := 1)).symm
theorem c_chooseAnother {z : Nat} {K d : Nat → Nat} {μ : mH} {Q : Int32 → mH → Prop} (hz : z ≤ 8) (hK : ∀ s, s < z → K s ≤ 80 ∧ d s < K s ∧ μ 30 0 s = nI (K s) ∧ μ 31 0 s = nI (d s))
    (k1 : ∀ (j : Nat) (d' : Nat → Nat) (μ' : mH), j < z → (∀ s, s < j → d' s = d s) → d' j = d j + 1 → d' j < K j → (∀ s, j < s → s < z → d s + 1 = K s ∧ d' s = 0) → (∀ s, s < z → μ' 31 0 s = nI (d' s)) → Fr [31] μ μ' → Q (nI j) μ')
    (k0 : (∀ s, s < z → d s + 1 = K s) → ∀ μ', Fr [31] μ μ' → Q 0 μ') : cwi Γ M_X3_chooseAnother [aR 3 0, aI (nI z)] μ Q := by
  have lp : ∀ t (μ1 : mH), t ≤ z → Fr [31] μ μ1 → (∀ s, s < t → μ1 31 0 s = nI (d s)) → (∀ s, t ≤ s → s < z → d s + 1 = K s ∧ μ1 31 0 s = 0) → aw Γ M_X3_chooseAnother 4 [aR 3 0, aX, aI (nI t - 1)] [] μ1 (rI Q) := by
    intro t
    induction t with
    | zero =>
      intro μ1 ht F1 hl hr
      exact u_X3_chooseAnother_4 (br_t (by decide) (k0 (fun s hs => (hr s (by omega) hs).1) μ1 F1))
    | succ t ih =>
      intro μ1 ht F1 hl hr
      obtain ⟨g1, g2, g3, g4⟩ := hK t (by omega)
      refine u_X3_chooseAnother_4 ?_
      rw [nI_pred, tn_nI (by omega), Fr_at F1 (show 30 ∉ [31] by decide), g3, hl t (by omega), nI_1, neg1_add]
      refine br_f (nI_pos (by omega)) ⟨vp_in_nI (by omega) (by decide), vp_in_nI (by omega) (by decide), vp_in_nI (by omega) (by decide), vp_in_nI (by omega) (by decide), pk_le (K t) (d t + 1) (fun c => ⟨vp_in_nI (by omega) (by decide), ?_⟩) (fun c => ?_)⟩
      · refine ih _ (by omega) (Fr_st2 (Fr_st2 F1 (by decide)) (by decide)) (fun s hs => by rw [sto_s (by omega), sto_s (by omega)]; exact hl s (by omega)) (fun s h1 h2 => ?_)
        by_cases e : s = t
        · subst e; exact ⟨by omega, sto_eq⟩
        · rw [sto_s e, sto_s e]; exact hr s (by omega) h2
      · refine k1 t (fun s => if s < t then d s else if s = t then d t + 1 else 0) _ (by omega) (fun s hs => if_pos hs) (by simp) (by simp; omega) (fun s h1 h2 => ⟨(hr s (by omega) h2).1, by simp [show ¬ s < t by omega, show ¬ s = t by omega]⟩) (fun s hs => ?_) (Fr_st2 F1 (by decide))
        by_cases e : s = t
        · subst e; rw [sto_eq]; simp
        · rw [sto_s e]
          by_cases h : s < t
          · rw [hl s (by omega)]; simp [h]
          · rw [(hr s (by omega) hs).2]; simp [h, e]; rfl
  exact u_X3_chooseAnother (lp z μ (Nat.le_refl _) Fr_rf (fun s hs => (hK s hs).2.2.2) (fun s h1 h2 => absurd h1 (by omega)))
end PCM
