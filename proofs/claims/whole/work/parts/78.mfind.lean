/-! SECTORS, by the reference -/
def SEM (fm b : Nat → Nat) (p k : Nat) (μ : mH) : Prop := μ 51 0 k = nI p ∧ (∀ i, i < 4 + fm 4 → μ 52 0 (12 * k + i) = nI (sb b p i)) ∧ μ 53 0 k = nI (fb_ct (slp fm b p) (8 * (4 + fm 4)))
def FDM (fm b : Nat → Nat) (nb : Nat) (μ : mH) : Prop := μ 12 0 21 = nI (FN fm b nb) ∧ ∀ k, k < FN fm b nb → SEM fm b (FP fm b nb k) k μ
theorem BM_fr {n : Nat} {b : Nat → Nat} {l : List Nat} {μ μ' : mH} (h : BM n b μ) (hF : Fr l μ μ') (h1 : μ' 12 0 20 = μ 12 0 20) (h2 : 50 ∉ l) : BM n b μ' := ⟨by rw [h1]; exact h.1, fun j hj => by rw [Fr_at hF h2]; exact h.2 j hj⟩
theorem FMM_fr {fm : Nat → Nat} {l : List Nat} {μ μ' : mH} (h : FMM fm μ) (hF : Fr l μ μ') (h1 : 42 ∉ l) : FMM fm μ' := by
  unfold FMM
  rw [hF 42 h1]
  exact h
theorem mv_div {b : Nat → Nat} (hb : ∀ j, b j ≤ 1) (i k : Nat) : ∀ d, mv b i (k + d) / 2 ^ d = mv b i k
  | 0 => by show mv b i k / 1 = _; omega
  | d + 1 => by
    have h := mv_div hb i k d
    have h2 := hb (i + (k + d))
    show (2 * mv b i (k + d) + b (i + (k + d))) / 2 ^ (d + 1) = _
    rw [Nat.pow_succ, Nat.mul_comm (2 ^ d) 2, ← Nat.div_div_eq_div_mul, show (2 * mv b i (k + d) + b (i + (k + d))) / 2 = mv b i (k + d) by omega]
    exact h
theorem bit_half (M k : Nat) : M / 2 ^ k = 2 * (M / 2 ^ (k + 1)) + (if M.testBit k then 1 else 0) := by
  have e : M / 2 ^ (k + 1) = M / 2 ^ k / 2 := by rw [Nat.pow_succ, Nat.div_div_eq_div_mul]
  rw [e, Nat.testBit_eq_decide_div_mod_eq]
  by_cases h : M / 2 ^ k % 2 = 1
  · simp [h]; omega
  · simp [h]; omega
theorem qi_up (b : Nat → Nat) (M W : Nat) (hW : 1 ≤ W) (j : Nat) : qi b M W (j + 1) ≤ qi b M W j + W := by
  have e : qi b M W (j + 1) = if mkq b M (qi b M W j) then qi b M W j + W else qi b M W j + 1 := rfl
  rw [e]
  split <;> omega
section PMF
variable {Γ : cx_T}
theorem m_isMark {i nb : Nat} {fm b : Nat → Nat} {μ : mH} {Q : Int32 → mH → Prop} (hO : OKF fm) (hF : FMM fm μ) (hB : BM nb b μ) (hb : ∀ j, b j ≤ 1) (hn : nb ≤ 2560) (hi : i + 16 ≤ nb) (k1 : mkq b (fm 3) i = true → Q 1 μ) (k0 : mkq b (fm 3) i = false → Q 0 μ) : cwi Γ M_X12_isMark [aR 12 0, aI (nI i)] μ Q := by
  obtain ⟨o1, o2, o3, o4, o5, o6, o7, o8, o9, o10⟩ := hO
  obtain ⟨f0, f1, f2, f3, f4, f5, f6, f7, f8⟩ := hF
  refine u_X12_isMark ?_
  rw [f2, f3, show (256 : Int32) * nI (fm 3 / 256) = nI (256 * (fm 3 / 256)) from pk_mul 256 _, nI_add, show 256 * (fm 3 / 256) + fm 3 % 256 = fm 3 by omega]
  have lp : ∀ d k, k + d = 16 → mv b i k = fm 3 / 2 ^ d → aw Γ M_X12_isMark 20 [aR 12 0, aI (nI i), aI (nI (fm 3)), aI (nI k)] [] μ (rI Q) := by
    intro d
    induction d with
    | zero =>
      intro k hk hm
      obtain rfl : k = 16 := by omega
      refine u_X12_isMark_20 (br_t (by decide) (k1 ?_))
      simp [mkq]
      rw [hm]
      omega
    | succ d ih =>
      intro k hk hm
      have hbk := hb (i + k)
      have hh := bit_half (fm 3) d
      have e1 : mv b i (k + 1) = 2 * mv b i k + b (i + k) := rfl
      have no : b (i + k) ≠ (if (fm 3).testBit d then 1 else 0) → Q 0 μ := fun z => k0 (by
        simp [mkq]
        intro y
        have := mv_div hb i (k + 1) d
        rw [show k + 1 + d = 16 by omega, y] at this
        omega)
      have yes : b (i + k) = (if (fm 3).testBit d then 1 else 0) → aw Γ M_X12_isMark 20 [aR 12 0, aI (nI i), aI (nI (fm 3)), aI (nI (k + 1))] [] μ (rI Q) := fun z => ih (k + 1) (by omega) (by omega)
      refine u_X12_isMark_20 (br_f (nI_ge (b := 16) (by omega) (by decide)) ?_)
      rw [nI_add, tn_nI (by omega), hB.2 _ (by omega), nI_1]
      refine ⟨vp_in_nI (by omega) (by decide), u_X12_bitOf ?_⟩
      rw [show (15 : Int32) - nI k = nI (15 - k) from pk_sub (a := 15) (by omega), show 15 - k = d by omega, mb_t (by omega) (by omega)]
      cases e : (fm 3).testBit d
      · rw [e] at yes no
        refine ⟨fun _ => ⟨fun z => yes ((nI_eq (b := 0) (by omega) (by decide)).mp z), fun z => no (fun y => z (by rw [y]; rfl))⟩, fun z => absurd z (by decide)⟩
      · rw [e] at yes no
        refine ⟨fun z => absurd rfl z, fun _ => ⟨fun z => yes ((nI_eq (b := 1) (by omega) (by decide)).mp z), fun z => no (fun y => z (by rw [y]; rfl))⟩⟩
  exact lp 16 0 rfl (by show 0 = fm 3 / 65536; omega)
theorem m_takes {p n nb : Nat} {fm b : Nat → Nat} {μ : mH} {Q : mH → Prop} (hO : OKF fm) (hF : FMM fm μ) (hB : BM nb b μ) (hb : ∀ j, b j ≤ 1) (hn : nb ≤ 2560) (hp : p + 16 * (4 + fm 4) ≤ nb) (hn8 : n < 8) (h21 : μ 12 0 21 = nI n)
    (kk : ∀ μ', SEM fm b p n μ' → μ' 12 0 21 = nI (n + 1) → Fr [12, 51, 52, 53] μ μ' → (∀ s, s ≠ 21 → μ' 12 0 s = μ 12 0 s) → (∀ k, k < n → μ' 51 0 k = μ 51 0 k ∧ μ' 53 0 k = μ 53 0 k) → (∀ j, j < 12 * n → μ' 52 0 j = μ 52 0 j) → Q μ') : cwv Γ M_X12_takes [aR 12 0, aI (nI p)] μ Q := by
  obtain ⟨o1, o2, o3, o4, o5, o6, o7, o8, o9, o10⟩ := hO
  have hF0 := hF
  obtain ⟨f0, f1, f2, f3, f4, f5, f6, f7, f8⟩ := hF
  have hpv : ∀ k, pvb fm b p k ≤ 1 := fun k => by
    unfold pvb
    split
    · omega
    · exact hb _
  have lp : ∀ d g (μ1 : mH), g + d = 4 + fm 4 → Fr [51, 52, 53] μ μ1 → μ1 51 0 n = nI p → μ1 53 0 n = nI (fb_ct (slp fm b p) (8 * g)) → (∀ i, i < g → μ1 52 0 (12 * n + i) = nI (sb b p i)) → (∀ k, k < n → μ1 51 0 k = μ 51 0 k ∧ μ1 53 0 k = μ 53 0 k) → (∀ j, j < 12 * n → μ1 52 0 j = μ 52 0 j) → aw Γ M_X12_takes 33 [aR 12 0, aI (nI p), aI (nI (pvb fm b p (8 * g))), aI (nI g), aX, aX, aX, aX] [] μ1 (rV Q) := by
    intro d
    induction d with
    | zero =>
      intro g μ1 hg Fa h51 h53 h52 hl hl2
      obtain rfl : g = 4 + fm 4 := by omega
      refine u_X12_takes_33 (u_X12_many ?_)
      rw [Fr_at Fa (by decide), f4, show (4 : Int32) + nI (fm 4) = nI (4 + fm 4) from nI_add 4 _, Fr_at Fa (show 12 ∉ [51, 52, 53] by decide), h21, nI_1]
      refine br_t (nI_le (Nat.le_refl _) (by omega)) (kk _ ⟨by rw [sto_K (by decide)]; exact h51, fun i hi => by rw [sto_K (by decide)]; exact h52 i hi, by rw [sto_K (by decide)]; exact h53⟩ sto_eq (Fr_st2 (Fr_mono Fa (by decide)) (by decide)) (fun s z => by rw [sto_s z, Fr_at Fa (by decide)]) (fun k hk => by rw [sto_K (by decide), sto_K (by decide)]; exact hl k hk) (fun j hj => by rw [sto_K (by decide)]; exact hl2 j hj))
    | succ d ih =>
      intro g μ1 hg Fa h51 h53 h52 hl hl2
      refine u_X12_takes_33 (u_X12_many ?_)
      rw [Fr_at Fa (by decide), f4, show (4 : Int32) + nI (fm 4) = nI (4 + fm 4) from nI_add 4 _]
      refine br_f (nI_ge (by omega) (by omega)) ?_
      have lp2 : ∀ d2 k (μ2 : mH), k + d2 = 8 → Fr [51, 52, 53] μ μ2 → μ2 51 0 n = nI p → μ2 53 0 n = nI (fb_ct (slp fm b p) (8 * g + k)) → (∀ i, i < g → μ2 52 0 (12 * n + i) = nI (sb b p i)) → (∀ k, k < n → μ2 51 0 k = μ 51 0 k ∧ μ2 53 0 k = μ 53 0 k) → (∀ j, j < 12 * n → μ2 52 0 j = μ 52 0 j) → aw Γ M_X12_takes 47 [aR 12 0, aI (nI p), aI (nI (pvb fm b p (8 * g + k))), aI (nI g), aI (nI (bv b (p + 16 * g) k)), aI (nI k), aX, aX] [] μ2 (rV Q) := by
        intro d2
        induction d2 with
        | zero =>
          intro k μ2 hk Fb g51 g53 g52 gl gl2
          obtain rfl : k = 8 := by omega
          refine u_X12_takes_47 (br_t (by decide) ?_)
          rw [Fr_at Fb (by decide), h21, show (12 : Int32) * nI n = nI (12 * n) from pk_mul 12 _, nI_add, tn_nI (by omega), nI_1]
          refine ⟨vp_in_nI (by omega) (by decide), ?_⟩
          have := ih (g + 1) (sto μ2 52 0 (12 * n + g) (nI (bv b (p + 16 * g) 8))) (by omega) (Fr_st2 Fb (by decide)) (by rw [sto_K (by decide)]; exact g51) (by rw [sto_K (by decide)]; exact g53) (fun i hi => by
            by_cases z : i = g
            · subst z; exact sto_eq
            · rw [sto_s (by omega)]; exact g52 i (by omega)) (fun k hk => by rw [sto_K (by decide), sto_K (by decide)]; exact gl k hk) (fun j hj => by rw [sto_s (by omega)]; exact gl2 j hj)
          exact this
        | succ d2 ih2 =>
          intro k μ2 hk Fb g51 g53 g52 gl gl2
          have hbv := bv_lt hb (p + 16 * g) k
          have hbv2 : 2 ^ k ≤ 2 ^ 8 := Nat.pow_le_pow_right (by decide) (by omega)
          have q1 := hb (p + 2 * (8 * g + k))
          have q2 := hb (p + 2 * (8 * g + k) + 1)
          have q3 := hpv (8 * g + k)
          have B2 : BM nb b μ2 := BM_fr hB Fb (Fr_at Fb (by decide) _ _) (by decide)
          have e1 : nI p + (16 : Int32) * nI g + (2 : Int32) * nI k = nI (p + 2 * (8 * g + k)) := by
            rw [show (16 : Int32) = nI 16 from rfl, show (2 : Int32) = nI 2 from rfl, pk_mul, pk_mul, nI_add, nI_add]
            congr 1
            omega
          have go : ∀ (μ3 : mH), Fr [51, 52, 53] μ μ3 → μ3 51 0 n = nI p → μ3 53 0 n = nI (fb_ct (slp fm b p) (8 * g + k) + (if slp fm b p (8 * g + k) then 1 else 0)) → (∀ i, i < g → μ3 52 0 (12 * n + i) = nI (sb b p i)) → (∀ k, k < n → μ3 51 0 k = μ 51 0 k ∧ μ3 53 0 k = μ 53 0 k) → (∀ j, j < 12 * n → μ3 52 0 j = μ 52 0 j) → aw Γ M_X12_takes 47 [aR 12 0, aI (nI p), aI (nI (b (p + 2 * (8 * g + k) + 1))), aI (nI g), aI (nI (2 * bv b (p + 16 * g) k + b (p + 2 * (8 * g + k) + 1))), aI (nI (k + 1)), aX, aX] [] μ3 (rV Q) := by
            intro μ3 Fc j51 j53 j52 jl jl2
            have := ih2 (k + 1) μ3 (by omega) Fc j51 j53 j52 jl jl2
            have ev : bv b (p + 16 * g) (k + 1) = 2 * bv b (p + 16 * g) k + b (p + 2 * (8 * g + k) + 1) := by
              show 2 * bv b (p + 16 * g) k + b (p + 16 * g + 2 * k + 1) = _
              congr 2
              omega
            have ep : pvb fm b p (8 * g + (k + 1)) = b (p + 2 * (8 * g + k) + 1) := by
              unfold pvb
              rw [if_neg (by omega)]
              congr 1
            rw [ev, ep] at this
            exact this
          have st53 : ∀ x, Fr [51, 52, 53] μ (sto μ2 53 0 n x) := fun x => Fr_st2 Fb (by decide)
          have fin : ∀ y0 : Nat, y0 ≤ 1 → y0 = ckd (pvb fm b p (8 * g + k)) (b (p + 2 * (8 * g + k) + 1)) → aw Γ M_X12_takes 134 [aR 12 0, aI (nI p), aX, aI (nI g), aI (nI (bv b (p + 16 * g) k)), aI (nI k), aX, aI (nI (b (p + 2 * (8 * g + k) + 1)))] [aI (nI y0), aI (nI (b (p + 2 * (8 * g + k)))), aI (nI (fb_ct (slp fm b p) (8 * g + k))), aI (nI n), aR 53 0] μ2 (rV Q) := by
            intro y0 hy hye
            refine u_X12_takes_134 ?_
            rw [tn_nI (by omega), show (2 : Int32) * nI (bv b (p + 16 * g) k) = nI (2 * bv b (p + 16 * g) k) from pk_mul 2 _, nI_add, nI_1, nI_1, show nI (fb_ct (slp fm b p) (8 * g + k)) + (0 : Int32) = nI (fb_ct (slp fm b p) (8 * g + k) + 0) from nI_add _ 0]
            refine ⟨fun z => ⟨vp_in_nI hn8 (by decide), go _ (st53 _) (by rw [sto_K (by decide)]; exact g51) ?_ (fun i hi => by rw [sto_K (by decide)]; exact g52 i hi) (fun k hk => by rw [sto_K (by decide), sto_s (by omega)]; exact gl k hk) (fun j hj => by rw [sto_K (by decide)]; exact gl2 j hj)⟩, fun z => ⟨vp_in_nI hn8 (by decide), go _ (st53 _) (by rw [sto_K (by decide)]; exact g51) ?_ (fun i hi => by rw [sto_K (by decide)]; exact g52 i hi) (fun k hk => by rw [sto_K (by decide), sto_s (by omega)]; exact gl k hk) (fun j hj => by rw [sto_K (by decide)]; exact gl2 j hj)⟩⟩
            · have t : slp fm b p (8 * g + k) = true := by
                simp [slp]
                rw [← hye]
                exact fun y => z (by rw [y])
              rw [sto_eq, t]
              rfl
            · have t : slp fm b p (8 * g + k) = false := by
                have z := (nI_eq (by omega) (by omega)).mp z
                simp [slp]
                rw [← hye]
                exact z
              rw [sto_eq, t]
              rfl
          have mid : aw Γ M_X12_takes 106 [aR 12 0, aI (nI p), aI (nI (pvb fm b p (8 * g + k))), aI (nI g), aI (nI (bv b (p + 16 * g) k)), aI (nI k), aI (nI (b (p + 2 * (8 * g + k)))), aX] [aI (nI (b (p + 2 * (8 * g + k) + 1)))] μ2 (rV Q) := by
            refine u_X12_takes_106 ?_
            rw [Fr_at Fb (by decide), h21, tn_nI (by omega), g53]
            unfold ckd at fin
            refine ⟨vp_in_nI hn8 (by decide), fun z => ?_, fun z => ⟨fun y => ?_, fun y => ?_⟩⟩
            · exact fin 0 (by decide) (by rw [if_neg (fun q => z (by rw [q.1]; rfl))])
            · exact fin 0 (by decide) (by rw [if_neg (fun q => y (by rw [q.2]; rfl))])
            · exact fin 1 (by decide) (by rw [if_pos ⟨(nI_eq (b := 0) (by omega) (by decide)).mp z, (nI_eq (b := 0) (by omega) (by decide)).mp y⟩])
          have mid2 : aw Γ M_X12_takes 78 [aR 12 0, aI (nI p), aI (nI (pvb fm b p (8 * g + k))), aI (nI g), aI (nI (bv b (p + 16 * g) k)), aI (nI k), aX, aX] [aI (nI (b (p + 2 * (8 * g + k))))] μ2 (rV Q) := by
            refine u_X12_takes_78 ?_
            rw [e1, nI_1, tn_nI (by omega), B2.2 _ (by omega)]
            refine ⟨vp_in_nI (by omega) (by decide), fun z => ?_, fun z => ?_⟩
            · have z := (nI_eq (b := 0) (by omega) (by decide)).mp z
              rw [z] at mid
              exact mid
            · have z : b (p + 2 * (8 * g + k) + 1) = 1 := by
                have : b (p + 2 * (8 * g + k) + 1) ≠ 0 := fun y => z (by rw [y]; rfl)
                omega
              rw [z] at mid
              exact mid
          refine u_X12_takes_47 (br_f (nI_ge (b := 8) (by omega) (by decide)) ?_)
          rw [e1, tn_nI (by omega), B2.2 _ (by omega)]
          refine ⟨vp_in_nI (by omega) (by decide), fun z => ?_, fun z => ?_⟩
          · have z := (nI_eq (b := 0) (by omega) (by decide)).mp z
            rw [z] at mid2
            exact mid2
          · have z : b (p + 2 * (8 * g + k)) = 1 := by
              have : b (p + 2 * (8 * g + k)) ≠ 0 := fun y => z (by rw [y]; rfl)
              omega
            rw [z] at mid2
            exact mid2
      exact lp2 8 0 μ1 rfl Fa h51 h53 h52 hl hl2
  refine u_X12_takes ?_
  rw [h21, tn_nI (by omega), f3]
  refine ⟨vp_in_nI hn8 (by decide), vp_in_nI hn8 (by decide), u_X12_bitOf ?_⟩
  have e0 : (nI (fm 3 % 256) >>> ((0 : Int32) &&& 31)) &&& 1 = nI (pvb fm b p (8 * 0)) := by
    rw [show (0 : Int32) = nI 0 from rfl, mb_t (by omega) (by decide), Nat.testBit_zero]
    congr 1
    unfold pvb
    rw [if_pos rfl, show fm 3 % 256 % 2 = fm 3 % 2 by omega]
    rcases (show fm 3 % 2 = 0 ∨ fm 3 % 2 = 1 by omega) with e | e <;> rw [e] <;> rfl
  rw [e0]
  exact lp (4 + fm 4) 0 _ (Nat.zero_add _) (Fr_st2 (Fr_sto (by decide)) (by decide)) (by rw [sto_K (by decide), sto_eq]) sto_eq (fun i hi => absurd hi (by omega)) (fun k hk => ⟨by rw [sto_K (by decide), sto_s (by omega)], by rw [sto_s (by omega), sto_K (by decide)]⟩) (fun j hj => by rw [sto_K (by decide), sto_K (by decide)])
theorem m_finds {m P G : Nat} {s fm : Nat → Nat} {x1 : Int32} {μ : mH} {Q : mH → Prop} (hP : 8 ≤ P) (hP2 : P ≤ 60) (hO : OKF fm) (hF : FMM fm μ) (hT : ST x1 m s μ) (kk : ∀ μ', FDM fm (rbt P G s m) (rz P G s m) μ' → Fr [12, 50, 51, 52, 53] μ μ' → (∀ s, s ≠ 20 → s ≠ 21 → μ' 12 0 s = μ 12 0 s) → Q μ') : cwv Γ M_X12_finds [aR 12 0, aI x1, aI (nI P), aI (nI G)] μ Q := by
  have hO0 := hO
  obtain ⟨o1, o2, o3, o4, o5, o6, o7, o8, o9, o10⟩ := hO
  have hz := rz_le P G s m
  have hm := hT.1
  have hb := rbt_le P G s m
  refine u_X12_finds (m_turns hP hP2 hT (fun μ1 B1 F1 s1 => u_X12_many ?_))
  generalize rbt P G s m = b at *
  generalize rz P G s m = nb at *
  have F2 : Fr [12, 50] μ (sto μ1 12 0 21 0) := Fr_st2 F1 (by decide)
  rw [Fr_at F2 (by decide), hF.2.2.2.2.1, show (4 : Int32) + nI (fm 4) = nI (4 + fm 4) from nI_add 4 _, show (16 : Int32) * nI (4 + fm 4) = nI (16 * (4 + fm 4)) from pk_mul 16 _, show (16 : Int32) + nI (16 * (4 + fm 4)) = nI (fW fm) from nI_add 16 _]
  have eW : fW fm = 16 + 16 * (4 + fm 4) := rfl
  have lp : ∀ d j (μ2 : mH), j + d = qe b (fm 3) (fW fm) nb → Fr [12, 50, 51, 52, 53] μ μ2 → (∀ s, s ≠ 20 → s ≠ 21 → μ2 12 0 s = μ 12 0 s) → BM nb b μ2 → μ2 12 0 21 = nI (qk b (fm 3) (fW fm) j) → (∀ k, k < qk b (fm 3) (fW fm) j → SEM fm b (qp b (fm 3) (fW fm) j k) k μ2) → aw Γ M_X12_finds 27 [aR 12 0, aX, aX, aX, aI (nI (qi b (fm 3) (fW fm) j)), aI (nI (fW fm))] [] μ2 (rV Q) := by
    intro d
    induction d with
    | zero =>
      intro j μ2 hj Fa sa B2 h21 hS
      obtain rfl : j = qe b (fm 3) (fW fm) nb := by omega
      have q := kk μ2 ⟨h21, hS⟩ Fa sa
      have st := qe_stop b (fm 3) (fW fm) nb (by omega)
      have k8 := qk_le (b := b) (M := fm 3) (W := fW fm) (nb := nb) _ (Nat.le_refl _)
      simp [qst] at st
      refine u_X12_finds_27 ⟨fun _ => q, fun z => ⟨fun _ => q, fun y => ?_⟩⟩
      exfalso
      rw [B2.1, nI_add] at z
      rw [h21] at y
      rcases st with c | c
      · by_cases hbig : qi b (fm 3) (fW fm) (qe b (fm 3) (fW fm) nb) + fW fm < 2 ^ 31
        · exact z (nI_lt c hbig)
        · cases hq : qe b (fm 3) (fW fm) nb with
          | zero =>
            rw [hq] at hbig
            exact hbig (by show 0 + fW fm < _; omega)
          | succ j' =>
            have g := (qe_go (b := b) (M := fm 3) (W := fW fm) (nb := nb) (j := j') (by omega)).1
            have e := qi_up b (fm 3) (fW fm) (by omega) j'
            rw [hq] at hbig
            omega
      · rw [c] at y
        exact y (by decide)
    | succ d ih =>
      intro j μ2 hj Fa sa B2 h21 hS
      obtain ⟨g1, g2⟩ := qe_go (b := b) (M := fm 3) (W := fW fm) (nb := nb) (j := j) (by omega)
      have k8 := qk_le (b := b) (M := fm 3) (W := fW fm) (nb := nb) j (by omega)
      refine u_X12_finds_27 ?_
      rw [B2.1, nI_add, h21, nI_1, show nI (qi b (fm 3) (fW fm) j) + (16 : Int32) = nI (qi b (fm 3) (fW fm) j + 16) from nI_add _ 16]
      refine br_f (nI_nlt g1 (by omega)) (br_f (nI_ge (b := 8) (by omega) (by decide)) (m_isMark hO0 (FMM_fr hF Fa (by decide)) B2 hb (by omega) (by omega) (fun c => ⟨fun _ => ?_, fun z => absurd z (by decide)⟩) (fun c => ⟨fun z => absurd rfl z, fun _ => ?_⟩)))
      · have ei : qi b (fm 3) (fW fm) (j + 1) = qi b (fm 3) (fW fm) j + fW fm := by show (if _ then _ else _) = _; rw [if_pos c]
        have ek : qk b (fm 3) (fW fm) (j + 1) = qk b (fm 3) (fW fm) j + 1 := by show (if _ then _ else _) = _; rw [if_pos c]
        have ep : qp b (fm 3) (fW fm) (j + 1) = up (qp b (fm 3) (fW fm) j) (qk b (fm 3) (fW fm) j) (qi b (fm 3) (fW fm) j + 16) := by show (if _ then _ else _) = _; rw [if_pos c]
        refine m_takes hO0 (FMM_fr hF Fa (by decide)) B2 hb (by omega) (by omega) (by omega) h21 (fun μ3 S3 h3 F3 s3 l3 l4 => ?_)
        have := ih (j + 1) μ3 (by omega) (Fr_tr Fa (Fr_mono F3 (by decide))) (fun s y z => by rw [s3 s z]; exact sa s y z) (BM_fr B2 F3 (s3 20 (by decide)) (by decide)) (by rw [ek]; exact h3) (fun k hk => ?_)
        · rw [ei] at this
          exact this
        · rw [ek] at hk
          rw [ep]
          by_cases y : k = qk b (fm 3) (fW fm) j
          · rw [y, up_eq]; exact S3
          · rw [up_ne _ y]
            obtain ⟨a1, a2, a3⟩ := hS k (by omega)
            obtain ⟨b1, b2⟩ := l3 k (by omega)
            exact ⟨by rw [b1]; exact a1, fun i hi => by rw [l4 _ (by omega)]; exact a2 i hi, by rw [b2]; exact a3⟩
      · have ei : qi b (fm 3) (fW fm) (j + 1) = qi b (fm 3) (fW fm) j + 1 := by show (if _ then _ else _) = _; rw [if_neg (by rw [c]; decide)]
        have ek : qk b (fm 3) (fW fm) (j + 1) = qk b (fm 3) (fW fm) j := by show (if _ then _ else _) = _; rw [if_neg (by rw [c]; decide)]
        have ep : qp b (fm 3) (fW fm) (j + 1) = qp b (fm 3) (fW fm) j := by show (if _ then _ else _) = _; rw [if_neg (by rw [c]; decide)]
        have := ih (j + 1) μ2 (by omega) Fa sa B2 (by rw [ek]; exact h21) (by rw [ek, ep]; exact hS)
        rw [ei] at this
        exact this
  exact lp _ 0 _ (Nat.zero_add _) (Fr_mono F2 (by decide)) (fun s y z => by rw [sto_s z]; exact s1 s y) ⟨by rw [sto_s (by decide)]; exact B1.1, fun j hj => by rw [sto_K (by decide)]; exact B1.2 j hj⟩ sto_eq (fun k hk => absurd hk (by show ¬ k < 0; omega))
end PMF
