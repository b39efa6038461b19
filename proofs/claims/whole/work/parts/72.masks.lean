def CRo (f0 f1 hd ln : Nat → Nat) (nf : Nat) (x : Int32) : Option (Nat → Nat) := if x = 0 then some f0 else if x = 1 then some f1 else if x = 2 then (if fb_ct (dUn f0 f1) 24 ≤ 12 then some (dJ f0 f1 hd ln nf) else none) else none
def DC (f0 f1 hd ln : Nat → Nat) (nf : Nat) (μ : mH) : Prop := RW 0 f0 μ ∧ RW 1 f1 μ ∧ HD nf hd ln μ ∧ (¬ μ 0 0 8 = 0 → (fb_ct (dUn f0 f1) 24 ≤ 12 ∧ ¬ μ 0 0 9 = 0 ∧ RW 2 (dJ f0 f1 hd ln nf) μ) ∨ (12 < fb_ct (dUn f0 f1) 24 ∧ μ 0 0 9 = 0))
section PRO
variable {Γ : cx_T}
theorem c_rowOf {f0 f1 hd ln : Nat → Nat} {nf : Nat} {x : Int32} {μ : mH} {Q : Option Nat → mH → Prop} (hD : DC f0 f1 hd ln nf μ)
    (k1 : ∀ i row μ', CRo f0 f1 hd ln nf x = some row → RW i row μ' → DC f0 f1 hd ln nf μ' → Fr [0, 35, 36] μ μ' → Q (some i) μ')
    (k0 : ∀ μ', CRo f0 f1 hd ln nf x = none → DC f0 f1 hd ln nf μ' → Fr [0, 35, 36] μ μ' → Q none μ') : cwq 35 Γ M_X0_rowOf [aR 0 0, aI x] μ Q := by
  have hD0 := hD
  obtain ⟨h0, h1, hH, hj⟩ := hD
  refine u_X0_rowOf ⟨fun n0 => ⟨fun n1 => ⟨fun e2 => ?_, fun n2 => k0 μ (by simp [CRo, n0, n1, n2]) hD0 Fr_rf⟩, fun e1 => k1 1 f1 μ (by simp [CRo, e1]) h1 hD0 Fr_rf⟩, fun e0 => k1 0 f0 μ (by simp [CRo, e0]) h0 hD0 Fr_rf⟩
  subst e2
  have eR : CRo f0 f1 hd ln nf 2 = if fb_ct (dUn f0 f1) 24 ≤ 12 then some (dJ f0 f1 hd ln nf) else none := by
    unfold CRo
    rw [if_neg n0, if_neg n1, if_pos rfl]
  refine ⟨fun t => ?_, fun t => ?_⟩
  · rcases hj t with ⟨a, b, c⟩ | ⟨a, b⟩
    · exact ⟨fun z => absurd z b, fun _ => k1 2 _ μ (by rw [eR, if_pos a]) c hD0 Fr_rf⟩
    · exact ⟨fun _ => k0 μ (by rw [eR, if_neg (by omega)]) hD0 Fr_rf, fun z => absurd b z⟩
  · have Fa : Fr [0] μ (sto μ 0 0 8 1) := Fr_sto (by decide)
    refine c_findUnlike (RW_fr h0 Fa (by decide)) (RW_fr h1 Fa (by decide)) (fun μ1 u1 U1 F1 s1 => ⟨Or.inr rfl, fun z => absurd z (by decide), fun _ => ?_⟩) (fun μ1 u1 F1 s1 => ⟨Or.inl rfl, fun _ => ⟨fun _ => ?_, fun z => absurd rfl z⟩, fun z => absurd rfl z⟩)
    · have Fb : Fr [0, 36] μ (sto μ1 0 0 9 1) := Fr_st2 (Fr_tr (Fr_mono Fa (by decide)) F1) (by decide)
      have hb0 : (sto μ1 0 0 9 1) 0 0 0 = μ 0 0 0 := by rw [sto_s (by decide), s1 0 (by decide), sto_s (by decide)]
      have Ub : UL f0 f1 (sto μ1 0 0 9 1) := ⟨by rw [sto_s (by decide)]; exact U1.1, fun c hc u => by rw [sto_K (by decide)]; exact U1.2 c hc u⟩
      refine c_join (RW_fr h0 Fb (by decide)) (RW_fr h1 Fb (by decide)) (HD_fr hH Fb hb0 (by decide) (by decide)) Ub u1 (fun μ3 R3 F3 r3 => ?_)
      have F4 : Fr [0, 35, 36] μ μ3 := Fr_tr (Fr_mono Fb (by decide)) (Fr_mono F3 (by decide))
      have e9 : μ3 0 0 9 = 1 := by rw [Fr_at F3 (by decide), sto_eq]
      have D3 : DC f0 f1 hd ln nf μ3 := ⟨RW_35 (RW_fr h0 Fb (by decide)) (r3 0 (by decide)), RW_35 (RW_fr h1 Fb (by decide)) (r3 1 (by decide)), HD_fr (HD_fr hH Fb hb0 (by decide) (by decide)) F3 (Fr_at F3 (by decide) _ _) (by decide) (by decide), fun _ => Or.inl ⟨u1, by rw [e9]; decide, R3⟩⟩
      rw [e9]
      exact ⟨fun z => absurd z (by decide), fun _ => k1 2 _ μ3 (by rw [eR, if_pos u1]) R3 D3 F4⟩
    · have Fb : Fr [0, 36] μ (sto μ1 0 0 9 0) := Fr_st2 (Fr_tr (Fr_mono Fa (by decide)) F1) (by decide)
      have hb0 : (sto μ1 0 0 9 0) 0 0 0 = μ 0 0 0 := by rw [sto_s (by decide), s1 0 (by decide), sto_s (by decide)]
      exact k0 _ (by rw [eR, if_neg (by omega)]) ⟨RW_fr h0 Fb (by decide), RW_fr h1 Fb (by decide), HD_fr hH Fb hb0 (by decide) (by decide), fun _ => Or.inr ⟨u1, sto_eq⟩⟩ (Fr_mono Fb (by decide))
end PRO
/-! the reference -/
def TM (f0 f1 : Nat → Nat) (μ : mH) : Prop := ∀ c, c < 24 → f0 c ≤ 26 ∧ f1 c ≤ 26 ∧ μ 47 0 c = nI (f0 c) ∧ μ 47 0 (24 + c) = nI (f1 c)
theorem TM_fr {f0 f1 : Nat → Nat} {l : List Nat} {μ μ' : mH} (h : TM f0 f1 μ) (hF : Fr l μ μ') (hl : 47 ∉ l) : TM f0 f1 μ' := fun c hc => by rw [Fr_at hF hl, Fr_at hF hl]; exact h c hc
theorem HM_fr {nf : Nat} {hd ln : Nat → Nat} {l : List Nat} {μ μ' : mH} (h : HM nf hd ln μ) (hF : Fr l μ μ') (h0 : μ' 12 0 16 = μ 12 0 16) (h37 : 48 ∉ l) (h38 : 49 ∉ l) : HM nf hd ln μ' := ⟨h.1, by rw [h0]; exact h.2.1, fun f hf => by rw [Fr_at hF h37, Fr_at hF h38]; exact h.2.2 f hf⟩
def dM (f0 f1 : Nat → Nat) : Nat → Nat
  | 0 => 0
  | c + 1 => if dUn f0 f1 c then dM f0 f1 c ||| 2 ^ c else dM f0 f1 c
theorem dM_bit (f0 f1 : Nat → Nat) (c : Nat) : ∀ n, (dM f0 f1 n).testBit c = (decide (c < n) && dUn f0 f1 c)
  | 0 => by show (0 : Nat).testBit c = _; simp
  | n + 1 => by
    unfold dM
    split
    · rename_i h
      rw [fb_bit_set, dM_bit f0 f1 c n]
      by_cases e : c = n
      · subst e; simp [h]
      · by_cases l : c < n
        · simp [l, e, show c < n + 1 by omega]
        · simp [l, e, show ¬ c < n + 1 by omega]
    · rename_i h
      rw [dM_bit f0 f1 c n]
      by_cases e : c = n
      · subst e; simp [h]
      · by_cases l : c < n
        · simp [l, show c < n + 1 by omega]
        · simp [l, show ¬ c < n + 1 by omega]
theorem dM_lt (f0 f1 : Nat → Nat) (n : Nat) (h : n ≤ 24) : dM f0 f1 n < 2 ^ 24 := Nat.lt_pow_two_of_testBit _ (fun i hi => by rw [dM_bit]; simp; omega)
theorem dM_ct (f0 f1 : Nat → Nat) (n : Nat) (h : n ≤ 24) : fb_ct (dM f0 f1 24).testBit n = fb_ct (dUn f0 f1) n := fb_ct_cong (fun k hk => by rw [dM_bit]; simp; omega)
theorem dep24 (f0 f1 : Nat → Nat) (j : Nat) : dep 32 (dM f0 f1 24) j < 2 ^ 24 := Nat.lt_pow_two_of_testBit _ (fun i hi => by rw [dep_bit, dM_bit]; simp; omega)
theorem dep_mx (f0 f1 : Nat → Nat) (j c : Nat) (hc : c < 24) : (if (dep 32 (dM f0 f1 24) j).testBit c then f1 c else f0 c) = dmx f0 f1 j c := by
  unfold dmx
  rw [dep_bit, dM_bit, dM_ct f0 f1 c (by omega)]
  simp only [show decide (c < 32) = true by simp; omega, show decide (c < 24) = true by simp; omega, Bool.true_and]
theorem dep_ones (f0 f1 : Nat → Nat) (j : Nat) (h : fb_ct (dUn f0 f1) 24 ≤ 12) (hj : j < 2 ^ fb_ct (dUn f0 f1) 24) : fb_ct (dep 32 (dM f0 f1 24) j).testBit 24 = fb_ct j.testBit 24 := by
  rw [dep_ct _ _ 24 (by decide), dM_ct _ _ 24 (by decide)]
  have := ct_wide hj (24 - fb_ct (dUn f0 f1) 24)
  rw [show fb_ct (dUn f0 f1) 24 + (24 - fb_ct (dUn f0 f1) 24) = 24 by omega] at this
  exact this.symm
section PMK
variable {Γ : cx_T}
theorem tf_lp {f0 f1 row : Nat → Nat} {S : Nat} {μ0 : mH} {Q : mH → Prop} (hT : TM f0 f1 μ0) (hS : S < 2 ^ 31) (hrow : ∀ c, c < 24 → (if S.testBit c then f1 c else f0 c) = row c) (kk : ∀ μ', RM row μ' → Fr [60] μ0 μ' → Q μ') :
    ∀ (d c : Nat) (μ : mH), c + d = 24 → Fr [60] μ0 μ → (∀ c', c' < c → μ 60 0 c' = nI (row c')) → aw Γ M_X12_takesFrom 2 [aR 12 0, aI (nI S), aI (nI c)] [] μ (rV Q) := by
  intro d
  induction d with
  | zero =>
    intro c μ hc hF hr
    obtain rfl : c = 24 := by omega
    refine u_X12_takesFrom_2 (br_t (by decide) (kk μ (fun c hc => ⟨?_, hr c hc⟩) hF))
    rw [← hrow c hc]
    split
    · exact (hT c hc).2.1
    · exact (hT c hc).1
  | succ d ih =>
    intro c μ hc hF hr
    have hlt : c < 24 := by omega
    refine u_X12_takesFrom_2 (br_f (nI_ge (b := 24) hlt (by decide)) ?_)
    have e : (24 : Int32) * ((nI S >>> (nI c &&& 31)) &&& 1) + nI c = nI (24 * (if S.testBit c then 1 else 0) + c) := by
      rw [mb_t hS (by omega), show (24 : Int32) = nI 24 from rfl, pk_mul, nI_add]
    rw [e]
    have hb : 24 * (if S.testBit c then 1 else 0) + c < 48 := by split <;> omega
    refine ⟨vp_in_nI hb (by decide), vp_in_nI hlt (by decide), ?_⟩
    rw [tn_nI (by omega), tn_nI (by omega), nI_1, Fr_at hF (by decide)]
    have ev : μ0 47 0 (24 * (if S.testBit c then 1 else 0) + c) = nI (row c) := by
      rw [← hrow c hlt]
      split
      · exact (hT c hlt).2.2.2
      · rw [show 24 * 0 + c = c by omega]; exact (hT c hlt).2.2.1
    rw [ev]
    refine ih (c + 1) _ (by omega) (Fr_st2 hF (by decide)) (fun c' h => ?_)
    by_cases z : c' = c
    · subst z; exact sto_eq
    · rw [sto_s z]; exact hr c' (by omega)
theorem m_takesFrom {f0 f1 row : Nat → Nat} {S : Nat} {μ : mH} {Q : mH → Prop} (hT : TM f0 f1 μ) (hS : S < 2 ^ 31) (hrow : ∀ c, c < 24 → (if S.testBit c then f1 c else f0 c) = row c) (kk : ∀ μ', RM row μ' → Fr [60] μ μ' → Q μ') : cwv Γ M_X12_takesFrom [aR 12 0, aI (nI S)] μ Q :=
  u_X12_takesFrom (tf_lp hT hS hrow kk 24 0 μ rfl Fr_rf (fun c h => absurd h (by omega)))
theorem m_ones {S : Nat} {μ : mH} {Q : Int32 → mH → Prop} (hS : S < 2 ^ 31) (kk : Q (nI (fb_ct S.testBit 24)) μ) : cwi Γ M_X12_ones [aI (nI S)] μ Q := by
  have lp : ∀ d c, c + d = 24 → aw Γ M_X12_ones 4 [aI (nI S), aI (nI (fb_ct S.testBit c)), aI (nI c)] [] μ (rI Q) := by
    intro d
    induction d with
    | zero =>
      intro c hc
      obtain rfl : c = 24 := by omega
      exact u_X12_ones_4 (br_t (by decide) kk)
    | succ d ih =>
      intro c hc
      refine u_X12_ones_4 (br_f (nI_ge (b := 24) (by omega) (by decide)) ?_)
      rw [mb_t hS (by omega), nI_add, nI_1, ← fb_ct_succ]
      exact ih (c + 1) (by omega)
  exact u_X12_ones (lp 24 0 rfl)
theorem nI_m1 {k : Nat} (h : k < 2 ^ 31) : ¬ nI k = -1 := fun e => absurd (show nI k < 0 by rw [e]; decide) (nI_pos h)
theorem ak_lp {f0 f1 hd ln : Nat → Nat} {nf u M : Nat} {μ0 : mH} {Q : Int32 → mH → Prop} (eM : dM f0 f1 24 = M) (eu : fb_ct (dUn f0 f1) 24 = u) (h12 : u ≤ 12) (hT : TM f0 f1 μ0) (hH : HM nf hd ln μ0)
    (kk : ∀ μ', RM (dJ f0 f1 hd ln nf) μ' → Fr [12, 60, 61] μ0 μ' → (∀ s, s ≠ 34 → μ' 12 0 s = μ0 12 0 s) → Q 1 μ') :
    ∀ (d j : Nat) (μ : mH), j + d + 1 = 2 ^ u → Fr [12, 60, 61] μ0 μ → (∀ s, s ≠ 34 → μ 12 0 s = μ0 12 0 s) → aw Γ M_X12_asks 154 [aR 12 0, aX, aI (nI M), aI (nI (dep 32 M (dbs (dF f0 f1 hd ln nf) j))), aI (nI (dF f0 f1 hd ln nf (dbs (dF f0 f1 hd ln nf) j))), aI (nI (dep 32 M j)), aX, aX] [] μ (rI Q) := by
  have hM : M < 2 ^ 24 := by rw [← eM]; exact dM_lt f0 f1 24 (Nat.le_refl _)
  have hdep : ∀ j, dep 32 M j < 2 ^ 24 := fun j => by rw [← eM]; exact dep24 f0 f1 j
  have hctM : fb_ct M.testBit 24 = u := by rw [← eM, dM_ct _ _ 24 (Nat.le_refl _), eu]
  have hp : 2 ^ u ≤ 2 ^ 12 := Nat.pow_le_pow_right (by decide) h12
  intro d
  induction d with
  | zero =>
    intro j μ hj hF hs
    refine u_X12_asks_154 ?_
    rw [inc_I M _ hM, dep_inc 32 M j (by omega), show j + 1 = 2 ^ fb_ct M.testBit 24 by rw [hctM]; omega, dep_zero M hM]
    refine br_t (by decide) (u_X12_asks_99 ⟨fun _ => ?_, fun z => absurd rfl z⟩)
    refine m_takesFrom (row := dJ f0 f1 hd ln nf) (TM_fr hT hF (by decide)) (by have := hdep (dbs (dF f0 f1 hd ln nf) j); omega) (fun c hc => ?_) (fun μ' R' F' => kk μ' R' (Fr_tr hF (Fr_mono F' (by decide))) (fun s z => by rw [Fr_at F' (by decide)]; exact hs s z))
    unfold dJ
    rw [eu, show 2 ^ u - 1 = j by omega, ← eM]
    exact dep_mx f0 f1 _ c hc
  | succ d ih =>
    intro j μ hj hF hs
    refine u_X12_asks_154 ?_
    rw [inc_I M _ hM, dep_inc 32 M j (by omega)]
    have hnz := dep_nz M (j + 1) (by omega) (by rw [hctM]; omega)
    have hd1 := hdep (j + 1)
    have hd2 := hdep (dbs (dF f0 f1 hd ln nf) j)
    have hb := dbs_le (dF f0 f1 hd ln nf) j
    refine br_f (fun z => hnz ((nI_eq (b := 0) (by omega) (by decide)).mp z)) (u_X12_asks_99 ⟨fun z => absurd z (by decide), fun _ => ?_⟩)
    refine m_takesFrom (row := dmx f0 f1 (j + 1)) (TM_fr hT hF (by decide)) (by omega) (fun c hc => by rw [← eM]; exact dep_mx f0 f1 _ c hc) (fun μ2 R2 F2 => ?_)
    have F3 : Fr [12, 60, 61] μ0 μ2 := Fr_tr hF (Fr_mono F2 (by decide))
    have s3 : ∀ s, s ≠ 34 → μ2 12 0 s = μ0 12 0 s := fun s z => by rw [Fr_at F2 (by decide)]; exact hs s z
    refine m_mishapsNow (HM_fr hH F3 (s3 16 (by decide)) (by decide) (by decide)) R2 (fun μ4 F4 s4 => ⟨fun z => absurd z (nI_m1 (by omega)), fun _ => ?_⟩)
    have F5 : Fr [12, 60, 61] μ0 μ4 := Fr_tr F3 (Fr_mono F4 (by decide))
    have s5 : ∀ s, s ≠ 34 → μ4 12 0 s = μ0 12 0 s := fun s z => (s4 s z).trans (s3 s z)
    have go := ih (j + 1) μ4 (by omega) F5 s5
    have ed : dbs (dF f0 f1 hd ln nf) (j + 1) = if dbt (dF f0 f1 hd ln nf) (j + 1) (dbs (dF f0 f1 hd ln nf) j) then j + 1 else dbs (dF f0 f1 hd ln nf) j := rfl
    have o1 := dep_ones f0 f1 (j + 1) (by omega) (by rw [eu]; omega)
    have o2 := dep_ones f0 f1 (dbs (dF f0 f1 hd ln nf) j) (by omega) (by rw [eu]; omega)
    rw [eM] at o1 o2
    rw [ed] at go
    have m1 := mi_le (dmx f0 f1 (j + 1)) hd ln nf hH.1
    have m2 := mi_le (dmx f0 f1 (dbs (dF f0 f1 hd ln nf) j)) hd ln nf hH.1
    have c1 := fb_ct_le (j + 1).testBit 24
    have c2 := fb_ct_le (dbs (dF f0 f1 hd ln nf) j).testBit 24
    change dF f0 f1 hd ln nf (j + 1) ≤ 200 at m1
    change dF f0 f1 hd ln nf (dbs (dF f0 f1 hd ln nf) j) ≤ 200 at m2
    show _ ∧ _
    rw [show mi (dmx f0 f1 (j + 1)) hd ln nf = dF f0 f1 hd ln nf (j + 1) from rfl]
    generalize dbs (dF f0 f1 hd ln nf) j = b at *
    generalize dF f0 f1 hd ln nf = F at *
    refine pk_lt (F (j + 1)) (F b) (fun l => ?_) (fun l => ⟨fun e => ?_, fun e => ?_⟩)
    · have t : dbt F (j + 1) b = true := by simp [dbt, l]
      rw [t] at go
      exact go
    · have t : dbt F (j + 1) b = false := by
        have : F (j + 1) ≠ F b := fun z => e (by rw [z])
        simp [dbt]; omega
      rw [t] at go
      exact go
    · have e := (nI_eq (by omega) (by omega)).mp e
      refine m_ones (by omega) (m_ones (by omega) ?_)
      rw [o1, o2]
      refine pk_le (fb_ct b.testBit 24) (fb_ct (j + 1).testBit 24) (fun q => ?_) (fun q => ?_)
      · have t : dbt F (j + 1) b = false := by simp [dbt]; omega
        rw [t] at go
        exact go
      · have t : dbt F (j + 1) b = true := by simp [dbt, e, q]
        rw [t] at go
        exact go
theorem m_asks {f0 f1 hd ln : Nat → Nat} {nf : Nat} {x : Int32} {μ : mH} {Q : Int32 → mH → Prop} (hT : TM f0 f1 μ) (hH : HM nf hd ln μ)
    (k1 : ∀ row μ', CRo f0 f1 hd ln nf x = some row → RM row μ' → Fr [12, 60, 61] μ μ' → (∀ s, s ≠ 34 → μ' 12 0 s = μ 12 0 s) → Q 1 μ')
    (k0 : CRo f0 f1 hd ln nf x = none → Q 0 μ) : cwi Γ M_X12_asks [aR 12 0, aI x] μ Q := by
  refine u_X12_asks (s_in (fun h => ⟨fun z => absurd rfl z, fun _ => k0 ?_⟩) (fun h1 h2 => ⟨fun _ => ?_, fun z => absurd z (by decide)⟩))
  · unfold CRo
    rw [if_neg (fun e => h (by rw [e]; decide)), if_neg (fun e => h (by rw [e]; decide)), if_neg (fun e => h (by rw [e]; decide))]
  · obtain ⟨k, hk, rfl⟩ := nI_of (Int32.not_lt.mpr h1)
    have hk2 : k ≤ 2 := (nI_leI (b := 2) hk (by decide)).mp h2
    rcases (show k = 0 ∨ k = 1 ∨ k = 2 by omega) with rfl | rfl | rfl
    · refine ⟨fun z => absurd z (by decide), fun _ => ⟨fun z => absurd rfl z, fun _ => ?_⟩⟩
      exact m_takesFrom (S := 0) (row := f0) hT (by decide) (fun c hc => by simp) (fun μ' R' F' => k1 f0 μ' rfl R' (Fr_mono F' (by decide)) (fun s _ => Fr_at F' (by decide) _ _))
    · refine ⟨fun z => absurd z (by decide), fun _ => ⟨fun _ => ?_, fun z => absurd z (by decide)⟩⟩
      have hb : ∀ c, c < 24 → (16777215 : Nat).testBit c = true := by decide
      exact m_takesFrom (S := 16777215) (row := f1) hT (by decide) (fun c hc => by rw [hb c hc]; rfl) (fun μ' R' F' => k1 f1 μ' rfl R' (Fr_mono F' (by decide)) (fun s _ => Fr_at F' (by decide) _ _))
    · refine ⟨fun _ => ?_, fun z => absurd (show (2 : Int32) ≤ nI 2 by decide) z⟩
      have eR : CRo f0 f1 hd ln nf (nI 2) = if fb_ct (dUn f0 f1) 24 ≤ 12 then some (dJ f0 f1 hd ln nf) else none := rfl
      rw [eR] at k1 k0
      have lp : ∀ d c, c + d = 24 → aw Γ M_X12_asks 37 [aR 12 0, aX, aI (nI (dM f0 f1 c)), aI (nI c), aX, aX, aX, aX] [] μ (rI Q) := by
        intro d
        induction d with
        | zero =>
          intro c hc
          obtain rfl : c = 24 := by omega
          have hM := dM_lt f0 f1 24 (Nat.le_refl _)
          have hl := fb_ct_le (dUn f0 f1) 24
          refine u_X12_asks_37 (br_t (by decide) (m_ones (by omega) ?_))
          rw [dM_ct f0 f1 24 (Nat.le_refl _)]
          refine pk_le (fb_ct (dUn f0 f1) 24) 12 (fun q => ?_) (fun q => k0 (by rw [if_neg (by omega)]))
          rw [if_pos q] at k1
          refine u_X12_asks_99 ⟨fun z => absurd z (by decide), fun _ => ?_⟩
          have e0 : dep 32 (dM f0 f1 24) 0 = 0 := dep_0 _ _
          refine m_takesFrom (S := 0) (row := dmx f0 f1 0) hT (by decide) (fun c hc => by have := dep_mx f0 f1 0 c hc; rw [e0] at this; exact this) (fun μ2 R2 F2 => ?_)
          refine m_mishapsNow (HM_fr hH F2 (Fr_at F2 (by decide) _ _) (by decide) (by decide)) R2 (fun μ4 F4 s4 => ⟨fun _ => ?_, fun z => absurd rfl z⟩)
          have hp := Nat.two_pow_pos (fb_ct (dUn f0 f1) 24)
          have := ak_lp (Γ := Γ) rfl rfl q hT hH (fun μ' R' F' s' => k1 _ μ' rfl R' F' s') (2 ^ fb_ct (dUn f0 f1) 24 - 1) 0 μ4 (by omega) (Fr_tr (Fr_mono F2 (by decide)) (Fr_mono F4 (by decide))) (fun s z => by rw [s4 s z, Fr_at F2 (by decide)])
          have ez : dbs (dF f0 f1 hd ln nf) 0 = 0 := rfl
          rw [ez, e0] at this
          exact this
        | succ d ih =>
          intro c hc
          have hlt : c < 24 := by omega
          obtain ⟨t1, t2, t3, t4⟩ := hT c hlt
          have go := ih (c + 1) (by omega)
          refine u_X12_asks_37 (br_f (nI_ge (b := 24) hlt (by decide)) ?_)
          rw [show (24 : Int32) + nI c = nI (24 + c) from nI_add 24 c, tn_nI (by omega), tn_nI (by omega), t3, t4, mb_s _ (by omega), nI_1, show nI (dM f0 f1 c) ||| (0 : Int32) = nI (dM f0 f1 c ||| 0) from fa_or _ 0, Nat.or_zero]
          refine ⟨vp_in_nI (by omega) (by decide), vp_in_nI (by omega) (by decide), fun q => ?_, fun q => ?_⟩
          · have q := (nI_eq (by omega) (by omega)).mp q
            have u : dUn f0 f1 c = false := by simp [dUn, q]
            unfold dM at go
            rw [u] at go
            exact go
          · have u : dUn f0 f1 c = true := by
              simp [dUn]
              intro z
              exact q (by rw [z])
            unfold dM at go
            rw [u] at go
            exact go
      exact lp 24 0 rfl
end PMK
