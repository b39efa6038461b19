/-! mending, by the reference -/
def KSM (n : Nat) (V : Nat → Nat → Nat) (t : Nat) (μ : mH) : Prop := ∀ b, b < t → μ 59 0 b = nI (kK n V b) ∧ ∀ j, j < kK n V b → μ 58 0 (80 * b + j) = nI (kv n V b j)
def alq (K : Nat → Nat) : Nat → Nat
  | 0 => 1
  | b + 1 => if alq K b ≤ 4096 then alq K b * K b else alq K b
def fC (n : Nat) (V : Nat → Nat → Nat) (c b : Nat) : Nat := kv n V b (lfq (kK n V) c b % kK n V b)
def ftM (fm : Nat → Nat) (n : Nat) (V : Nat → Nat → Nat) (c : Nat) : Prop := sm fm (fC n V c) (2 + fm 4) = 256 * fC n V c (2 + fm 4) + fC n V c (3 + fm 4)
theorem alq_eq {K : Nat → Nat} : ∀ b, (∀ s, s < b → 0 < K s) → (PKq K b ≤ 4096 → alq K b = PKq K b) ∧ (¬ PKq K b ≤ 4096 → ¬ alq K b ≤ 4096)
  | 0, _ => ⟨fun _ => rfl, fun h => absurd (show PKq K 0 ≤ 4096 by show 1 ≤ 4096; decide) h⟩
  | b + 1, h => by
    obtain ⟨h1, h2⟩ := alq_eq b (fun s hs => h s (by omega))
    have hk := h b (by omega)
    have ep : PKq K (b + 1) = PKq K b * K b := rfl
    have ea : alq K (b + 1) = if alq K b ≤ 4096 then alq K b * K b else alq K b := rfl
    have hm : PKq K b ≤ PKq K b * K b := Nat.le_mul_of_pos_right _ hk
    by_cases c : PKq K b ≤ 4096
    · have e := h1 c
      rw [ea, e, if_pos c, ep]
      exact ⟨fun _ => rfl, fun q => q⟩
    · have e := h2 c
      rw [ea, if_neg e, ep]
      exact ⟨fun q => absurd q (by omega), fun _ => e⟩
theorem alq_le {K : Nat → Nat} (hK : ∀ s, K s ≤ 80) : ∀ b, alq K b ≤ 4096 * 80
  | 0 => by show 1 ≤ _; decide
  | b + 1 => by
    have ih := alq_le hK b
    show (if alq K b ≤ 4096 then alq K b * K b else alq K b) ≤ _
    split
    · exact Nat.mul_le_mul (by assumption) (hK b)
    · exact ih
theorem dig_all {n : Nat} {V : Nat → Nat → Nat} {tg : Nat → Nat} : ∀ (m : Nat), (∀ b, b < m → ∃ c, c < n ∧ tg b = V c b) → ∃ e : Nat → Nat, ∀ b, b < m → e b < kK n V b ∧ kv n V b (e b) = tg b
  | 0, _ => ⟨fun _ => 0, fun i hi => absurd hi (by omega)⟩
  | z + 1, h => by
    obtain ⟨d, hd⟩ := dig_all z (fun i hi => h i (by omega))
    obtain ⟨c, h1, h2⟩ := h z (by omega)
    obtain ⟨j, g1, g2⟩ := kv_sur (V := V) (i := z) h1
    refine ⟨fun i => if i = z then j else d i, fun i hi => ?_⟩
    by_cases e : i = z
    · subst e
      simp only [if_true]
      exact ⟨g1, by rw [g2, h2]⟩
    · simp only [if_neg e]
      exact hd i (by omega)
theorem CPV_01 {fm : Nat → Nat} {T S n : Nat} {V : Nat → Nat → Nat} {r : Nat → Bool} (hO : OKF fm) (h : CPV fm T S n V r) {c : Nat} (hc : c < n) (dat : Nat → Nat) : V c 0 = hdv fm T S dat 0 ∧ V c 1 = hdv fm T S dat 1 := by
  have o10 := hO.2.2.2.2.2.2.2.2.2
  obtain ⟨_, a, b, _⟩ := h.2 c hc
  unfold hdv
  rcases (show fm 8 = 0 ∨ fm 8 = 1 by omega) with e | e
  · rw [e] at a b ⊢
    exact ⟨a, b⟩
  · rw [e] at a b ⊢
    exact ⟨b, a⟩
theorem PKq_two {fm : Nat → Nat} {T S n : Nat} {V : Nat → Nat → Nat} {r : Nat → Bool} (hO : OKF fm) (hn : 0 < n) (h : CPV fm T S n V r) : ∀ t, PKq (kK n V) (2 + t) = PKq (KK n V) t
  | 0 => by
    show 1 * kK n V 0 * kK n V 1 = 1
    rw [kK_one (t := hdv fm T S (fun _ => 0) 0) hn (fun c hc => (CPV_01 hO h hc _).1), kK_one (t := hdv fm T S (fun _ => 0) 1) hn (fun c hc => (CPV_01 hO h hc _).2)]
  | t + 1 => by
    show PKq (kK n V) (2 + t) * kK n V (2 + t) = PKq (KK n V) t * KK n V t
    rw [PKq_two hO hn h t]
    rfl
theorem fC_in {n : Nat} {V : Nat → Nat → Nat} (hn : 0 < n) (c b : Nat) : ∃ c', c' < n ∧ fC n V c b = V c' b := by
  obtain ⟨c', g1, _, _, g4⟩ := kv_in (n := n) (V := V) (i := b) (j := lfq (kK n V) c b % kK n V b) (Nat.mod_lt _ (kK_pos hn))
  exact ⟨c', g1, g4⟩
/-- a code that fits gives data that fit -/
theorem ftM_fit {fm : Nat → Nat} {T S n : Nat} {V : Nat → Nat → Nat} {r : Nat → Bool} (hO : OKF fm) (hn : 0 < n) (h : CPV fm T S n V r) {c : Nat} (hf : ftM fm n V c) : FITd fm T S n V (fun i => fC n V c (2 + i)) ∧ ∀ b, b < 2 + fm 4 → fC n V c b = hdv fm T S (fun i => fC n V c (2 + i)) b := by
  have hh : ∀ b, b < 2 + fm 4 → fC n V c b = hdv fm T S (fun i => fC n V c (2 + i)) b := fun b hb => by
    by_cases b0 : b = 0
    · subst b0
      obtain ⟨c', g1, g2⟩ := fC_in hn c 0
      rw [g2]; exact (CPV_01 hO h g1 _).1
    · by_cases b1 : b = 1
      · subst b1
        obtain ⟨c', g1, g2⟩ := fC_in hn c 1
        rw [g2]; exact (CPV_01 hO h g1 _).2
      · unfold hdv
        rw [if_neg b0, if_neg b1]
        show fC n V c b = fC n V c (2 + (b - 2))
        rw [show 2 + (b - 2) = b by omega]
  have es : SUMd fm T S (fun i => fC n V c (2 + i)) = 256 * fC n V c (2 + fm 4) + fC n V c (3 + fm 4) := by
    rw [← hf]
    exact (sm_cong _ (fun j hj => hh j hj)).symm
  obtain ⟨c1, a1, a2⟩ := fC_in (V := V) hn c (2 + fm 4)
  obtain ⟨c2, b1, b2⟩ := fC_in (V := V) hn c (3 + fm 4)
  have l2 := (h.2 c2 b1).1 (3 + fm 4)
  refine ⟨⟨fun i _ => fC_in hn c (2 + i), ⟨c1, a1, ?_⟩, ⟨c2, b1, ?_⟩⟩, hh⟩
  · rw [es, a2, b2]; omega
  · rw [es, a2, b2]; omega
/-- data that fit have a code that fits -/
theorem fit_ftM {fm : Nat → Nat} {T S n : Nat} {V : Nat → Nat → Nat} {r : Nat → Bool} (hO : OKF fm) (hn : 0 < n) (h : CPV fm T S n V r) {dat : Nat → Nat} (hf : FITd fm T S n V dat) : ∃ c, c < PKq (kK n V) (4 + fm 4) ∧ ftM fm n V c ∧ ∀ i, i < fm 4 → fC n V c (2 + i) = dat i := by
  obtain ⟨f1, ⟨c1, a1, a2⟩, ⟨c2, b1, b2⟩⟩ := hf
  obtain ⟨e, he⟩ := dig_all (n := n) (V := V) (tg := fun b => if b < 2 + fm 4 then hdv fm T S dat b else if b = 2 + fm 4 then SUMd fm T S dat / 256 else SUMd fm T S dat % 256) (4 + fm 4) (fun b hb => by
    by_cases q : b < 2 + fm 4
    · simp only [if_pos q]
      by_cases b0 : b = 0
      · exact ⟨0, hn, by rw [b0]; exact (CPV_01 hO h hn dat).1.symm⟩
      · by_cases b1' : b = 1
        · exact ⟨0, hn, by rw [b1']; exact (CPV_01 hO h hn dat).2.symm⟩
        · obtain ⟨c, g1, g2⟩ := f1 (b - 2) (by omega)
          rw [show 2 + (b - 2) = b by omega] at g2
          refine ⟨c, g1, ?_⟩
          unfold hdv
          rw [if_neg b0, if_neg b1', g2]
    · simp only [if_neg q]
      by_cases q2 : b = 2 + fm 4
      · simp only [if_pos q2]
        exact ⟨c1, a1, by rw [q2, a2]⟩
      · simp only [if_neg q2]
        exact ⟨c2, b1, by rw [show b = 3 + fm 4 by omega, b2]⟩)
  have hd := lrq_dig (K := kK n V) (4 + fm 4) (fun b hb => (he b hb).1)
  have hc : ∀ b, b < 4 + fm 4 → fC n V (lrq (kK n V) e (4 + fm 4)) b = (if b < 2 + fm 4 then hdv fm T S dat b else if b = 2 + fm 4 then SUMd fm T S dat / 256 else SUMd fm T S dat % 256) := fun b hb => by
    unfold fC
    rw [hd b hb]
    exact (he b hb).2
  refine ⟨lrq (kK n V) e (4 + fm 4), lrq_lt _ (fun b hb => (he b hb).1), ?_, fun i hi => ?_⟩
  · unfold ftM
    have e1 : sm fm (fC n V (lrq (kK n V) e (4 + fm 4))) (2 + fm 4) = SUMd fm T S dat := sm_cong _ (fun j hj => by rw [hc j (by omega), if_pos hj])
    rw [e1, hc (2 + fm 4) (by omega), hc (3 + fm 4) (by omega), if_neg (by omega), if_pos rfl, if_neg (by omega), if_neg (by omega)]
    omega
  · rw [hc (2 + i) (by omega), if_pos (by omega)]
    unfold hdv
    rw [if_neg (by omega), if_neg (by omega), show 2 + i - 2 = i by omega]
theorem ftM_two {fm : Nat → Nat} {T S n : Nat} {V : Nat → Nat → Nat} {r : Nat → Bool} (hO : OKF fm) (hn : 0 < n) (h : CPV fm T S n V r) {c c' : Nat} (hc : c < PKq (kK n V) (4 + fm 4)) (hc' : c' < PKq (kK n V) (4 + fm 4)) (hf : ftM fm n V c) (hf' : ftM fm n V c') (e : ∀ i, i < fm 4 → fC n V c (2 + i) = fC n V c' (2 + i)) : c = c' := by
  obtain ⟨_, g1⟩ := ftM_fit hO hn h hf
  obtain ⟨_, g2⟩ := ftM_fit hO hn h hf'
  have e0 : ∀ b, b < 2 + fm 4 → fC n V c b = fC n V c' b := fun b hb => by
    by_cases b2 : 2 ≤ b
    · have := e (b - 2) (by omega)
      rw [show 2 + (b - 2) = b by omega] at this
      exact this
    · rw [g1 b hb, g2 b hb]
      unfold hdv
      rcases (show b = 0 ∨ b = 1 by omega) with z | z <;> rw [z] <;> rfl
  have es : sm fm (fC n V c) (2 + fm 4) = sm fm (fC n V c') (2 + fm 4) := sm_cong _ (fun j hj => e0 j hj)
  have lt : ∀ (x b : Nat), fC n V x b < 256 := fun x b => by
    obtain ⟨c1, a1, a2⟩ := fC_in (V := V) hn x b
    rw [a2]; exact (h.2 c1 a1).1 b
  have l1 := lt c (3 + fm 4)
  have l2 := lt c' (3 + fm 4)
  unfold ftM at hf hf'
  have ea : ∀ b, b < 4 + fm 4 → fC n V c b = fC n V c' b := fun b hb => by
    by_cases q : b < 2 + fm 4
    · exact e0 b q
    · rcases (show b = 2 + fm 4 ∨ b = 3 + fm 4 by omega) with z | z <;> rw [z] <;> omega
  refine lfq_inj hc hc' (fun b hb => ?_)
  exact kv_inj (Nat.mod_lt _ (kK_pos hn)) (Nat.mod_lt _ (kK_pos hn)) (ea b hb)
def GI (fm : Nat → Nat) (n : Nat) (V : Nat → Nat → Nat) (N ρ : Nat) (μ : mH) : Prop :=
  (N = 0 ∧ ∀ c, c < ρ → ¬ ftM fm n V c) ∨ (N = 1 ∧ ∃ c0, c0 < ρ ∧ ftM fm n V c0 ∧ (∀ b, b < 4 + fm 4 → μ 57 0 b = nI (fC n V c0 b)) ∧ ∀ c, c < ρ → ftM fm n V c → c = c0) ∨ (N = 2 ∧ ∃ c1 c2, c1 < ρ ∧ c2 < ρ ∧ c1 ≠ c2 ∧ ftM fm n V c1 ∧ ftM fm n V c2)
section PMN
variable {Γ : cx_T}
theorem m_isAhead {fm : Nat → Nat} {n b c : Nat} {V : Nat → Nat → Nat} {r : Nat → Bool} {μ : mH} {Q : Int32 → mH → Prop} (hO : OKF fm) (hn8 : n ≤ 80) (hV : ∀ c, c < n → ∀ i, V c i < 256) (hC : CPM fm n V r μ) (hb : b < 4 + fm 4) (hc : c < n) (k1 : kD V b c = false → Q 1 μ) (k0 : kD V b c = true → Q 0 μ) : cwi Γ M_X12_isAhead [aR 12 0, aI (nI b), aI (nI c)] μ Q := by
  have o6 := hO.2.2.2.2.2.1
  have lp : ∀ d i, i + d = c → (∀ j, j < i → V j b ≠ V c b) → aw Γ M_X12_isAhead 2 [aR 12 0, aI (nI b), aI (nI c), aI (nI i)] [] μ (rI Q) := by
    intro d
    induction d with
    | zero =>
      intro i hi hno
      obtain rfl : i = c := by omega
      refine u_X12_isAhead_2 (br_t (nI_le (Nat.le_refl _) (by omega)) (k0 ?_))
      cases q : kD V b i
      · obtain ⟨c', g1, g2⟩ := kD_f.mp q
        exact absurd g2 (hno c' g1)
      · rfl
    | succ d ih =>
      intro i hi hno
      have v1 := hV i (by omega) b
      have v2 := hV c hc b
      refine u_X12_isAhead_2 (br_f (nI_ge (by omega) (by omega)) ?_)
      rw [show (12 : Int32) * nI i = nI (12 * i) from pk_mul 12 _, show (12 : Int32) * nI c = nI (12 * c) from pk_mul 12 _, nI_add, nI_add, tn_nI (by omega), tn_nI (by omega), (hC.2 i (by omega)).1 b hb, (hC.2 c hc).1 b hb, nI_1]
      refine ⟨vp_in_nI (by omega) (by decide), vp_in_nI (by omega) (by decide), fun z => ih (i + 1) (by omega) (fun j hj => ?_), fun z => k1 (kD_f.mpr ⟨i, by omega, (nI_eq (by omega) (by omega)).mp z⟩)⟩
      by_cases e : j = i
      · subst e; exact fun q => z (by rw [q])
      · exact hno j (by omega)
  exact u_X12_isAhead (lp c 0 (Nat.zero_add _) (fun j hj => absurd hj (by omega)))
theorem CPM_fr {fm : Nat → Nat} {n : Nat} {V : Nat → Nat → Nat} {r : Nat → Bool} {l : List Nat} {μ μ' : mH} (h : CPM fm n V r μ) (hF : Fr l μ μ') (h0 : μ' 12 0 26 = μ 12 0 26) (h1 : 55 ∉ l) (h2 : 56 ∉ l) : CPM fm n V r μ' := by
  unfold CPM
  rw [h0, hF 55 h1, hF 56 h2]
  exact h
theorem m_mends {fm : Nat → Nat} {T S n : Nat} {V : Nat → Nat → Nat} {r : Nat → Bool} {μ : mH} {Q : Int32 → mH → Prop} (hO : OKF fm) (hF : FMM fm μ) (hn : 0 < n) (hW : CPV fm T S n V r) (hC : CPM fm n V r μ)
    (k1 : ∀ dat μ', UNI fm T S n V dat → (∀ b, b < 2 + fm 4 → μ' 57 0 b = nI (hdv fm T S dat b)) → Fr [54, 57, 58, 59] μ μ' → Q 1 μ') (k0 : (¬ ∃ dat, UNI fm T S n V dat) → ∀ x μ', x ≠ 1 → Fr [54, 57, 58, 59] μ μ' → Q x μ') : cwi Γ M_X12_mends [aR 12 0] μ Q := by
  have o6 := hO.2.2.2.2.2.1
  have hn8 := hW.1
  have hV : ∀ c, c < n → ∀ i, V c i < 256 := fun c hc => (hW.2 c hc).1
  have kl : ∀ s, kK n V s ≤ 80 := fun s => Nat.le_trans (kK_le _ _ _) hn8
  have al := alq_eq (K := kK n V) (4 + fm 4) (fun s _ => kK_pos hn)
  have all := alq_le (K := kK n V) kl
  have eP : PKq (kK n V) (4 + fm 4) = PKq (KK n V) (fm 4 + 2) := by
    have := PKq_two hO hn hW (fm 4 + 2)
    rw [← this]
    congr 1
    omega
  have lt : ∀ (x b : Nat), fC n V x b < 256 := fun x b => by
    obtain ⟨c1, a1, a2⟩ := fC_in (V := V) hn x b
    rw [a2]; exact hV c1 a1 b
  have aA := all (4 + fm 4)
  -- the codes
  have main : PKq (kK n V) (4 + fm 4) ≤ 4096 → ∀ e ρ N (μ1 : mH), ρ + e = PKq (kK n V) (4 + fm 4) → Fr [54, 57, 58, 59] μ μ1 → KSM n V (4 + fm 4) μ1 → GI fm n V N ρ μ1 → aw Γ M_X12_mends 114 [aR 12 0, aI (nI (PKq (kK n V) (4 + fm 4))), aI (nI N), aI (nI ρ), aX, aX] [] μ1 (rI Q) := by
    intro hp e
    have two : ∀ ρ (μ1 : mH), ρ ≤ PKq (kK n V) (4 + fm 4) → Fr [54, 57, 58, 59] μ μ1 → (∃ c1 c2, c1 < ρ ∧ c2 < ρ ∧ c1 ≠ c2 ∧ ftM fm n V c1 ∧ ftM fm n V c2) → Q (nI 2) μ1 := by
      rintro ρ μ1 hρ F1 ⟨c1, c2, g1, g2, g3, g4, g5⟩
      refine k0 (fun ⟨dat, hu⟩ => ?_) _ μ1 (by decide) F1
      exact g3 (ftM_two hO hn hW (by omega) (by omega) g4 g5 (fun i hi => by rw [hu.2.2 _ (ftM_fit hO hn hW g4).1 i hi, hu.2.2 _ (ftM_fit hO hn hW g5).1 i hi]))
    induction e with
    | zero =>
      intro ρ N μ1 hρ F1 K1 hI
      refine u_X12_mends_114 (br_t (nI_le (by omega) (by omega)) ?_)
      rcases hI with ⟨n0, g⟩ | ⟨n1, c0, g1, g2, g3, g4⟩ | ⟨n2, g⟩
      · refine k0 (fun ⟨dat, hu⟩ => ?_) _ μ1 (by rw [n0]; decide) F1
        obtain ⟨c, a1, a2, a3⟩ := fit_ftM hO hn hW hu.2.1
        exact g c (by omega) a2
      · rw [n1]
        obtain ⟨f1, f2⟩ := ftM_fit hO hn hW g2
        refine k1 (fun i => fC n V c0 (2 + i)) μ1 ⟨by show PKq (KK n V) (fm 4 + 2) ≤ 4096; rw [← eP]; exact hp, f1, fun dat' hf i hi => ?_⟩ (fun b hb => by rw [g3 b (by omega), f2 b hb]) F1
        obtain ⟨c, a1, a2, a3⟩ := fit_ftM hO hn hW hf
        rw [← a3 i hi, g4 c (by omega) a2]
      · rw [n2]
        exact two ρ μ1 (by omega) F1 g
    | succ e ih =>
      intro ρ N μ1 hρ F1 K1 hI
      have hN : N ≤ 2 := by rcases hI with ⟨a, _⟩ | ⟨a, _⟩ | ⟨a, _⟩ <;> omega
      refine u_X12_mends_114 (br_f (nI_ge (by omega) (by omega)) (br_f (nI_nlt (a := 4096) hp (by decide)) (pk_le 2 N (fun h2 => ?_) (fun h2 => ?_))))
      · rcases hI with ⟨a, _⟩ | ⟨a, _⟩ | ⟨a, g⟩
        · omega
        · omega
        · rw [a]; exact two ρ μ1 (by omega) F1 g
      · have lfl : ∀ b, lfq (kK n V) ρ b ≤ ρ := fun b => by rw [lfq_div]; exact Nat.div_le_self _ _
        have lp : ∀ t b (μ2 : mH), b + t = 4 + fm 4 → Fr [54, 57, 58, 59] μ μ2 → KSM n V (4 + fm 4) μ2 → (∀ b, μ2 57 0 b = μ1 57 0 b) → (∀ b', b' < b → μ2 54 0 b' = nI (fC n V ρ b')) → aw Γ M_X12_mends 137 [aR 12 0, aI (nI (PKq (kK n V) (4 + fm 4))), aI (nI N), aI (nI ρ), aI (nI (lfq (kK n V) ρ b)), aI (nI b)] [] μ2 (rI Q) := by
          intro t
          induction t with
          | zero =>
            intro b μ2 hb F2 K2 h57 h54
            obtain rfl : b = 4 + fm 4 := by omega
            have em : (4 : Int32) + μ2 42 0 4 = nI (4 + fm 4) := by rw [Fr_at F2 (by decide), hF.2.2.2.2.1]; exact nI_add 4 _
            have I2 : GI fm n V N ρ μ2 := by
              rcases hI with g | ⟨n1, c0, g1, g2, g3, g4⟩ | g
              · exact Or.inl g
              · exact Or.inr (Or.inl ⟨n1, c0, g1, g2, fun b hb => by rw [h57]; exact g3 b hb, g4⟩)
              · exact Or.inr (Or.inr g)
            refine u_X12_mends_137 (u_X12_many ?_)
            rw [em]
            refine br_t (nI_le (Nat.le_refl _) (by omega)) (m_sumOf hO (FMM_fr hF F2 (by decide)) (fun j _ => lt ρ j) (fun j hj => h54 j (by omega)) (u_X12_many ?_))
            rw [em, show nI (4 + fm 4) - (2 : Int32) = nI (4 + fm 4 - 2) from pk_sub (b := 2) (by omega), show 4 + fm 4 - 2 = 2 + fm 4 by omega]
            refine ⟨vp_in_nI (by omega) (by decide), u_X12_many ?_⟩
            rw [em, show nI (4 + fm 4) - (1 : Int32) = nI (4 + fm 4 - 1) from pk_sub (b := 1) (by omega), show 4 + fm 4 - 1 = 3 + fm 4 by omega, tn_nI (by omega), tn_nI (by omega), h54 (2 + fm 4) (by omega), h54 (3 + fm 4) (by omega), show (256 : Int32) * nI (fC n V ρ (2 + fm 4)) = nI (256 * fC n V ρ (2 + fm 4)) from pk_mul 256 _, nI_add]
            have l1 := lt ρ (2 + fm 4)
            have l2 := lt ρ (3 + fm 4)
            have l3 := sm_lt hO (2 + fm 4) (fun j _ => lt ρ j)
            refine ⟨vp_in_nI (by omega) (by decide), fun z => ?_, fun z => ?_⟩
            · have hfit : ftM fm n V ρ := (nI_eq (by omega) (by omega)).mp z
              rw [nI_1 N]
              have lp2 : ∀ t2 b2 (μ3 : mH), b2 + t2 = 4 + fm 4 → Fr [54, 57, 58, 59] μ μ3 → KSM n V (4 + fm 4) μ3 → (∀ b', b' < 4 + fm 4 → μ3 54 0 b' = nI (fC n V ρ b')) → (∀ b', b' < b2 → μ3 57 0 b' = nI (fC n V ρ b')) → aw Γ M_X12_mends 235 [aR 12 0, aI (nI (PKq (kK n V) (4 + fm 4))), aI (nI (N + 1)), aI (nI ρ), aX, aI (nI b2)] [] μ3 (rI Q) := by
                intro t2
                induction t2 with
                | zero =>
                  intro b2 μ3 hb2 F3 K3 g54 g57
                  obtain rfl : b2 = 4 + fm 4 := by omega
                  refine u_X12_mends_235 (u_X12_many ?_)
                  rw [Fr_at F3 (by decide), hF.2.2.2.2.1, show (4 : Int32) + nI (fm 4) = nI (4 + fm 4) from nI_add 4 _, nI_1 ρ]
                  refine br_t (nI_le (Nat.le_refl _) (by omega)) (ih (ρ + 1) (N + 1) μ3 (by omega) F3 K3 ?_)
                  rcases I2 with ⟨n0, g⟩ | ⟨n1, c0, g1, g2, g3, g4⟩ | ⟨n2, _⟩
                  · refine Or.inr (Or.inl ⟨by omega, ρ, by omega, hfit, g57, fun c hc hf => ?_⟩)
                    by_cases y : c = ρ
                    · exact y
                    · exact absurd hf (g c (by omega))
                  · exact Or.inr (Or.inr ⟨by omega, c0, ρ, by omega, by omega, by omega, g2, hfit⟩)
                  · omega
                | succ t2 ih2 =>
                  intro b2 μ3 hb2 F3 K3 g54 g57
                  refine u_X12_mends_235 (u_X12_many ?_)
                  rw [Fr_at F3 (by decide), hF.2.2.2.2.1, show (4 : Int32) + nI (fm 4) = nI (4 + fm 4) from nI_add 4 _, tn_nI (by omega), g54 b2 (by omega), nI_1 b2]
                  refine br_f (nI_ge (by omega) (by omega)) ⟨vp_in_nI (by omega) (by decide), vp_in_nI (by omega) (by decide), ih2 (b2 + 1) _ (by omega) (Fr_st2 F3 (by decide)) (fun b' hb' => ⟨by rw [sto_K (by decide)]; exact (K3 b' hb').1, fun j hj => by rw [sto_K (by decide)]; exact (K3 b' hb').2 j hj⟩) (fun b' hb' => by rw [sto_K (by decide)]; exact g54 b' hb') (fun b' hb' => ?_)⟩
                  by_cases y : b' = b2
                  · subst y; exact sto_eq
                  · rw [sto_s y]; exact g57 b' (by omega)
              exact lp2 (4 + fm 4) 0 μ2 (Nat.zero_add _) F2 K2 h54 (fun b' hb' => absurd hb' (by omega))
            · have hno : ¬ ftM fm n V ρ := fun y => z (by rw [← y])
              rw [nI_1 ρ]
              refine ih (ρ + 1) N μ2 (by omega) F2 K2 ?_
              have cut : ∀ c, c < ρ + 1 → ftM fm n V c → c < ρ := fun c hc hf => by
                by_cases y : c = ρ
                · subst y; exact absurd hf hno
                · omega
              rcases I2 with ⟨n0, g⟩ | ⟨n1, c0, g1, g2, g3, g4⟩ | ⟨n2, c1, c2, g1, g2, g3⟩
              · exact Or.inl ⟨n0, fun c hc hf => g c (cut c hc hf) hf⟩
              · exact Or.inr (Or.inl ⟨n1, c0, by omega, g2, g3, fun c hc hf => g4 c (cut c hc hf) hf⟩)
              · exact Or.inr (Or.inr ⟨n2, c1, c2, by omega, by omega, g3⟩)
          | succ t iht =>
            intro b μ2 hb F2 K2 h57 h54
            obtain ⟨q1, q2⟩ := K2 b (by omega)
            have kp := kK_pos (V := V) (i := b) hn
            have kb := kl b
            have lb := lfl b
            have lm := Nat.mod_lt (lfq (kK n V) ρ b) kp
            refine u_X12_mends_137 (u_X12_many ?_)
            rw [Fr_at F2 (by decide), hF.2.2.2.2.1, show (4 : Int32) + nI (fm 4) = nI (4 + fm 4) from nI_add 4 _, tn_nI (show b < 2 ^ 31 by omega), q1, pk_rem (by omega) kp (by omega), pk_div (by omega) kp (by omega), show (80 : Int32) * nI b = nI (80 * b) from pk_mul 80 _, nI_add, tn_nI (by omega), q2 _ lm, nI_1 b]
            refine br_f (nI_ge (by omega) (by omega)) ⟨vp_in_nI (by omega) (by decide), nI_ne0 kp (by omega), vp_in_nI (by omega) (by decide), vp_in_nI (by omega) (by decide), vp_in_nI (by omega) (by decide), nI_ne0 kp (by omega), iht (b + 1) _ (by omega) (Fr_st2 F2 (by decide)) (fun b' hb' => ⟨by rw [sto_K (by decide)]; exact (K2 b' hb').1, fun j hj => by rw [sto_K (by decide)]; exact (K2 b' hb').2 j hj⟩) (fun b' => by rw [sto_K (by decide)]; exact h57 b') (fun b' hb' => ?_)⟩
            by_cases y : b' = b
            · subst y; exact sto_eq
            · rw [sto_s y]; exact h54 b' (by omega)
        exact lp (4 + fm 4) 0 μ1 (Nat.zero_add _) F1 K1 (fun _ => rfl) (fun b' hb' => absurd hb' (by omega))
  -- the kinds
  have lpk : ∀ d b (μ1 : mH), b + d = 4 + fm 4 → Fr [54, 57, 58, 59] μ μ1 → KSM n V b μ1 → aw Γ M_X12_mends 4 [aR 12 0, aI (nI (alq (kK n V) b)), aI (nI b), aX, aX, aX] [] μ1 (rI Q) := by
    intro d
    induction d with
    | zero =>
      intro b μ1 hb F1 K1
      obtain rfl : b = 4 + fm 4 := by omega
      refine u_X12_mends_4 (u_X12_many ?_)
      rw [Fr_at F1 (by decide), hF.2.2.2.2.1, show (4 : Int32) + nI (fm 4) = nI (4 + fm 4) from nI_add 4 _]
      refine br_t (nI_le (Nat.le_refl _) (by omega)) ?_
      by_cases hp : PKq (kK n V) (4 + fm 4) ≤ 4096
      · rw [al.1 hp]
        exact main hp _ 0 0 μ1 (Nat.zero_add _) F1 K1 (Or.inl ⟨rfl, fun c hc => absurd hc (by omega)⟩)
      · have h2 := al.2 hp
        have q : Q (nI 0) μ1 := k0 (fun ⟨dat, hu⟩ => hp (by rw [eP]; exact hu.1)) _ μ1 (by decide) F1
        exact u_X12_mends_114 ⟨fun _ => q, fun _ => ⟨fun _ => q, fun z => absurd (nI_lt (a := 4096) (by omega) (by omega)) z⟩⟩
    | succ d ih =>
      intro b μ1 hb F1 K1
      refine u_X12_mends_4 (u_X12_many ?_)
      rw [Fr_at F1 (by decide), hF.2.2.2.2.1, show (4 : Int32) + nI (fm 4) = nI (4 + fm 4) from nI_add 4 _, tn_nI (by omega)]
      refine br_f (nI_ge (by omega) (by omega)) ⟨vp_in_nI (by omega) (by decide), ?_⟩
      have lp2 : ∀ d2 c (μ2 : mH), c + d2 = n → Fr [54, 57, 58, 59] μ μ2 → KSM n V b μ2 → μ2 59 0 b = nI (fb_ct (kD V b) c) → (∀ j, j < fb_ct (kD V b) c → μ2 58 0 (80 * b + j) = nI (kv n V b j)) → aw Γ M_X12_mends 21 [aR 12 0, aI (nI (alq (kK n V) b)), aI (nI b), aI (nI c), aX, aX] [] μ2 (rI Q) := by
        intro d2
        induction d2 with
        | zero =>
          intro c μ2 hc F2 K2 b0 bj
          obtain rfl : c = n := by omega
          have kb := kl b
          have ab := all b
          have go := ih (b + 1) μ2 (by omega) F2 (fun b' hb' => by
            by_cases e : b' = b
            · subst e; exact ⟨b0, bj⟩
            · exact K2 b' (by omega))
          have ea : alq (kK c V) (b + 1) = if alq (kK c V) b ≤ 4096 then alq (kK c V) b * kK c V b else alq (kK c V) b := rfl
          rw [ea] at go
          refine u_X12_mends_21 ?_
          rw [Fr_at F2 (by decide), hC.1, tn_nI (by omega), b0, pk_mul, nI_1]
          refine br_t (nI_le (Nat.le_refl _) (by omega)) (pk_le (alq (kK c V) b) 4096 (fun q => ⟨vp_in_nI (by omega) (by decide), ?_⟩) (fun q => ?_))
          · rw [if_pos q] at go; exact go
          · rw [if_neg (by omega)] at go; exact go
        | succ d2 ih2 =>
          intro c μ2 hc F2 K2 b0 bj
          have hle := fb_ct_le (kD V b) c
          have es := fb_ct_succ (kD V b) c
          have C2 := CPM_fr hC F2 (Fr_at F2 (by decide) _ _) (by decide) (by decide)
          refine u_X12_mends_21 ?_
          rw [C2.1, nI_1 c]
          refine br_f (nI_ge (by omega) (by omega)) (m_isAhead hO hn8 hV C2 (by omega) (by omega) (fun q => ⟨fun z => absurd z (by decide), fun _ => ?_⟩) (fun q => ⟨fun _ => ?_, fun z => absurd rfl z⟩))
          · rw [q] at es
            exact ih2 (c + 1) μ2 (by omega) F2 K2 (by rw [es]; exact b0) (by rw [es]; exact bj)
          · rw [q] at es
            rw [tn_nI (show b < 2 ^ 31 by omega), b0, show (80 : Int32) * nI b = nI (80 * b) from pk_mul 80 _, show (12 : Int32) * nI c = nI (12 * c) from pk_mul 12 _, nI_add, nI_add, tn_nI (by omega), tn_nI (by omega), (C2.2 c (by omega)).1 b (by omega), nI_1]
            refine ⟨vp_in_nI (by omega) (by decide), vp_in_nI (by omega) (by decide), vp_in_nI (by omega) (by decide), vp_in_nI (by omega) (by decide), vp_in_nI (by omega) (by decide), ih2 (c + 1) _ (by omega) (Fr_st2 (Fr_st2 F2 (by decide)) (by decide)) (fun b' hb' => ?_) (by rw [sto_eq, es]; rfl) (fun j hj => ?_)⟩
            · obtain ⟨u1, u2⟩ := K2 b' hb'
              have kb := kl b'
              exact ⟨by rw [sto_s (by omega), sto_K (by decide)]; exact u1, fun j hj => by rw [sto_K (by decide), sto_s (by omega)]; exact u2 j hj⟩
            · rw [sto_K (by decide)]
              rw [es] at hj
              by_cases e : j = fb_ct (kD V b) c
              · subst e
                rw [sto_eq, kv_at (by omega) q]
              · rw [sto_s (by omega)]
                exact bj j (by simp at hj; omega)
      exact lp2 n 0 _ (Nat.zero_add _) (Fr_st2 F1 (by decide)) (fun b' hb' => ⟨by rw [sto_s (by omega)]; exact (K1 b' hb').1, fun j hj => by rw [sto_K (by decide)]; exact (K1 b' hb').2 j hj⟩) sto_eq (fun j hj => absurd hj (by show ¬ j < 0; omega))
  exact u_X12_mends (lpk (4 + fm 4) 0 μ (Nat.zero_add _) Fr_rf (fun b hb => absurd hb (by omega)))
end PMN
