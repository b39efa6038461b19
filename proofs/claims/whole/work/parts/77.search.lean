def mv (b : Nat → Nat) (i : Nat) : Nat → Nat
  | 0 => 0
  | k + 1 => 2 * mv b i k + b (i + k)
def mkq (b : Nat → Nat) (M i : Nat) : Bool := decide (mv b i 16 = M)
def qi (b : Nat → Nat) (M W : Nat) : Nat → Nat
  | 0 => 0
  | j + 1 => if mkq b M (qi b M W j) then qi b M W j + W else qi b M W j + 1
def qk (b : Nat → Nat) (M W : Nat) : Nat → Nat
  | 0 => 0
  | j + 1 => if mkq b M (qi b M W j) then qk b M W j + 1 else qk b M W j
def qp (b : Nat → Nat) (M W : Nat) : Nat → Nat → Nat
  | 0 => fun _ => 0
  | j + 1 => if mkq b M (qi b M W j) then up (qp b M W j) (qk b M W j) (qi b M W j + 16) else qp b M W j
def qst (b : Nat → Nat) (M W nb j : Nat) : Bool := decide (nb < qi b M W j + W) || decide (qk b M W j = 8)
def qe (b : Nat → Nat) (M W nb : Nat) : Nat := fa_first (qst b M W nb) (nb + 1)
def fW (fm : Nat → Nat) : Nat := 16 + 16 * (4 + fm 4)
def FN (fm b : Nat → Nat) (nb : Nat) : Nat := qk b (fm 3) (fW fm) (qe b (fm 3) (fW fm) nb)
def FP (fm b : Nat → Nat) (nb : Nat) : Nat → Nat := qp b (fm 3) (fW fm) (qe b (fm 3) (fW fm) nb)
theorem mv_lt {b : Nat → Nat} (hb : ∀ j, b j ≤ 1) (i : Nat) : ∀ k, mv b i k < 2 ^ k
  | 0 => by show 0 < 2 ^ 0; decide
  | k + 1 => by
    have h := mv_lt hb i k
    have h2 := hb (i + k)
    show 2 * mv b i k + b (i + k) < 2 ^ (k + 1)
    rw [Nat.pow_succ]
    omega
theorem qi_ge (b : Nat → Nat) (M W : Nat) (hW : 1 ≤ W) : ∀ j, j ≤ qi b M W j
  | 0 => Nat.le_refl _
  | j + 1 => by
    have h := qi_ge b M W hW j
    unfold qi
    split <;> omega
theorem qe_le (b : Nat → Nat) (M W nb : Nat) (hW : 1 ≤ W) : qe b M W nb ≤ nb := by
  have h1 := fa_first_le (qst b M W nb) (nb + 1)
  by_cases c : qe b M W nb ≤ nb
  · exact c
  · have := fa_first_no (qst b M W nb) (nb + 1) nb (by unfold qe at c; omega)
    have h2 := qi_ge b M W hW nb
    simp [qst] at this
    omega
theorem qe_stop (b : Nat → Nat) (M W nb : Nat) (hW : 1 ≤ W) : qst b M W nb (qe b M W nb) = true := by
  have h := qe_le b M W nb hW
  exact fa_first_yes (qst b M W nb) (nb + 1) (by unfold qe at h; omega)
theorem qe_go {b : Nat → Nat} {M W nb j : Nat} (h : j < qe b M W nb) : qi b M W j + W ≤ nb ∧ qk b M W j ≠ 8 := by
  have := fa_first_no (qst b M W nb) (nb + 1) j h
  simp [qst] at this
  omega
theorem qe_eq {b : Nat → Nat} {M W nb j : Nat} (h : j ≤ qe b M W nb) (hs : nb < qi b M W j + W ∨ qk b M W j = 8) : j = qe b M W nb := by
  by_cases c : j = qe b M W nb
  · exact c
  · have := qe_go (show j < qe b M W nb by omega)
    omega
theorem qk_le {b : Nat → Nat} {M W nb : Nat} : ∀ j, j ≤ qe b M W nb → qk b M W j ≤ 8
  | 0, _ => by show 0 ≤ 8; decide
  | j + 1, h => by
    have h1 := qk_le (b := b) (M := M) (W := W) (nb := nb) j (by omega)
    have h2 := (qe_go (show j < qe b M W nb by omega)).2
    unfold qk
    split <;> omega
theorem FN_le (fm b : Nat → Nat) (nb : Nat) : FN fm b nb ≤ 8 := qk_le _ (Nat.le_refl _)
/-- what lies in a place holds there -/
theorem qp_in {b : Nat → Nat} {M W nb : Nat} (hW : 16 ≤ W) : ∀ j, j ≤ qe b M W nb → ∀ k, k < qk b M W j → 16 ≤ qp b M W j k ∧ qp b M W j k + W ≤ nb + 16
  | 0, _, k, hk => absurd hk (by show ¬ k < 0; omega)
  | j + 1, h, k, hk => by
    have h1 := qp_in (b := b) (M := M) (W := W) (nb := nb) hW j (by omega) k
    have h2 := (qe_go (show j < qe b M W nb by omega)).1
    unfold qp
    unfold qk at hk
    split
    · rename_i c
      rw [if_pos c] at hk
      by_cases z : k = qk b M W j
      · rw [z, up_eq]; omega
      · rw [up_ne _ z]; exact h1 (by omega)
    · rename_i c
      rw [if_neg c] at hk
      exact h1 hk
def FDC (fm b : Nat → Nat) (nb t : Nat) (μ : mH) : Prop := μ 1 t 1 = nI (FN fm b nb) ∧ ∀ k, k < FN fm b nb → SEC fm b (FP fm b nb k) (8 * t + k) μ
def WN (b : Nat → Nat) (at' h w : Nat) : Prop := w < 65536 ∧ ∀ i, i ≤ 16 → i ≤ h → w % 2 ^ i = mv b (at' - i) i
theorem WN_step {b : Nat → Nat} (hb : ∀ j, b j ≤ 1) {a h w : Nat} (hh : h ≤ a) (H : WN b a h w) : WN b (a + 1) (h + 1) ((2 * w + b a) % 65536) := by
  refine ⟨Nat.mod_lt _ (by decide), fun i hi hh1 => ?_⟩
  cases i with
  | zero => show _ % 1 = 0; omega
  | succ i =>
    have e := H.2 i (by omega) (by omega)
    have e1 : (2 * w + b a) % 65536 % 2 ^ (i + 1) = (2 * w + b a) % 2 ^ (i + 1) := Nat.mod_mod_of_dvd _ (by rw [show 65536 = 2 ^ 16 from rfl]; exact Nat.pow_dvd_pow 2 hi)
    have hb1 := hb a
    rw [e1, Nat.pow_succ]
    show _ = 2 * mv b (a + 1 - (i + 1)) i + b (a + 1 - (i + 1) + i)
    rw [show a + 1 - (i + 1) = a - i by omega, show a - i + i = a by omega, ← e]
    have hp := Nat.two_pow_pos i
    have h1 : (2 * w + b a) % (2 ^ i * 2) = 2 * (w % 2 ^ i) + b a := by
      have hd := Nat.div_add_mod w (2 ^ i)
      have hl := Nat.mod_lt w hp
      have : 2 * w + b a = (2 ^ i * 2) * (w / 2 ^ i) + (2 * (w % 2 ^ i) + b a) := by
        rw [Nat.mul_assoc, Nat.mul_left_comm]
        omega
      rw [this, Nat.mul_add_mod, Nat.mod_eq_of_lt (by omega)]
    exact h1
theorem SEC_at {fm b : Nat → Nat} {p q : Nat} {μ μ' : mH} (h : SEC fm b p q μ) (h7 : μ' 7 q = μ 7 q) (h24 : μ' 24 q = μ 24 q) : SEC fm b p q μ' := by
  unfold SEC
  rw [h7, h24]
  exact h
section PSE
variable {Γ : cx_T}
theorem search_lp {t nb : Nat} {fm b : Nat → Nat} {μ0 : mH} {Q : mH → Prop} (hO : OKF fm) (hF : FMC 1 fm μ0) (hB : BC nb b μ0) (hb : ∀ j, b j ≤ 1) (hn : nb ≤ 2560)
    (kk : ∀ μ', FDC fm b nb t μ' → Fr [1, 7, 24] μ0 μ' → (∀ t', t' ≠ t → μ' 1 t' = μ0 1 t') → (∀ q, q / 8 ≠ t → μ' 7 q = μ0 7 q ∧ μ' 24 q = μ0 24 q) → Q μ') :
    ∀ (d a h w j : Nat) (μ : mH), nb ≤ a + d → a ≤ 3000 → h ≤ a → j ≤ qe b (fm 3) (fW fm) nb → a = qi b (fm 3) (fW fm) j + min h 15 → WN b a h w → Fr [1, 7, 24] μ0 μ → (∀ t', t' ≠ t → μ 1 t' = μ0 1 t') → (∀ q, q / 8 ≠ t → μ 7 q = μ0 7 q ∧ μ 24 q = μ0 24 q) → μ 1 t 1 = nI (qk b (fm 3) (fW fm) j) → (∀ k, k < qk b (fm 3) (fW fm) j → SEC fm b (qp b (fm 3) (fW fm) j k) (8 * t + k) μ) → aw Γ M_X1_search 24 [aR 1 t, aR 5 0, aR 4 1, aI (nI (16 * (4 + fm 4))), aI (nI w), aI (nI h), aI (nI a)] [] μ (rV Q) := by
  have hO0 := hO
  obtain ⟨o1, o2, o3, o4, o5, o6, o7, o8, o9, o10⟩ := hO
  have fin : ∀ (j : Nat) (μ : mH), j ≤ qe b (fm 3) (fW fm) nb → (nb < qi b (fm 3) (fW fm) j + fW fm ∨ qk b (fm 3) (fW fm) j = 8) → Fr [1, 7, 24] μ0 μ → (∀ t', t' ≠ t → μ 1 t' = μ0 1 t') → (∀ q, q / 8 ≠ t → μ 7 q = μ0 7 q ∧ μ 24 q = μ0 24 q) → μ 1 t 1 = nI (qk b (fm 3) (fW fm) j) → (∀ k, k < qk b (fm 3) (fW fm) j → SEC fm b (qp b (fm 3) (fW fm) j k) (8 * t + k) μ) → Q μ := by
    intro j μ hj hs Fa ht hq h1 hS
    have e := qe_eq hj hs
    subst e
    exact kk μ ⟨h1, hS⟩ Fa ht hq
  have eW : fW fm = 16 + 16 * (4 + fm 4) := rfl
  intro d
  induction d with
  | zero =>
    intro a h w j μ hd ha hh hj ea hw Fa ht hq h1 hS
    refine u_X1_search_24 ?_
    rw [(BC_fr hB Fa (by decide) (by decide)).1, nI_add]
    exact br_t (nI_le (by omega) (by omega)) (fin j μ hj (Or.inl (by omega)) Fa ht hq h1 hS)
  | succ d ih =>
    intro a h w j μ hd ha hh hj ea hw Fa ht hq h1 hS
    have B1 := BC_fr hB Fa (by decide) (by decide)
    have hk8 := qk_le j hj
    refine u_X1_search_24 ?_
    rw [B1.1, nI_add, h1]
    refine pk_le nb (a + 16 * (4 + fm 4)) (fun c => fin j μ hj (Or.inl (by omega)) Fa ht hq h1 hS) (fun c => pk_le 8 (qk b (fm 3) (fW fm) j) (fun c2 => fin j μ hj (Or.inr (by omega)) Fa ht hq h1 hS) (fun c2 => ⟨vp_in_nI (by omega) (by decide), ?_⟩))
    have ew : ((nI w <<< ((1 : Int32) &&& 31)) ||| μ 22 0 (tn (nI a))) &&& (65535 : Int32) = nI ((2 * w + b a) % 65536) := by
      have := hw.1
      have := hb a
      rw [tn_nI (by omega), B1.2 a (by omega), shl1 (by omega) (hb a), pk_andN (by omega) 16 (by decide)]
    have hw2 := WN_step hb hh hw
    rw [ew, nI_1, nI_1]
    refine pk_lt (h + 1) 16 (fun c3 => ?_) (fun c3 => ?_)
    · exact ih (a + 1) (h + 1) _ j μ (by omega) (by omega) (by omega) hj (by omega) hw2 Fa ht hq h1 hS
    · have hjlt : j < qe b (fm 3) (fW fm) nb := by
        by_cases z : j = qe b (fm 3) (fW fm) nb
        · have s := qe_stop b (fm 3) (fW fm) nb (by omega)
          rw [← z] at s
          simp [qst] at s
          omega
        · omega
      have em : (2 * w + b a) % 65536 = mv b (qi b (fm 3) (fW fm) j) 16 := by
        have e := hw2.2 16 (by decide) c3
        rw [show a + 1 - 16 = qi b (fm 3) (fW fm) j by omega, Nat.mod_eq_of_lt hw2.1] at e
        exact e
      have F3 : μ 4 1 3 = nI (fm 3) := by rw [Fr_at Fa (by decide)]; exact hF 3 (by decide) (by decide)
      rw [F3]
      have hlt := hw2.1
      have ei : qi b (fm 3) (fW fm) (j + 1) = if mkq b (fm 3) (qi b (fm 3) (fW fm) j) then qi b (fm 3) (fW fm) j + fW fm else qi b (fm 3) (fW fm) j + 1 := rfl
      have ek : qk b (fm 3) (fW fm) (j + 1) = if mkq b (fm 3) (qi b (fm 3) (fW fm) j) then qk b (fm 3) (fW fm) j + 1 else qk b (fm 3) (fW fm) j := rfl
      have ep : qp b (fm 3) (fW fm) (j + 1) = if mkq b (fm 3) (qi b (fm 3) (fW fm) j) then up (qp b (fm 3) (fW fm) j) (qk b (fm 3) (fW fm) j) (qi b (fm 3) (fW fm) j + 16) else qp b (fm 3) (fW fm) j := rfl
      refine ⟨fun z => ?_, fun z => ?_⟩
      · have q : mkq b (fm 3) (qi b (fm 3) (fW fm) j) = false := by
          simp [mkq]
          intro y
          exact z (by rw [em, y])
        simp only [q, Bool.false_eq_true, if_false] at ei ek ep
        exact ih (a + 1) (h + 1) _ (j + 1) μ (by omega) (by omega) (by omega) (by omega) (by omega) hw2 Fa ht hq (by rw [ek]; exact h1) (by rw [ek, ep]; exact hS)
      · have z := (nI_eq (by omega) (by omega)).mp z
        have q : mkq b (fm 3) (qi b (fm 3) (fW fm) j) = true := by
          simp [mkq]
          rw [← em, z]
        simp only [q, if_true] at ei ek ep
        refine ⟨vp_in_nI (by omega) (by decide), ?_⟩
        rw [tn_nI (by omega), show a + 1 = qi b (fm 3) (fW fm) j + 16 by omega]
        refine c_take hO0 (FMC_fr hF Fa (by decide)) B1 hb hn (by omega) (fun μ1 S1 F1 q1 => ?_)
        have e1 : μ1 1 t 1 = nI (qk b (fm 3) (fW fm) j) := by rw [Fr_at F1 (by decide)]; exact h1
        rw [e1, nI_1, nI_1, show a + 16 * (4 + fm 4) + 1 = qi b (fm 3) (fW fm) (j + 1) by omega]
        have c7 : ∀ q', (sto μ1 1 t 1 (nI (qk b (fm 3) (fW fm) j + 1))) 7 q' = μ1 7 q' := fun q' => by funext s; exact sto_K (by decide)
        have c24 : ∀ q', (sto μ1 1 t 1 (nI (qk b (fm 3) (fW fm) j + 1))) 24 q' = μ1 24 q' := fun q' => by funext s; exact sto_K (by decide)
        have hwz : WN b (qi b (fm 3) (fW fm) (j + 1)) 0 ((2 * w + b a) % 65536) := ⟨hlt, fun i _ hi => by
          obtain rfl : i = 0 := by omega
          show _ % 1 = 0
          omega⟩
        refine ih (qi b (fm 3) (fW fm) (j + 1)) 0 _ (j + 1) _ (by omega) (by omega) (by omega) (by omega) (by omega) hwz (Fr_st2 (Fr_tr Fa (Fr_mono F1 (by decide))) (by decide)) (fun t' y => ?_) (fun q' y => ?_) (by rw [ek]; exact sto_eq) (fun k hk => ?_)
        · rw [← ht t' y]
          funext s
          rw [sto_i y, F1 1 (by decide)]
        · obtain ⟨g1, g2⟩ := q1 q' (by omega)
          obtain ⟨g3, g4⟩ := hq q' y
          rw [c7, c24, g1, g2, g3, g4]
          exact ⟨rfl, rfl⟩
        · rw [ek] at hk
          rw [ep]
          by_cases y : k = qk b (fm 3) (fW fm) j
          · rw [y, up_eq]
            exact SEC_at S1 (c7 _) (c24 _)
          · rw [up_ne _ y]
            obtain ⟨g1, g2⟩ := q1 (8 * t + k) (by omega)
            exact SEC_at (SEC_at (hS k (by omega)) g1 g2) (c7 _) (c24 _)
theorem c_search {t nb : Nat} {fm b : Nat → Nat} {μ : mH} {Q : mH → Prop} (hO : OKF fm) (hF : FMC 1 fm μ) (hB : BC nb b μ) (hb : ∀ j, b j ≤ 1) (hn : nb ≤ 2560)
    (kk : ∀ μ', FDC fm b nb t μ' → Fr [1, 7, 24] μ μ' → (∀ t', t' ≠ t → μ' 1 t' = μ 1 t') → (∀ q, q / 8 ≠ t → μ' 7 q = μ 7 q ∧ μ' 24 q = μ 24 q) → Q μ') : cwv Γ M_X1_search [aR 1 t, aR 5 0, aR 4 1] μ Q := by
  have o6 := hO.2.2.2.2.2.1
  refine u_X1_search ?_
  rw [hF 4 (by decide) (by decide), show (4 : Int32) + nI (fm 4) = nI (4 + fm 4) from nI_add 4 _, show nI (4 + fm 4) * (16 : Int32) = nI (16 * (4 + fm 4)) by rw [show (16 : Int32) = nI 16 from rfl, pk_mul, Nat.mul_comm]]
  refine search_lp hO hF hB hb hn kk nb 0 0 0 0 _ (by omega) (by omega) (Nat.le_refl _) (Nat.zero_le _) rfl ⟨by decide, fun i _ hi => by
    obtain rfl : i = 0 := by omega
    rfl⟩ (Fr_sto (by decide)) (fun t' z => by funext s; exact sto_i z) (fun q _ => ⟨by funext s; exact sto_K (by decide), by funext s; exact sto_K (by decide)⟩) sto_eq (fun k hk => absurd hk (by show ¬ k < 0; omega))
end PSE
