/-! COPIES of a SECTOR -/
def gb (fm ml : Nat → Nat) (st : Nat → Nat → Nat) (q : Nat) : Nat → Nat := fbb fm (st (q / 8)) (ml (q / 8))
def gp (fm ml : Nat → Nat) (st : Nat → Nat → Nat) (q : Nat) : Nat := FP fm (gb fm ml st q) (fzz fm (st (q / 8)) (ml (q / 8))) (q % 8)
def gB (fm ml : Nat → Nat) (st : Nat → Nat → Nat) (q i : Nat) : Nat := sb (gb fm ml st q) (gp fm ml st q) i
def gx (fm ml : Nat → Nat) (st : Nat → Nat → Nat) (q : Nat) : Bool := decide (q % 8 < FN fm (gb fm ml st q) (fzz fm (st (q / 8)) (ml (q / 8))))
def cm (fm ml : Nat → Nat) (st : Nat → Nat → Nat) (T S q : Nat) : Bool := gx fm ml st q && (decide (gB fm ml st q (fm 8) = T) && decide (gB fm ml st q (1 - fm 8) = S))
def cRr (fm ml : Nat → Nat) (st : Nat → Nat → Nat) (q : Nat) : Bool := rg fm (gb fm ml st q) (gp fm ml st q)
def gN (fm : Nat → Nat) (nr : Nat) (ml : Nat → Nat) (st : Nat → Nat → Nat) (T S : Nat) : Nat := fb_ct (cm fm ml st T S) (8 * nr)
def gq (fm : Nat → Nat) (nr : Nat) (ml : Nat → Nat) (st : Nat → Nat → Nat) (T S c : Nat) : Nat := fa_first (fun q => cm fm ml st T S q && decide (fb_ct (cm fm ml st T S) q = c)) (8 * nr)
def gV (fm : Nat → Nat) (nr : Nat) (ml : Nat → Nat) (st : Nat → Nat → Nat) (T S c : Nat) : Nat → Nat := gB fm ml st (gq fm nr ml st T S c)
def gR (fm : Nat → Nat) (nr : Nat) (ml : Nat → Nat) (st : Nat → Nat → Nat) (T S c : Nat) : Bool := cRr fm ml st (gq fm nr ml st T S c)
theorem nth_at {p : Nat → Bool} {N q : Nat} (hq : q < N) (h : p q = true) : fa_first (fun k => p k && decide (fb_ct p k = fb_ct p q)) N = q := by
  have hlt : fa_first (fun k => p k && decide (fb_ct p k = fb_ct p q)) N < N := by
    by_cases c : fa_first (fun k => p k && decide (fb_ct p k = fb_ct p q)) N < N
    · exact c
    · have := fa_first_no (fun k => p k && decide (fb_ct p k = fb_ct p q)) N q (by omega)
      simp [h] at this
  have hy := fa_first_yes _ N hlt
  simp only [Bool.and_eq_true, decide_eq_true_eq] at hy
  exact fb_ct_kth_one hy.1 h hy.2
theorem nth_in {p : Nat → Bool} {N c : Nat} (hc : c < fb_ct p N) : fa_first (fun k => p k && decide (fb_ct p k = c)) N < N ∧ p (fa_first (fun k => p k && decide (fb_ct p k = c)) N) = true ∧ fb_ct p (fa_first (fun k => p k && decide (fb_ct p k = c)) N) = c := by
  obtain ⟨q, h1, h2, h3⟩ := fb_ct_kth hc
  have e := nth_at h1 h2
  rw [h3] at e
  rw [e]
  exact ⟨h1, h2, h3⟩
theorem nth_ct (p r : Nat → Bool) (N : Nat) : ∀ m, m ≤ N → fb_ct (fun q => p q && r q) m = fb_ct (fun c => r (fa_first (fun k => p k && decide (fb_ct p k = c)) N)) (fb_ct p m)
  | 0, _ => rfl
  | m + 1, h => by
    rw [fb_ct_succ, fb_ct_succ, nth_ct p r N m (by omega)]
    by_cases c : p m = true
    · rw [c]
      simp only [if_true, Bool.true_and]
      rw [fb_ct_succ, nth_at (show m < N by omega) c]
    · have c : p m = false := by simpa using c
      rw [c]
      simp
theorem gN_le {fm : Nat → Nat} {nr : Nat} {ml : Nat → Nat} {st : Nat → Nat → Nat} {T S : Nat} (h : nr ≤ 10) : gN fm nr ml st T S ≤ 80 := by
  have := fb_ct_le (cm fm ml st T S) (8 * nr)
  unfold gN
  omega
theorem cm_t {fm ml : Nat → Nat} {st : Nat → Nat → Nat} {T S q : Nat} (h : cm fm ml st T S q = true) : q % 8 < FN fm (gb fm ml st q) (fzz fm (st (q / 8)) (ml (q / 8))) ∧ gB fm ml st q (fm 8) = T ∧ gB fm ml st q (1 - fm 8) = S := by
  unfold cm gx at h
  rw [Bool.and_eq_true, Bool.and_eq_true] at h
  exact ⟨of_decide_eq_true h.1, of_decide_eq_true h.2.1, of_decide_eq_true h.2.2⟩
/-- n copies with their bytes; r tells which are right -/
def CPV (fm : Nat → Nat) (T S n : Nat) (V : Nat → Nat → Nat) (r : Nat → Bool) : Prop := n ≤ 80 ∧ ∀ c, c < n → (∀ i, V c i < 256) ∧ V c (fm 8) = T ∧ V c (1 - fm 8) = S ∧ r c = decide (256 * V c (2 + fm 4) + V c (3 + fm 4) = sm fm (V c) (2 + fm 4))
def CPC (fm : Nat → Nat) (n : Nat) (V : Nat → Nat → Nat) (r : Nat → Bool) (μ : mH) : Prop := μ 3 0 0 = nI n ∧ μ 3 0 1 = nI (fb_ct r n) ∧ ∀ c, c < n → ∃ q, q < 80 ∧ cpo (μ 26 0 c) = some q ∧ (∀ i, i < fm 4 → μ 24 q i = nI (V c (2 + i))) ∧ μ 7 q 3 = nI (256 * V c (2 + fm 4) + V c (3 + fm 4)) ∧ μ 7 q 4 = nI (sm fm (V c) (2 + fm 4))
def CPM (fm : Nat → Nat) (n : Nat) (V : Nat → Nat → Nat) (r : Nat → Bool) (μ : mH) : Prop := μ 12 0 26 = nI n ∧ ∀ c, c < n → (∀ i, i < 4 + fm 4 → μ 55 0 (12 * c + i) = nI (V c i)) ∧ μ 56 0 c = nI (if r c then 1 else 0)
theorem g_CPV {fm : Nat → Nat} {nr : Nat} {ml : Nat → Nat} {st : Nat → Nat → Nat} {T S : Nat} (h : nr ≤ 10) : CPV fm T S (gN fm nr ml st T S) (gV fm nr ml st T S) (gR fm nr ml st T S) := by
  refine ⟨gN_le h, fun c hc => ?_⟩
  obtain ⟨h1, h2, h3⟩ := nth_in hc
  refine ⟨fun i => sb_lt (rbt_le _ _ _ _) _ _, ?_, ?_, rfl⟩
  · exact (cm_t h2).2.1
  · exact (cm_t h2).2.2
theorem ct_flat {p : Nat → Bool} {a : Nat} : ∀ d, (∀ k, a ≤ k → k < a + d → p k = false) → fb_ct p (a + d) = fb_ct p a
  | 0, _ => rfl
  | d + 1, h => by
    rw [← Nat.add_assoc, fb_ct_succ, ct_flat d (fun k h1 h2 => h k h1 (by omega)), h (a + d) (by omega) (by omega)]
    rfl
theorem cm_out {fm ml : Nat → Nat} {st : Nat → Nat → Nat} {T S r k : Nat} (hk : FN fm (fbb fm (st r) (ml r)) (fzz fm (st r) (ml r)) ≤ k) (h8 : k < 8) : cm fm ml st T S (8 * r + k) = false := by
  have e1 : (8 * r + k) / 8 = r := by omega
  have e2 : (8 * r + k) % 8 = k := by omega
  have : gx fm ml st (8 * r + k) = false := by
    unfold gx gb
    rw [e1, e2]
    simp
    omega
  unfold cm
  rw [this]
  rfl
theorem cm_row {fm ml : Nat → Nat} {st : Nat → Nat → Nat} {T S r : Nat} : fb_ct (cm fm ml st T S) (8 * r + FN fm (fbb fm (st r) (ml r)) (fzz fm (st r) (ml r))) = fb_ct (cm fm ml st T S) (8 * (r + 1)) := by
  have h8 := FN_le fm (fbb fm (st r) (ml r)) (fzz fm (st r) (ml r))
  have := ct_flat (p := cm fm ml st T S) (a := 8 * r + FN fm (fbb fm (st r) (ml r)) (fzz fm (st r) (ml r))) (8 - FN fm (fbb fm (st r) (ml r)) (fzz fm (st r) (ml r))) (fun k h1 h2 => by
    have := cm_out (fm := fm) (ml := ml) (st := st) (T := T) (S := S) (r := r) (k := k - 8 * r) (by omega) (by omega)
    rw [show 8 * r + (k - 8 * r) = k by omega] at this
    exact this)
  rw [← this]
  congr 1
  omega
theorem cmR_row {fm ml : Nat → Nat} {st : Nat → Nat → Nat} {T S r : Nat} : fb_ct (fun q => cm fm ml st T S q && cRr fm ml st q) (8 * r + FN fm (fbb fm (st r) (ml r)) (fzz fm (st r) (ml r))) = fb_ct (fun q => cm fm ml st T S q && cRr fm ml st q) (8 * (r + 1)) := by
  have h8 := FN_le fm (fbb fm (st r) (ml r)) (fzz fm (st r) (ml r))
  have := ct_flat (p := fun q => cm fm ml st T S q && cRr fm ml st q) (a := 8 * r + FN fm (fbb fm (st r) (ml r)) (fzz fm (st r) (ml r))) (8 - FN fm (fbb fm (st r) (ml r)) (fzz fm (st r) (ml r))) (fun k h1 h2 => by
    have := cm_out (fm := fm) (ml := ml) (st := st) (T := T) (S := S) (r := r) (k := k - 8 * r) (by omega) (by omega)
    rw [show 8 * r + (k - 8 * r) = k by omega] at this
    show (_ && _) = false
    rw [this]
    rfl)
  rw [← this]
  congr 1
  omega
section PCP
variable {Γ : cx_T}
theorem c_gather {fm : Nat → Nat} {nr T S : Nat} {dr ml : Nat → Nat} {st : Nat → Nat → Nat} {μ : mH} {Q : mH → Prop} (hT : T < 256) (hS : S < 256) (hO : OKF fm) (hR : RDC fm nr dr ml st μ) (h5 : μ 3 0 5 = nI T) (h6 : μ 3 0 6 = nI S)
    (kk : ∀ μ', CPC fm (gN fm nr ml st T S) (gV fm nr ml st T S) (gR fm nr ml st T S) μ' → Fr [3, 26] μ μ' → (∀ s, s ≠ 0 → s ≠ 1 → μ' 3 0 s = μ 3 0 s) → Q μ') : cwv Γ M_X3_gather [aR 3 0, aR 8 0] μ Q := by
  obtain ⟨r1, r2, r3⟩ := hR
  have fin : ∀ μ1, Fr [3, 26] μ μ1 → (∀ s, s ≠ 0 → s ≠ 1 → μ1 3 0 s = μ 3 0 s) → μ1 3 0 0 = nI (fb_ct (cm fm ml st T S) (8 * nr)) → μ1 3 0 1 = nI (fb_ct (fun q => cm fm ml st T S q && cRr fm ml st q) (8 * nr)) → (∀ q, q < 8 * nr → cm fm ml st T S q = true → μ1 26 0 (fb_ct (cm fm ml st T S) q) = nI (q + 1)) → Q μ1 := by
    intro μ1 F1 s1 a0 a1 aq
    refine kk μ1 ⟨a0, ?_, fun c hc => ?_⟩ F1 s1
    · rw [a1, nth_ct (cm fm ml st T S) (cRr fm ml st) (8 * nr) (8 * nr) (Nat.le_refl _)]
      rfl
    · obtain ⟨g1, g2, g3⟩ := nth_in hc
      change gq fm nr ml st T S c < 8 * nr at g1
      change cm fm ml st T S (gq fm nr ml st T S c) = true at g2
      change fb_ct (cm fm ml st T S) (gq fm nr ml st T S c) = c at g3
      show ∃ q, q < 80 ∧ cpo (μ1 26 0 c) = some q ∧ (∀ i, i < fm 4 → μ1 24 q i = nI (gB fm ml st (gq fm nr ml st T S c) (2 + i))) ∧ μ1 7 q 3 = nI (256 * gB fm ml st (gq fm nr ml st T S c) (2 + fm 4) + gB fm ml st (gq fm nr ml st T S c) (3 + fm 4)) ∧ μ1 7 q 4 = nI (sm fm (gB fm ml st (gq fm nr ml st T S c)) (2 + fm 4))
      have e := aq _ g1 g2
      rw [g3] at e
      generalize gq fm nr ml st T S c = q at *
      have hx := (cm_t g2).1
      have D := (r3 (q / 8) (by omega)).2.2.2.1.2 (q % 8) hx
      rw [show 8 * (q / 8) + q % 8 = q by omega] at D
      refine ⟨q, by omega, ?_, fun i hi => ?_, ?_, ?_⟩
      · rw [e]
        unfold cpo
        have := tn_nI (n := q + 1) (by omega)
        unfold tn at this
        rw [this, if_pos ⟨by omega, by omega⟩]
        rfl
      · rw [Fr_at F1 (by decide)]; exact D.2.2.2.2.2.2 i hi
      · rw [Fr_at F1 (by decide)]; exact D.2.2.2.1
      · rw [Fr_at F1 (by decide)]; exact D.2.2.2.2.1
  have lp : ∀ d r (μ1 : mH), r + d = nr → Fr [3, 26] μ μ1 → (∀ s, s ≠ 0 → s ≠ 1 → μ1 3 0 s = μ 3 0 s) → μ1 3 0 0 = nI (fb_ct (cm fm ml st T S) (8 * r)) → μ1 3 0 1 = nI (fb_ct (fun q => cm fm ml st T S q && cRr fm ml st q) (8 * r)) → (∀ q, q < 8 * r → cm fm ml st T S q = true → μ1 26 0 (fb_ct (cm fm ml st T S) q) = nI (q + 1)) → aw Γ M_X3_gather 12 [aR 3 0, aR 8 0, aI (nI r), aX, aX, aX] [] μ1 (rV Q) := by
    intro d
    induction d with
    | zero =>
      intro r μ1 hr F1 s1 a0 a1 aq
      obtain rfl : r = nr := by omega
      refine u_X3_gather_12 ?_
      rw [Fr_at F1 (by decide), r2]
      exact br_t (nI_le (Nat.le_refl _) (by omega)) (fin μ1 F1 s1 a0 a1 aq)
    | succ d ih =>
      intro r μ1 hr F1 s1 a0 a1 aq
      obtain ⟨g1, g2, g3, g4, g5⟩ := r3 r (by omega)
      have h8 := FN_le fm (fbb fm (st r) (ml r)) (fzz fm (st r) (ml r))
      refine u_X3_gather_12 ?_
      rw [Fr_at F1 (by decide), r2, tn_nI (by omega)]
      refine br_f (nI_ge (by omega) (by omega)) ⟨vp_in_nI (by omega) (by decide), ?_⟩
      have lp2 : ∀ d2 k (μ2 : mH), k + d2 = FN fm (fbb fm (st r) (ml r)) (fzz fm (st r) (ml r)) → Fr [3, 26] μ μ2 → (∀ s, s ≠ 0 → s ≠ 1 → μ2 3 0 s = μ 3 0 s) → μ2 3 0 0 = nI (fb_ct (cm fm ml st T S) (8 * r + k)) → μ2 3 0 1 = nI (fb_ct (fun q => cm fm ml st T S q && cRr fm ml st q) (8 * r + k)) → (∀ q, q < 8 * r + k → cm fm ml st T S q = true → μ2 26 0 (fb_ct (cm fm ml st T S) q) = nI (q + 1)) → aw Γ M_X3_gather 33 [aR 3 0, aR 8 0, aI (nI r), aR 1 r, aI (nI k), aX] [] μ2 (rV Q) := by
        intro d2
        induction d2 with
        | zero =>
          intro k μ2 hk F2 s2 b0 b1 bq
          obtain rfl : k = FN fm (fbb fm (st r) (ml r)) (fzz fm (st r) (ml r)) := by omega
          refine u_X3_gather_33 ?_
          rw [Fr_at F2 (by decide), g4.1, nI_1]
          refine br_t (nI_le (Nat.le_refl _) (by omega)) (ih (r + 1) μ2 (by omega) F2 s2 (by rw [b0, cm_row]) (by rw [b1, cmR_row]) (fun q hq hc => ?_))
          by_cases z : q < 8 * r + FN fm (fbb fm (st r) (ml r)) (fzz fm (st r) (ml r))
          · exact bq q z hc
          · have := cm_out (fm := fm) (ml := ml) (st := st) (T := T) (S := S) (r := r) (k := q - 8 * r) (by omega) (by omega)
            rw [show 8 * r + (q - 8 * r) = q by omega, hc] at this
            cases this
        | succ d2 ih2 =>
          intro k μ2 hk F2 s2 b0 b1 bq
          have D := g4.2 k (by omega)
          have hle := fb_ct_le (cm fm ml st T S) (8 * r + k)
          have hle2 := fb_ct_le (fun q => cm fm ml st T S q && cRr fm ml st q) (8 * r + k)
          have e1 : (8 * r + k) / 8 = r := by omega
          have e2 : (8 * r + k) % 8 = k := by omega
          have eb : gb fm ml st (8 * r + k) = fbb fm (st r) (ml r) := by unfold gb; rw [e1]
          have ep : gp fm ml st (8 * r + k) = FP fm (fbb fm (st r) (ml r)) (fzz fm (st r) (ml r)) k := by unfold gp; rw [eb, e1, e2]
          have ec : cm fm ml st T S (8 * r + k) = (decide (sb (fbb fm (st r) (ml r)) (FP fm (fbb fm (st r) (ml r)) (fzz fm (st r) (ml r)) k) (fm 8) = T) && decide (sb (fbb fm (st r) (ml r)) (FP fm (fbb fm (st r) (ml r)) (fzz fm (st r) (ml r)) k) (1 - fm 8) = S)) := by
            unfold cm gx gB
            rw [eb, ep, e1, e2, show decide (k < FN fm (fbb fm (st r) (ml r)) (fzz fm (st r) (ml r))) = true by simp; omega]
            rfl
          have er : cRr fm ml st (8 * r + k) = rg fm (fbb fm (st r) (ml r)) (FP fm (fbb fm (st r) (ml r)) (fzz fm (st r) (ml r)) k) := by
            unfold cRr
            rw [eb, ep]
          have lt1 := sb_lt (rbt_le (fm 1) (fm 2) (st r) (ml r)) (FP fm (fbb fm (st r) (ml r)) (fzz fm (st r) (ml r)) k) (fm 8)
          have lt2 := sb_lt (rbt_le (fm 1) (fm 2) (st r) (ml r)) (FP fm (fbb fm (st r) (ml r)) (fzz fm (st r) (ml r)) k) (1 - fm 8)
          change sb (fbb fm (st r) (ml r)) _ _ < 256 at lt1
          change sb (fbb fm (st r) (ml r)) _ _ < 256 at lt2
          have no : cm fm ml st T S (8 * r + k) = false → aw Γ M_X3_gather 33 [aR 3 0, aR 8 0, aI (nI r), aR 1 r, aI (nI (k + 1)), aX] [] μ2 (rV Q) := fun c => by
            refine ih2 (k + 1) μ2 (by omega) F2 s2 ?_ ?_ (fun q hq hc => ?_)
            · rw [← Nat.add_assoc, fb_ct_succ, c]; exact b0
            · rw [← Nat.add_assoc, fb_ct_succ, c]; exact b1
            · by_cases z : q = 8 * r + k
              · rw [z, c] at hc; cases hc
              · exact bq q (by omega) hc
          refine u_X3_gather_33 ?_
          rw [Fr_at F2 (by decide), g4.1, b0, tn_nI (show k < 2 ^ 31 by omega), Fr_at F2 (show 7 ∉ [3, 26] by decide), Fr_at F2 (show 7 ∉ [3, 26] by decide), D.2.1, D.2.2.1, s2 5 (by decide) (by decide), s2 6 (by decide) (by decide), h5, h6, nI_1 k, tn_nI (show fb_ct (cm fm ml st T S) (8 * r + k) < 2 ^ 31 by omega), nI_1 (fb_ct (cm fm ml st T S) (8 * r + k))]
          refine br_f (nI_ge (by omega) (by omega)) (br_f (nI_ge (b := 80) (by omega) (by decide)) ⟨vp_in_nI (by omega) (by decide), fun z => no ?_, fun z => ⟨fun y => no ?_, fun y => ⟨vp_in_nI (by omega) (by decide), ?_⟩⟩⟩)
          · rw [ec, show decide (sb (fbb fm (st r) (ml r)) (FP fm (fbb fm (st r) (ml r)) (fzz fm (st r) (ml r)) k) (fm 8) = T) = false by
              simp only [decide_eq_false_iff_not]
              exact fun w => z (by rw [w])]
            rfl
          · rw [ec, show decide (sb (fbb fm (st r) (ml r)) (FP fm (fbb fm (st r) (ml r)) (fzz fm (st r) (ml r)) k) (1 - fm 8) = S) = false by
              simp only [decide_eq_false_iff_not]
              exact fun w => y (by rw [w])]
            exact Bool.and_false _
          · have z := (nI_eq (by omega) (by omega)).mp z
            have y := (nI_eq (by omega) (by omega)).mp y
            have c : cm fm ml st T S (8 * r + k) = true := by rw [ec, z, y]; simp
            have F3 : Fr [3, 26] μ (sto (sto μ2 26 0 (fb_ct (cm fm ml st T S) (8 * r + k)) (nI (8 * r + k + 1))) 3 0 0 (nI (fb_ct (cm fm ml st T S) (8 * r + k) + 1))) := Fr_st2 (Fr_st2 F2 (by decide)) (by decide)
            have go : ∀ x, x = fb_ct (fun q => cm fm ml st T S q && cRr fm ml st q) (8 * r + (k + 1)) → aw Γ M_X3_gather 33 [aR 3 0, aR 8 0, aI (nI r), aR 1 r, aI (nI (k + 1)), aX] [] (sto (sto (sto μ2 26 0 (fb_ct (cm fm ml st T S) (8 * r + k)) (nI (8 * r + k + 1))) 3 0 0 (nI (fb_ct (cm fm ml st T S) (8 * r + k) + 1))) 3 0 1 (nI x)) (rV Q) := fun x hx => by
              refine ih2 (k + 1) _ (by omega) (Fr_st2 F3 (by decide)) (fun s y1 y2 => by rw [sto_s y2, sto_s y1, sto_K (by decide)]; exact s2 s y1 y2) ?_ (by rw [sto_eq, hx]) (fun q hq hc => ?_)
              · rw [sto_s (by decide), sto_eq, ← Nat.add_assoc, fb_ct_succ, c]; rfl
              · rw [sto_K (by decide), sto_K (by decide)]
                by_cases w : q = 8 * r + k
                · subst w; exact sto_eq
                · have := ct_in (p := cm fm ml st T S) (c := q) (n := 8 * r + k) (by omega) hc
                  rw [sto_s (by omega)]
                  exact bq q (by omega) hc
            rw [b1, show ∀ a, nI a + (0 : Int32) = nI a from fun a => nI_add a 0, nI_1 (fb_ct (fun q => cm fm ml st T S q && cRr fm ml st q) (8 * r + k))]
            have D3 : SEC fm (fbb fm (st r) (ml r)) (FP fm (fbb fm (st r) (ml r)) (fzz fm (st r) (ml r)) k) (8 * r + k) (sto (sto μ2 26 0 (fb_ct (cm fm ml st T S) (8 * r + k)) (nI (8 * r + k + 1))) 3 0 0 (nI (fb_ct (cm fm ml st T S) (8 * r + k) + 1))) := SEC_at D (by rw [F3 7 (by decide)]) (by rw [F3 24 (by decide)])
            have go1 : rg fm (fbb fm (st r) (ml r)) (FP fm (fbb fm (st r) (ml r)) (fzz fm (st r) (ml r)) k) = true → _ := fun rr => go (fb_ct (fun q => cm fm ml st T S q && cRr fm ml st q) (8 * r + k) + 1) (by rw [← Nat.add_assoc, fb_ct_succ, c, er, rr]; rfl)
            have go0 : rg fm (fbb fm (st r) (ml r)) (FP fm (fbb fm (st r) (ml r)) (fzz fm (st r) (ml r)) k) = false → _ := fun rr => go (fb_ct (fun q => cm fm ml st T S q && cRr fm ml st q) (8 * r + k)) (by rw [← Nat.add_assoc, fb_ct_succ, c, er, rr]; rfl)
            refine s_isRight hO (rbt_le _ _ _ _) D3 (fun rr => ⟨fun w => absurd w (by decide), fun _ => ?_⟩) (fun rr => ⟨fun _ => ?_, fun w => absurd rfl w⟩)
            · exact go1 rr
            · exact go0 rr
      exact lp2 _ 0 μ1 (Nat.zero_add _) F1 s1 a0 a1 aq
  refine u_X3_gather (lp nr 0 _ (Nat.zero_add _) (Fr_st2 (Fr_sto (by decide)) (by decide)) (fun s y1 y2 => by rw [sto_s y2, sto_s y1]) (by rw [sto_s (by decide), sto_eq]; rfl) sto_eq (fun q hq => absurd hq (by omega)))
end PCP
