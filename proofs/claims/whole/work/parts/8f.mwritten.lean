def okn (c : Nat) (B : Nat → Nat) (n : Nat) : Bool := if n = 0 then true else wk c B (n - 1)
def gI (b : Bool) : Int32 := if b then 1 else 0
theorem gI_and {b : Bool} {r : Int32} (h : r = 0 ∨ r = 1) : gI b &&& r = gI (b && decide (r = 1)) := by
  rcases h with e | e <;> subst e <;> cases b <;> decide
def LSt (c : Nat) (B : Nat → Nat) (n : Nat) (μ : mH) : Prop := (n = 0 ∧ μ 12 0 37 = -1 ∧ μ 12 0 36 = nI 0) ∨ (0 < n ∧ wk c B (n - 1) = true ∧ μ 12 0 37 = nI (wq B (n - 1)) ∧ μ 12 0 36 = nI (wz B (n - 1)) ∧ ∀ j, j < wz B (n - 1) → μ 62 0 j = nI (ww c B (n - 1) j)) ∨ (0 < n ∧ wk c B (n - 1) = false ∧ ∃ s a, s ≤ n ∧ 255 < s * c ∧ a ≤ 225 ∧ μ 12 0 37 = nI s ∧ μ 12 0 36 = nI a)
def FRW (μ μ' : mH) : Prop := Fr [12, 54, 57, 62] μ μ' ∧ ∀ s, s ≠ 36 → s ≠ 37 → μ' 12 0 s = μ 12 0 s
theorem FRW_rf {μ : mH} : FRW μ μ := ⟨Fr_rf, fun _ _ _ => rfl⟩
theorem FRW_tr {a b c : mH} (h : FRW a b) (h2 : FRW b c) : FRW a c := ⟨Fr_tr h.1 h2.1, fun s x y => (h2.2 s x y).trans (h.2 s x y)⟩
def FRL (μ μ' : mH) : Prop := Fr [12, 62] μ μ' ∧ ∀ s, s ≠ 36 → s ≠ 37 → μ' 12 0 s = μ 12 0 s
theorem FRL_w {μ μ' : mH} (h : FRL μ μ') : FRW μ μ' := ⟨Fr_mono h.1 (by decide), h.2⟩
theorem FRL_tr {a b c : mH} (h : FRL a b) (h2 : FRL b c) : FRL a c := ⟨Fr_tr h.1 h2.1, fun s x y => (h2.2 s x y).trans (h.2 s x y)⟩
section PMW
variable {Γ : cx_T}
theorem m_lays {c n : Nat} {B : Nat → Nat} {μ : mH} {Q : Int32 → mH → Prop} (hc : 1 ≤ c) (hc2 : c ≤ 60) (h42 : μ 42 0 0 = nI c) (hB0 : B 0 = 1) (hB : B n ≤ 1) (hn : n < 225) (hS : LSt c B n μ) (kk : ∀ r μ', (r = 0 ∨ r = 1) → LSt c B (n + 1) μ' → okn c B (n + 1) = (okn c B n && decide (r = 1)) → FRL μ μ' → Q r μ') : cwi Γ M_X12_lays [aR 12 0, aI (nI (B n))] μ Q := by
  rcases hS with ⟨n0, s7, s6⟩ | ⟨np, ok, s7, s6, s2⟩ | ⟨np, ok, s, a, l1, l2, l3, s7, s6⟩
  · subst n0
    refine u_X12_lays ⟨fun _ => u_X12_lays_17 ⟨fun _ => ⟨fun _ => ?_, fun z => absurd (by rw [s7]; decide) z⟩, fun z => absurd (hB0 ▸ z) (by decide)⟩, fun z => absurd (by rw [s7]; decide) z⟩
    exact kk 1 _ (Or.inr rfl) (Or.inr (Or.inl ⟨by omega, rfl, sto_eq, by rw [sto_s (by decide)]; exact s6, fun j hj => absurd hj (by show ¬ j < 0; omega)⟩)) rfl ⟨Fr_sto (by decide), fun s _ y => sto_s y⟩
  · have lq := wq_le B (n - 1)
    have lz := wz_le B (n - 1)
    have en : n = (n - 1) + 1 := by omega
    have bl : (wq B (n - 1) + 1) * c ≤ 225 * 60 := Nat.mul_le_mul (by omega) hc2
    have okc : okn c B n = true := by unfold okn; rw [if_neg (by omega)]; exact ok
    have okn1 : okn c B (n + 1) = wk c B (n - 1 + 1) := by unfold okn; rw [if_neg (by omega), show n + 1 - 1 = n - 1 + 1 by omega]
    have F1 : FRL μ (sto μ 12 0 37 (nI (wq B (n - 1) + 1))) := ⟨Fr_sto (by decide), fun s _ y => sto_s y⟩
    refine u_X12_lays ⟨fun z => absurd z (by rw [s7]; exact nI_pos (by omega)), fun _ => u_X12_lays_17 ?_⟩
    rw [s7, nI_1, sto_eq, sto_s (show 36 ≠ 37 by decide), s6, sto_K (show 42 ≠ 12 by decide), h42, pk_mul]
    rcases (show B n = 0 ∨ B n = 1 by omega) with e | e
    · have e1 : wq B (n - 1 + 1) = wq B (n - 1) + 1 := by
        show (if B (n - 1 + 1) = 0 then wq B (n - 1) + 1 else 0) = _
        rw [← en, if_pos e]
      have e2 : wz B (n - 1 + 1) = wz B (n - 1) := by
        show (if B (n - 1 + 1) = 0 then wz B (n - 1) else _) = _
        rw [← en, if_pos e]
      have e3 : ww c B (n - 1 + 1) = ww c B (n - 1) := by
        show (if B (n - 1 + 1) = 0 then ww c B (n - 1) else _) = _
        rw [← en, if_pos e]
      have e4 : wk c B (n - 1 + 1) = wk c B (n - 1) := by
        show (if B (n - 1 + 1) = 0 then wk c B (n - 1) else _) = _
        rw [← en, if_pos e]
      refine ⟨fun z => absurd (by rw [e]; rfl) z, fun _ => kk 1 _ (Or.inr rfl) (Or.inr (Or.inl ⟨by omega, ?_, ?_, ?_, fun j hj => ?_⟩)) ?_ F1⟩
      · rw [show n + 1 - 1 = n - 1 + 1 by omega, e4]; exact ok
      · rw [show n + 1 - 1 = n - 1 + 1 by omega, e1, sto_eq]
      · rw [show n + 1 - 1 = n - 1 + 1 by omega, e2, sto_s (by decide)]; exact s6
      · rw [show n + 1 - 1 = n - 1 + 1 by omega] at hj ⊢
        rw [e2] at hj
        rw [e3, sto_K (by decide)]; exact s2 j hj
      · rw [okn1, e4, ok, okc]; rfl
    · have e1 : wq B (n - 1 + 1) = 0 := by
        show (if B (n - 1 + 1) = 0 then _ else 0) = 0
        rw [← en, if_neg (by omega)]
      have e2 : wz B (n - 1 + 1) = wz B (n - 1) + 1 := by
        show (if B (n - 1 + 1) = 0 then wz B (n - 1) else wz B (n - 1) + 1) = _
        rw [← en, if_neg (by omega)]
      have e3 : ww c B (n - 1 + 1) = up (ww c B (n - 1)) (wz B (n - 1)) (c * (wq B (n - 1) + 1)) := by
        show (if B (n - 1 + 1) = 0 then ww c B (n - 1) else _) = _
        rw [← en, if_neg (by omega)]
      have e4 : wk c B (n - 1 + 1) = (wk c B (n - 1) && decide (c * (wq B (n - 1) + 1) ≤ 255)) := by
        show (if B (n - 1 + 1) = 0 then wk c B (n - 1) else _) = _
        rw [← en, if_neg (by omega)]
      have cm : c * (wq B (n - 1) + 1) = (wq B (n - 1) + 1) * c := Nat.mul_comm _ _
      refine ⟨fun _ => br_f (nI_nle (by omega) (by omega)) (pk_le ((wq B (n - 1) + 1) * c) 255 (fun q => ⟨vp_in_nI (by omega) (by decide), ?_⟩) (fun q => ?_)), fun z => absurd z (by rw [e]; decide)⟩
      · have t : wk c B (n - 1 + 1) = true := by rw [e4, ok, cm]; simp [q]
        rw [tn_nI (by omega), nI_1]
        refine kk 1 _ (Or.inr rfl) (Or.inr (Or.inl ⟨by omega, ?_, ?_, ?_, fun j hj => ?_⟩)) (by rw [okn1, t, okc]; rfl) ⟨Fr_st2 (Fr_st2 (Fr_st2 F1.1 (by decide)) (by decide)) (by decide), fun s x y => by rw [sto_s y, sto_s x, sto_K (by decide), sto_s y]⟩
        · rw [show n + 1 - 1 = n - 1 + 1 by omega]; exact t
        · rw [show n + 1 - 1 = n - 1 + 1 by omega, e1, sto_eq]; rfl
        · rw [show n + 1 - 1 = n - 1 + 1 by omega, e2, sto_s (by decide), sto_eq]
        · rw [show n + 1 - 1 = n - 1 + 1 by omega] at hj ⊢
          rw [e2] at hj
          rw [e3, sto_K (by decide), sto_K (by decide)]
          by_cases w : j = wz B (n - 1)
          · rw [w, sto_eq, up_eq, cm]
          · rw [sto_s w, sto_K (by decide), up_ne _ w]
            exact s2 j (by omega)
      · have t : wk c B (n - 1 + 1) = false := by rw [e4, ok, cm]; simp; omega
        refine kk 0 _ (Or.inl rfl) (Or.inr (Or.inr ⟨by omega, by rw [show n + 1 - 1 = n - 1 + 1 by omega]; exact t, wq B (n - 1) + 1, wz B (n - 1), by omega, q, by omega, sto_eq, by rw [sto_s (by decide)]; exact s6⟩)) (by rw [okn1, t, okc]; rfl) F1
  · have en : n = (n - 1) + 1 := by omega
    have okc : okn c B n = false := by unfold okn; rw [if_neg (by omega)]; exact ok
    have t : wk c B (n - 1 + 1) = false := by
      show (if B (n - 1 + 1) = 0 then wk c B (n - 1) else wk c B (n - 1) && _) = false
      rw [ok]
      split <;> rfl
    have okn1 : okn c B (n + 1) = false := by unfold okn; rw [if_neg (by omega), show n + 1 - 1 = n - 1 + 1 by omega]; exact t
    have bl : (s + 1) * c ≤ 225 * 60 := Nat.mul_le_mul (by omega) hc2
    have bm : 255 < (s + 1) * c := by rw [Nat.add_mul]; omega
    have st : LSt c B (n + 1) (sto μ 12 0 37 (nI (s + 1))) := Or.inr (Or.inr ⟨by omega, by rw [show n + 1 - 1 = n - 1 + 1 by omega]; exact t, s + 1, a, by omega, bm, l3, sto_eq, by rw [sto_s (by decide)]; exact s6⟩)
    have F1 : FRL μ (sto μ 12 0 37 (nI (s + 1))) := ⟨Fr_sto (by decide), fun s _ y => sto_s y⟩
    refine u_X12_lays ⟨fun z => absurd z (by rw [s7]; exact nI_pos (by omega)), fun _ => u_X12_lays_17 ?_⟩
    rw [s7, nI_1, sto_eq, sto_K (show 42 ≠ 12 by decide), h42, pk_mul]
    refine ⟨fun _ => br_f (nI_nle (by omega) (by omega)) (br_f (nI_ge (b := (s + 1) * c) (a := 255) bm (by omega)) (kk 0 _ (Or.inl rfl) st (by rw [okn1, okc]; rfl) F1)), fun _ => kk 1 _ (Or.inr rfl) st (by rw [okn1, okc]; rfl) F1⟩
theorem m_writes {fm : Nat → Nat} {T S : Nat} {d : Nat → Nat} {μ : mH} {Q : Int32 → mH → Prop} (hO : OKF fm) (hT : T < 256) (hS : S < 256) (hF : FMM fm μ) (hd : ∀ i, i < fm 4 → d i < 256) (hw : ∀ b, b < 2 + fm 4 → μ 57 0 b = nI (hdv fm T S d b))
    (kk : ∀ μ', LSt (fm 1) (wB fm (wY fm T S d)) (33 + 16 * (4 + fm 4)) μ' → FRW μ μ' → Q (gI (okn (fm 1) (wB fm (wY fm T S d)) (33 + 16 * (4 + fm 4)))) μ') : cwi Γ M_X12_writes [aR 12 0] μ Q := by
  have hO0 := hO
  obtain ⟨o1, o2, o3, o4, o5, o6, o7, o8, o9, o10⟩ := hO
  have yl := wY_lt (d := d) hO0 hT hS hd
  have yh : ∀ b, b < 2 + fm 4 → wY fm T S d b = hdv fm T S d b := fun b hb => by unfold wY; rw [if_pos hb]
  have ys : wY fm T S d (2 + fm 4) = SUMd fm T S d / 256 := by unfold wY; rw [if_neg (by omega), if_pos rfl]
  have yt : wY fm T S d (3 + fm 4) = SUMd fm T S d % 256 := by unfold wY; rw [if_neg (by omega), if_neg (by omega)]
  have hh : ∀ j, j < 2 + fm 4 → hdv fm T S d j < 256 := fun j hj => by rw [← yh j hj]; exact yl j (by omega)
  have hsum : SUMd fm T S d < 65536 := sm_lt hO0 (2 + fm 4) hh
  generalize hYe : wY fm T S d = Y at *
  have em : ∀ μ1, FRW μ μ1 → (4 : Int32) + μ1 42 0 4 = nI (4 + fm 4) := fun μ1 F1 => by rw [Fr_at F1.1 (by decide), hF.2.2.2.2.1]; exact nI_add 4 _
  have c42 : ∀ μ1, FRW μ μ1 → μ1 42 0 0 = nI (fm 1) := fun μ1 F1 => by rw [Fr_at F1.1 (by decide)]; exact hF.1
  have B0 : wB fm Y 0 = 1 := rfl
  have hP : ∀ j, wP fm Y j ≤ 1 := fun j => by
    unfold wP
    split
    · omega
    · exact wD_le _ _
  -- bytes
  have lpB : ∀ e b (μ1 : mH), b + e = 4 + fm 4 → LSt (fm 1) (wB fm Y) (32 + 16 * b) μ1 → FRW μ μ1 → (∀ b, b < 4 + fm 4 → μ1 57 0 b = nI (Y b)) → aw Γ M_X12_writes 163 [aR 12 0, aI (gI (okn (fm 1) (wB fm Y) (32 + 16 * b))), aX, aX, aI (nI (wP fm Y (8 * b))), aI (nI b), aX, aX] [] μ1 (rI Q) := by
    intro e
    induction e with
    | zero =>
      intro b μ1 hb S1 F1 h57
      obtain rfl : b = 4 + fm 4 := by omega
      refine u_X12_writes_163 (u_X12_many ?_)
      rw [em μ1 F1]
      refine br_t (nI_le (Nat.le_refl _) (by omega)) ?_
      have last := m_lays (Γ := Γ) (Q := fun r4 μ3 => ((gI (okn (fm 1) (wB fm Y) (32 + 16 * (4 + fm 4))) &&& r4) = 0 ∨ (gI (okn (fm 1) (wB fm Y) (32 + 16 * (4 + fm 4))) &&& r4) = 1) ∧ Q (gI (okn (fm 1) (wB fm Y) (32 + 16 * (4 + fm 4))) &&& r4) μ3) (by omega) o2 (c42 μ1 F1) B0 (wB_le fm Y _) (by omega) S1 (fun r μ2 hr S2 ho F2 => by
        rw [gI_and hr, ← ho, show 32 + 16 * (4 + fm 4) + 1 = 33 + 16 * (4 + fm 4) by omega]
        rw [show 32 + 16 * (4 + fm 4) + 1 = 33 + 16 * (4 + fm 4) by omega] at S2
        refine ⟨?_, kk μ2 S2 (FRW_tr F1 (FRL_w F2))⟩
        unfold gI
        split
        · right; rfl
        · left; rfl)
      rw [wB_last] at last
      exact last
    | succ e ih =>
      intro b μ1 hb S1 F1 h57
      refine u_X12_writes_163 (u_X12_many ?_)
      rw [em μ1 F1]
      refine br_f (nI_ge (by omega) (by omega)) ?_
      have lp : ∀ t p (μ2 : mH), p + t = 8 → LSt (fm 1) (wB fm Y) (32 + 2 * (8 * b + p)) μ2 → FRW μ μ2 → (∀ b, b < 4 + fm 4 → μ2 57 0 b = nI (Y b)) → aw Γ M_X12_writes 176 [aR 12 0, aI (gI (okn (fm 1) (wB fm Y) (32 + 2 * (8 * b + p)))), aX, aX, aI (nI (wP fm Y (8 * b + p))), aI (nI b), aI (nI t - 1), aX] [] μ2 (rI Q) := by
        intro t
        induction t with
        | zero =>
          intro p μ2 hp S2 F2 g57
          obtain rfl : p = 8 := by omega
          refine u_X12_writes_176 (br_t (by decide) ?_)
          rw [nI_1]
          have := ih (b + 1) μ2 (by omega) (by rw [show 32 + 16 * (b + 1) = 32 + 2 * (8 * b + 8) by omega]; exact S2) F2 g57
          rw [show 32 + 16 * (b + 1) = 32 + 2 * (8 * b + 8) by omega, show 8 * (b + 1) = 8 * b + 8 by omega] at this
          exact this
        | succ t iht =>
          intro p μ2 hp S2 F2 g57
          have yb := yl b (by omega)
          have eD : wD Y (8 * b + p) = if (Y b).testBit t then 1 else 0 := by
            unfold wD
            rw [show (8 * b + p) / 8 = b by omega, show 7 - (8 * b + p) % 8 = t by omega]
          have hj : 8 * b + p < 8 * (4 + fm 4) := by omega
          have l1 := hP (8 * b + p)
          have l2 := wD_le Y (8 * b + p)
          refine u_X12_writes_176 ?_
          rw [nI_pred, tn_nI (by omega), g57 b (by omega)]
          refine br_f (nI_pos (by omega)) ⟨vp_in_nI (by omega) (by decide), u_X12_bitOf ?_⟩
          rw [mb_t (by omega) (by omega), ← eD]
          have go : ∀ y0 : Int32, y0 = nI (wB fm Y (32 + 2 * (8 * b + p))) → aw Γ M_X12_writes 212 [aR 12 0, aX, aX, aX, aX, aI (nI b), aI (nI t), aI (nI (wD Y (8 * b + p)))] [aI y0, aR 12 0, aI (gI (okn (fm 1) (wB fm Y) (32 + 2 * (8 * b + p))))] μ2 (rI Q) := by
            intro y0 hy
            subst hy
            refine u_X12_writes_212 (m_lays (by omega) o2 (c42 μ2 F2) B0 (wB_le fm Y _) (by omega) S2 (fun r μ3 hr S3 ho F3 => ?_))
            have F3' := FRW_tr F2 (FRL_w F3)
            have nx := m_lays (Γ := Γ) (Q := fun r4 μ4 => aw Γ M_X12_writes 176 [aR 12 0, aI ((gI (okn (fm 1) (wB fm Y) (32 + 2 * (8 * b + p))) &&& r) &&& r4), aX, aX, aI (nI (wD Y (8 * b + p))), aI (nI b), aI (nI t + -1), aX] [] μ4 (rI Q)) (by omega) o2 (c42 μ3 F3') B0 (wB_le fm Y _) (by omega) S3 (fun r4 μ4 hr4 S4 ho4 F4 => by
              rw [gI_and hr, ← ho, gI_and hr4, ← ho4, neg1_add]
              have := iht (p + 1) μ4 (by omega) (by rw [show 32 + 2 * (8 * b + (p + 1)) = 32 + 2 * (8 * b + p) + 1 + 1 by omega]; exact S4) (FRW_tr F3' (FRL_w F4)) (fun b' hb' => by rw [Fr_at F4.1 (by decide), Fr_at F3.1 (by decide)]; exact g57 b' hb')
              rw [show 32 + 2 * (8 * b + (p + 1)) = 32 + 2 * (8 * b + p) + 1 + 1 by omega] at this
              have ep : wP fm Y (8 * b + (p + 1)) = wD Y (8 * b + p) := by
                unfold wP
                rw [if_neg (by omega)]
                congr 1
              rw [ep] at this
              exact this)
            rw [wB_data hj] at nx
            exact nx
          rw [wB_clock hj] at go
          unfold ckd at go
          refine ⟨fun z => go 0 ?_, fun z => ⟨fun y => go 0 ?_, fun y => go 1 ?_⟩⟩
          · rw [if_neg (fun q => z (by rw [q.1]; rfl))]; rfl
          · rw [if_neg (fun q => y (by rw [q.2]; rfl))]; rfl
          · rw [if_pos ⟨(nI_eq (b := 0) (by omega) (by decide)).mp z, (nI_eq (b := 0) (by omega) (by decide)).mp y⟩]; rfl
      have := lp 8 0 μ1 rfl (by rw [show 32 + 2 * (8 * b + 0) = 32 + 16 * b by omega]; exact S1) F1 h57
      rw [show 32 + 2 * (8 * b + 0) = 32 + 16 * b by omega] at this
      exact this
  -- the sum
  have lpS : ∀ e b (μ1 : mH), b + e = 4 + fm 4 → LSt (fm 1) (wB fm Y) 32 μ1 → FRW μ μ1 → (∀ b, b < 2 + fm 4 → μ1 57 0 b = nI (hdv fm T S d b)) → (∀ b', b' < b → b' < 2 + fm 4 → μ1 54 0 b' = nI (hdv fm T S d b')) → aw Γ M_X12_writes 85 [aR 12 0, aI (gI (okn (fm 1) (wB fm Y) 32)), aX, aI (nI b), aX, aX, aX, aX] [] μ1 (rI Q) := by
    intro e
    induction e with
    | zero =>
      intro b μ1 hb S1 F1 h57 h54
      obtain rfl : b = 4 + fm 4 := by omega
      refine u_X12_writes_85 (u_X12_many ?_)
      rw [em μ1 F1]
      refine br_t (nI_le (Nat.le_refl _) (by omega)) (m_sumOf (f := hdv fm T S d) hO0 (FMM_fr hF F1.1 (by decide)) hh (fun j hj => h54 j (by omega) hj) (u_X12_many ?_))
      have e5 : sm fm (hdv fm T S d) (2 + fm 4) = SUMd fm T S d := rfl
      rw [em μ1 F1, show nI (4 + fm 4) - (2 : Int32) = nI (4 + fm 4 - 2) from pk_sub (b := 2) (by omega), show 4 + fm 4 - 2 = 2 + fm 4 by omega, e5, show nI (SUMd fm T S d) - nI (SUMd fm T S d) / (256 : Int32) * (256 : Int32) = nI (SUMd fm T S d % 256) from pk_rem (d := 256) (by omega) (by decide) (by decide), show nI (SUMd fm T S d) / (256 : Int32) = nI (SUMd fm T S d / 256) from pk_div (d := 256) (by omega) (by decide) (by decide), tn_nI (by omega)]
      have F2 : FRW μ (sto μ1 57 0 (2 + fm 4) (nI (SUMd fm T S d / 256))) := FRW_tr F1 ⟨Fr_sto (by decide), fun s _ _ => sto_K (by decide)⟩
      refine ⟨vp_in_nI (by omega) (by decide), u_X12_many ?_⟩
      rw [em _ F2, show nI (4 + fm 4) - (1 : Int32) = nI (4 + fm 4 - 1) from pk_sub (b := 1) (by omega), show 4 + fm 4 - 1 = 3 + fm 4 by omega, tn_nI (by omega), Fr_at F2.1 (show 42 ∉ [12, 54, 57, 62] by decide), hF.2.2.2.1]
      have F3 : FRW μ (sto (sto μ1 57 0 (2 + fm 4) (nI (SUMd fm T S d / 256))) 57 0 (3 + fm 4) (nI (SUMd fm T S d % 256))) := FRW_tr F2 ⟨Fr_sto (by decide), fun s _ _ => sto_K (by decide)⟩
      refine ⟨vp_in_nI (by omega) (by decide), u_X12_bitOf ?_⟩
      have e0 : (nI (fm 3 % 256) >>> ((0 : Int32) &&& 31)) &&& 1 = nI (wP fm Y (8 * 0)) := by
        rw [show (0 : Int32) = nI 0 from rfl, mb_t (by omega) (by decide), Nat.testBit_zero]
        congr 1
        unfold wP
        rw [if_pos rfl, show fm 3 % 256 % 2 = fm 3 % 2 by omega]
        rcases (show fm 3 % 2 = 0 ∨ fm 3 % 2 = 1 by omega) with e | e <;> rw [e] <;> rfl
      rw [e0]
      refine lpB (4 + fm 4) 0 _ (Nat.zero_add _) ?_ F3 (fun b hb => ?_)
      · unfold LSt
        rw [sto_K (by decide), sto_K (by decide), sto_K (by decide), sto_K (by decide)]
        rcases S1 with w | ⟨w1, w2, w3, w4, w5⟩ | w
        · exact Or.inl w
        · exact Or.inr (Or.inl ⟨w1, w2, w3, w4, fun j hj => by rw [sto_K (by decide), sto_K (by decide)]; exact w5 j hj⟩)
        · exact Or.inr (Or.inr w)
      · by_cases q : b = 3 + fm 4
        · rw [q, sto_eq, yt]
        · rw [sto_s q]
          by_cases q2 : b = 2 + fm 4
          · rw [q2, sto_eq, ys]
          · rw [sto_s q2, h57 b (by omega), yh b (by omega)]
    | succ e ih =>
      intro b μ1 hb S1 F1 h57 h54
      refine u_X12_writes_85 (u_X12_many ?_)
      rw [em μ1 F1, tn_nI (by omega), nI_1]
      refine br_f (nI_ge (by omega) (by omega)) ⟨vp_in_nI (by omega) (by decide), vp_in_nI (by omega) (by decide), ih (b + 1) _ (by omega) ?_ (FRW_tr F1 ⟨Fr_sto (by decide), fun s _ _ => sto_K (by decide)⟩) (fun b' hb' => by rw [sto_K (by decide)]; exact h57 b' hb') (fun b' hb' h2 => ?_)⟩
      · unfold LSt
        rw [sto_K (by decide), sto_K (by decide)]
        rcases S1 with w | ⟨w1, w2, w3, w4, w5⟩ | w
        · exact Or.inl w
        · exact Or.inr (Or.inl ⟨w1, w2, w3, w4, fun j hj => by rw [sto_K (by decide)]; exact w5 j hj⟩)
        · exact Or.inr (Or.inr w)
      · by_cases q : b' = b
        · subst q; rw [sto_eq]; exact h57 b' h2
        · rw [sto_s q]; exact h54 b' (by omega) h2
  -- the mark
  have lpM : ∀ t k (μ1 : mH), k + t = 16 → LSt (fm 1) (wB fm Y) (16 + k) μ1 → FRL (sto (sto μ 12 0 36 0) 12 0 37 (-1)) μ1 → aw Γ M_X12_writes 61 [aR 12 0, aI (gI (okn (fm 1) (wB fm Y) (16 + k))), aI (nI (fm 3)), aI (nI t - 1), aX, aX, aX, aX] [] μ1 (rI Q) := by
    intro t
    have W0 : FRW μ (sto (sto μ 12 0 36 0) 12 0 37 (-1)) := ⟨Fr_st2 (Fr_sto (by decide)) (by decide), fun s x y => by rw [sto_s y, sto_s x]⟩
    induction t with
    | zero =>
      intro k μ1 hk S1 F1
      obtain rfl : k = 16 := by omega
      refine u_X12_writes_61 (br_t (by decide) (lpS (4 + fm 4) 0 μ1 (Nat.zero_add _) S1 (FRW_tr W0 (FRL_w F1)) (fun b hb => ?_) (fun b' hb' => absurd hb' (by omega))))
      rw [Fr_at F1.1 (by decide), sto_K (by decide), sto_K (by decide)]
      exact hw b hb
    | succ t ih =>
      intro k μ1 hk S1 F1
      have eB : wB fm Y (16 + k) = if (fm 3).testBit t then 1 else 0 := by
        rw [wB_mark (by omega) (by omega), show 31 - (16 + k) = t by omega]
      refine u_X12_writes_61 ?_
      rw [nI_pred]
      refine br_f (nI_pos (by omega)) (u_X12_bitOf ?_)
      rw [mb_t (by omega) (by omega), ← eB]
      refine m_lays (by omega) o2 (c42 μ1 (FRW_tr W0 (FRL_w F1))) B0 (wB_le fm Y _) (by omega) S1 (fun r μ2 hr S2 ho F2 => ?_)
      rw [gI_and hr, ← ho, neg1_add]
      exact ih (k + 1) μ2 (by omega) S2 (FRL_tr F1 F2)
  -- the lead
  have lpL : ∀ t k (μ1 : mH), k + t = 8 → LSt (fm 1) (wB fm Y) (2 * k) μ1 → FRL (sto (sto μ 12 0 36 0) 12 0 37 (-1)) μ1 → aw Γ M_X12_writes 14 [aR 12 0, aI (gI (okn (fm 1) (wB fm Y) (2 * k))), aI (nI k), aX, aX, aX, aX, aX] [] μ1 (rI Q) := by
    intro t
    have W0 : FRW μ (sto (sto μ 12 0 36 0) 12 0 37 (-1)) := ⟨Fr_st2 (Fr_sto (by decide)) (by decide), fun s x y => by rw [sto_s y, sto_s x]⟩
    induction t with
    | zero =>
      intro k μ1 hk S1 F1
      obtain rfl : k = 8 := by omega
      have W1 := FRW_tr W0 (FRL_w F1)
      refine u_X12_writes_14 (br_t (by decide) ?_)
      rw [Fr_at W1.1 (by decide), Fr_at W1.1 (by decide), hF.2.2.1, hF.2.2.2.1, show (256 : Int32) * nI (fm 3 / 256) = nI (256 * (fm 3 / 256)) from pk_mul 256 _, nI_add, show 256 * (fm 3 / 256) + fm 3 % 256 = fm 3 by omega]
      exact lpM 16 0 μ1 rfl S1 F1
    | succ t ih =>
      intro k μ1 hk S1 F1
      have W1 := FRW_tr W0 (FRL_w F1)
      have e1 : wB fm Y (2 * k) = 1 := by rw [wB_lead (by omega)]; omega
      have e2 : wB fm Y (2 * k + 1) = 0 := by rw [wB_lead (by omega)]; omega
      refine u_X12_writes_14 (br_f (nI_ge (b := 8) (by omega) (by decide)) ?_)
      rw [nI_1]
      have a := m_lays (Γ := Γ) (Q := fun r2 μ2 => cwi Γ M_X12_lays [aR 12 0, aI 0] μ2 (fun r4 μ3 => aw Γ M_X12_writes 14 [aR 12 0, aI (gI (okn (fm 1) (wB fm Y) (2 * k)) &&& (r2 &&& r4)), aI (nI (k + 1)), aX, aX, aX, aX, aX] [] μ3 (rI Q))) (by omega) o2 (c42 μ1 W1) B0 (wB_le fm Y _) (by omega) S1 (fun r μ2 hr S2 ho F2 => by
        have b := m_lays (Γ := Γ) (Q := fun r4 μ3 => aw Γ M_X12_writes 14 [aR 12 0, aI (gI (okn (fm 1) (wB fm Y) (2 * k)) &&& (r &&& r4)), aI (nI (k + 1)), aX, aX, aX, aX, aX] [] μ3 (rI Q)) (by omega) o2 (c42 μ2 (FRW_tr W1 (FRL_w F2))) B0 (wB_le fm Y _) (by omega) S2 (fun r4 μ3 hr4 S3 ho4 F3 => by
          rw [← Int32.and_assoc, gI_and hr, ← ho, gI_and hr4, ← ho4]
          exact ih (k + 1) μ3 (by omega) S3 (FRL_tr F1 (FRL_tr F2 F3)))
        rw [e2] at b
        exact b)
      rw [e1] at a
      exact a
  exact u_X12_writes (lpL 8 0 _ rfl (Or.inl ⟨rfl, sto_eq, by rw [sto_s (by decide), sto_eq]; rfl⟩) ⟨Fr_rf, fun _ _ _ => rfl⟩)
end PMW
