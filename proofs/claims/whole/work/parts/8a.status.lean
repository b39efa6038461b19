/-! status and value -/
def FRS (μ μ' : mH) : Prop := Fr [12, 50, 51, 52, 53, 54, 55, 56, 57, 58, 59] μ μ' ∧ ∀ s, s ≠ 20 → s ≠ 21 → s ≠ 26 → μ' 12 0 s = μ 12 0 s
theorem FRS_rf {μ : mH} : FRS μ μ := ⟨Fr_rf, fun _ _ _ _ => rfl⟩
theorem FRS_tr {a b c : mH} (h : FRS a b) (h2 : FRS b c) : FRS a c := ⟨Fr_tr h.1 h2.1, fun s x y z => (h2.2 s x y z).trans (h.2 s x y z)⟩
theorem FRS_g {a b : mH} (h : FRG a b) : FRS a b := ⟨Fr_mono h.1 (by decide), h.2⟩
theorem FRS_5 {a b c : mH} (h : FRS a b) (h2 : Fr [54, 57, 58, 59] b c) : FRS a c := ⟨Fr_tr h.1 (Fr_mono h2 (by decide)), fun s x y z => by rw [Fr_at h2 (by decide)]; exact h.2 s x y z⟩
theorem FRS_m {a b : mH} (h : FRM a b) : FRS a b := ⟨Fr_mono h.1 (by decide), fun s x y _ => h.2 s x y⟩
section PST
variable {Γ : cx_T}
theorem m_statusOf {fm : Nat → Nat} {nr T S : Nat} {dr ml : Nat → Nat} {st : Nat → Nat → Nat} {μ : mH} {Q : Int32 → mH → Prop} (hT : T < 256) (hS : S < 256) (hO : OKF fm) (hF : FMM fm μ) (hR : RDM nr dr ml st μ)
    (kk : ∀ v dat μ', VER fm T S (gN fm nr ml st T S) (gV fm nr ml st T S) (gR fm nr ml st T S) v dat → (v = 1 ∨ v = 3 → ∀ b, b < 2 + fm 4 → μ' 57 0 b = nI (hdv fm T S dat b)) → CPM fm (gN fm nr ml st T S) (gV fm nr ml st T S) (gR fm nr ml st T S) μ' → FRS μ μ' → Q (nI v) μ') : cwi Γ M_X12_statusOf [aR 12 0, aI (nI T), aI (nI S)] μ Q := by
  have hW := g_CPV (fm := fm) (nr := nr) (ml := ml) (st := st) (T := T) (S := S) hR.1
  have hn8 := hW.1
  have o6 := hO.2.2.2.2.2.1
  refine u_X12_statusOf (m_gathers hT hS hO hF hR (fun μ1 C1 G1 => ?_))
  have F1 := FRS_g G1
  have M1 := FMM_fr hF F1.1 (by decide)
  generalize gN fm nr ml st T S = n at *
  generalize gV fm nr ml st T S = V at *
  generalize gR fm nr ml st T S = r at *
  have hV : ∀ c, c < n → ∀ i, V c i < 256 := fun c hc => (hW.2 c hc).1
  have em : (4 : Int32) + μ1 42 0 4 = nI (4 + fm 4) := by rw [M1.2.2.2.2.1]; exact nI_add 4 _
  rw [C1.1]
  refine ⟨fun z => ?_, fun z => kk 0 (fun _ => 0) μ1 (Or.inl ⟨(nI_eq (b := 0) (by omega) (by decide)).mp z, rfl⟩) (fun h => by omega) C1 F1⟩
  have hn : 0 < n := by
    have : n ≠ 0 := fun y => z (by rw [y]; rfl)
    omega
  -- a right copy was found
  have lpB : ∀ d c c0 x4, c + d = n → c0 < c → r c0 = true → (∀ c', c' < c0 → r c' = false) → ((x4 = 0 ∧ ∀ c', c' < c → r c' = true → ∀ i, i < fm 4 → V c' (2 + i) = V c0 (2 + i)) ∨ (x4 = 1 ∧ ∃ c', c' < c ∧ r c' = true ∧ ∃ i, i < fm 4 ∧ V c' (2 + i) ≠ V c0 (2 + i))) → aw Γ M_X12_statusOf 23 [aR 12 0, aX, aX, aI (nI c0), aI x4, aI (nI c), aX] [] μ1 (rI Q) := by
    intro d
    induction d with
    | zero =>
      intro c c0 x4 hc h0 r0 rl hx
      obtain rfl : c = n := by omega
      refine u_X12_statusOf_23 ?_
      rw [C1.1]
      refine br_t (nI_le (Nat.le_refl _) (by omega)) ⟨fun _ => ?_, fun y => absurd y (nI_m1 (by omega))⟩
      have lp2 : ∀ d2 b (μ2 : mH), b + d2 = 4 + fm 4 → Fr [57] μ1 μ2 → (∀ b', b' < b → μ2 57 0 b' = nI (V c0 b')) → aw Γ M_X12_statusOf 139 [aR 12 0, aX, aX, aI (nI c0), aI x4, aI (nI b), aX] [] μ2 (rI Q) := by
        intro d2
        induction d2 with
        | zero =>
          intro b μ2 hb F2 h57
          obtain rfl : b = 4 + fm 4 := by omega
          have C2 := CPM_fr C1 F2 (Fr_at F2 (by decide) _ _) (by decide) (by decide)
          have Fs := FRS_5 F1 (Fr_mono F2 (show ∀ K, K ∈ [57] → K ∈ [54, 57, 58, 59] by decide))
          have hw : ∀ b, b < 2 + fm 4 → μ2 57 0 b = nI (hdv fm T S (fun i => V c0 (2 + i)) b) := fun b hb => by
            rw [h57 b (by omega)]
            congr 1
            by_cases b0 : b = 0
            · rw [b0]; exact (CPV_01 hO hW h0 _).1
            · by_cases b1 : b = 1
              · rw [b1]; exact (CPV_01 hO hW h0 _).2
              · unfold hdv
                rw [if_neg b0, if_neg b1]
                show V c0 b = V c0 (2 + (b - 2))
                rw [show 2 + (b - 2) = b by omega]
          refine u_X12_statusOf_139 (u_X12_many ?_)
          rw [Fr_at F2 (by decide), em]
          refine br_t (nI_le (Nat.le_refl _) (by omega)) ⟨fun y => ?_, fun y => ?_⟩
          · rcases hx with ⟨_, hx⟩ | ⟨w, _⟩
            · exact kk 1 (fun i => V c0 (2 + i)) μ2 (Or.inr (Or.inl ⟨c0, h0, r0, rl, fun i _ => rfl, Or.inl ⟨rfl, hx⟩⟩)) (fun _ => hw) C2 Fs
            · rw [w] at y; exact absurd y (by decide)
          · rcases hx with ⟨w, _⟩ | ⟨_, hx⟩
            · exact absurd w y
            · exact kk 2 (fun i => V c0 (2 + i)) μ2 (Or.inr (Or.inl ⟨c0, h0, r0, rl, fun i _ => rfl, Or.inr ⟨rfl, hx⟩⟩)) (fun h => by omega) C2 Fs
        | succ d2 ih2 =>
          intro b μ2 hb F2 h57
          refine u_X12_statusOf_139 (u_X12_many ?_)
          rw [Fr_at F2 (by decide), em, show (12 : Int32) * nI c0 = nI (12 * c0) from pk_mul 12 _, nI_add, tn_nI (by omega), tn_nI (by omega), Fr_at F2 (show 55 ∉ [57] by decide), (C1.2 c0 h0).1 b (by omega), nI_1]
          refine br_f (nI_ge (by omega) (by omega)) ⟨vp_in_nI (by omega) (by decide), vp_in_nI (by omega) (by decide), ih2 (b + 1) _ (by omega) (Fr_st2 F2 (by decide)) (fun b' hb' => ?_)⟩
          by_cases e : b' = b
          · subst e; exact sto_eq
          · rw [sto_s e]; exact h57 b' (by omega)
      exact lp2 _ 0 μ1 (Nat.zero_add _) Fr_rf (fun b' hb' => absurd hb' (by omega))
    | succ d ih =>
      intro c c0 x4 hc h0 r0 rl hx
      refine u_X12_statusOf_23 ?_
      rw [C1.1, tn_nI (by omega), (C1.2 c (by omega)).2, nI_1]
      refine br_f (nI_ge (by omega) (by omega)) ⟨vp_in_nI (by omega) (by decide), fun y => ⟨fun _ => ?_, fun w => absurd w (nI_m1 (by omega))⟩, fun y => ?_⟩
      · have rc : r c = true := by
          cases e : r c
          · rw [e] at y; exact absurd rfl y
          · rfl
        have lp2 : ∀ d2 i x, i + d2 = fm 4 → ((x = 0 ∧ (∀ c', c' < c → r c' = true → ∀ i, i < fm 4 → V c' (2 + i) = V c0 (2 + i)) ∧ ∀ i', i' < i → V c (2 + i') = V c0 (2 + i')) ∨ (x = 1 ∧ ((∃ c', c' < c ∧ r c' = true ∧ ∃ i, i < fm 4 ∧ V c' (2 + i) ≠ V c0 (2 + i)) ∨ ∃ i', i' < i ∧ V c (2 + i') ≠ V c0 (2 + i')))) → aw Γ M_X12_statusOf 56 [aR 12 0, aX, aX, aI (nI c0), aI x, aI (nI c), aI (nI (2 + i))] [] μ1 (rI Q) := by
          intro d2
          induction d2 with
          | zero =>
            intro i x hi hx2
            obtain rfl : i = fm 4 := by omega
            refine u_X12_statusOf_56 (u_X12_many ?_)
            rw [em, show nI (4 + fm 4) - (2 : Int32) = nI (4 + fm 4 - 2) from pk_sub (b := 2) (by omega), nI_1 c]
            refine br_t (nI_le (by omega) (by omega)) (ih (c + 1) c0 x (by omega) (by omega) r0 rl ?_)
            rcases hx2 with ⟨w, h1, h2⟩ | ⟨w, h⟩
            · refine Or.inl ⟨w, fun c' hc' rc' => ?_⟩
              by_cases e : c' = c
              · subst e; exact h2
              · exact h1 c' (by omega) rc'
            · refine Or.inr ⟨w, ?_⟩
              rcases h with ⟨c', a, b, i, e, f⟩ | ⟨i', a, b⟩
              · exact ⟨c', by omega, b, i, e, f⟩
              · exact ⟨c, by omega, rc, i', a, b⟩
          | succ d2 ih2 =>
            intro i x hi hx2
            have v1 := hV c (by omega) (2 + i)
            have v2 := hV c0 (by omega) (2 + i)
            refine u_X12_statusOf_56 (u_X12_many ?_)
            rw [em, show nI (4 + fm 4) - (2 : Int32) = nI (4 + fm 4 - 2) from pk_sub (b := 2) (by omega), show (12 : Int32) * nI c = nI (12 * c) from pk_mul 12 _, show (12 : Int32) * nI c0 = nI (12 * c0) from pk_mul 12 _, nI_add, nI_add, tn_nI (by omega), tn_nI (by omega), (C1.2 c (by omega)).1 (2 + i) (by omega), (C1.2 c0 (by omega)).1 (2 + i) (by omega), nI_1 (2 + i), Nat.add_assoc]
            refine br_f (nI_ge (by omega) (by omega)) ⟨vp_in_nI (by omega) (by decide), vp_in_nI (by omega) (by decide), fun w => ih2 (i + 1) _ (by omega) ?_, fun w => ih2 (i + 1) _ (by omega) ?_⟩
            · have w := (nI_eq (by omega) (by omega)).mp w
              rcases hx2 with ⟨x0, h1, h2⟩ | ⟨x1, h⟩
              · refine Or.inl ⟨by rw [x0]; decide, h1, fun i' hi' => ?_⟩
                by_cases e : i' = i
                · subst e; exact w
                · exact h2 i' (by omega)
              · refine Or.inr ⟨by rw [x1]; decide, ?_⟩
                rcases h with h | ⟨i', a, b⟩
                · exact Or.inl h
                · exact Or.inr ⟨i', by omega, b⟩
            · have w : V c (2 + i) ≠ V c0 (2 + i) := fun e => w (by rw [e])
              refine Or.inr ⟨?_, Or.inr ⟨i, by omega, w⟩⟩
              rcases hx2 with ⟨x0, _⟩ | ⟨x1, _⟩
              · rw [x0]; decide
              · rw [x1]; decide
        refine lp2 (fm 4) 0 x4 (Nat.zero_add _) ?_
        rcases hx with ⟨w, h⟩ | ⟨w, h⟩
        · exact Or.inl ⟨w, h, fun i' hi' => absurd hi' (by omega)⟩
        · exact Or.inr ⟨w, Or.inl h⟩
      · have rc : r c = false := by
          cases e : r c
          · rfl
          · rw [e] at y; exact absurd y (by decide)
        refine ih (c + 1) c0 x4 (by omega) (by omega) r0 rl ?_
        rcases hx with ⟨w, h⟩ | ⟨w, c', a, b, e⟩
        · refine Or.inl ⟨w, fun c' hc' rc' => ?_⟩
          by_cases e : c' = c
          · rw [e, rc] at rc'; cases rc'
          · exact h c' (by omega) rc'
        · exact Or.inr ⟨w, c', by omega, b, e⟩
  have lpA : ∀ d c, c + d = n → (∀ c', c' < c → r c' = false) → aw Γ M_X12_statusOf 23 [aR 12 0, aX, aX, aI (-1), aI 0, aI (nI c), aX] [] μ1 (rI Q) := by
    intro d
    induction d with
    | zero =>
      intro c hc hl
      obtain rfl : c = n := by omega
      refine u_X12_statusOf_23 ?_
      rw [C1.1]
      refine br_t (nI_le (Nat.le_refl _) (by omega)) ⟨fun y => absurd rfl y, fun _ => ?_⟩
      refine m_mends hO M1 hn hW C1 (fun dat μ2 hu hw F2 => ⟨fun y => absurd rfl y, fun _ => ?_⟩) (fun hu x μ2 hx F2 => ⟨fun _ => ?_, fun y => absurd y hx⟩)
      · exact kk 3 dat μ2 (Or.inr (Or.inr ⟨hn, hl, Or.inl ⟨rfl, hu⟩⟩)) (fun _ => hw) (CPM_fr C1 F2 (Fr_at F2 (by decide) _ _) (by decide) (by decide)) (FRS_5 F1 F2)
      · exact kk 4 (fun _ => 0) μ2 (Or.inr (Or.inr ⟨hn, hl, Or.inr ⟨rfl, hu⟩⟩)) (fun h => by omega) (CPM_fr C1 F2 (Fr_at F2 (by decide) _ _) (by decide) (by decide)) (FRS_5 F1 F2)
    | succ d ih =>
      intro c hc hl
      refine u_X12_statusOf_23 ?_
      rw [C1.1, tn_nI (by omega), (C1.2 c (by omega)).2, nI_1]
      refine br_f (nI_ge (by omega) (by omega)) ⟨vp_in_nI (by omega) (by decide), fun y => ⟨fun w => absurd rfl w, fun _ => ?_⟩, fun y => ?_⟩
      · have rc : r c = true := by
          cases e : r c
          · rw [e] at y; exact absurd rfl y
          · rfl
        -- the first right one: held against itself
        have lp2 : ∀ d2 i, i + d2 = fm 4 → aw Γ M_X12_statusOf 56 [aR 12 0, aX, aX, aI (nI c), aI 0, aI (nI c), aI (nI (2 + i))] [] μ1 (rI Q) := by
          intro d2
          induction d2 with
          | zero =>
            intro i hi
            obtain rfl : i = fm 4 := by omega
            refine u_X12_statusOf_56 (u_X12_many ?_)
            rw [em, show nI (4 + fm 4) - (2 : Int32) = nI (4 + fm 4 - 2) from pk_sub (b := 2) (by omega), nI_1 c]
            refine br_t (nI_le (by omega) (by omega)) (lpB d (c + 1) c 0 (by omega) (by omega) rc hl (Or.inl ⟨rfl, fun c' hc' rc' i hi => ?_⟩))
            by_cases e : c' = c
            · rw [e]
            · rw [hl c' (by omega)] at rc'; cases rc'
          | succ d2 ih2 =>
            intro i hi
            refine u_X12_statusOf_56 (u_X12_many ?_)
            rw [em, show nI (4 + fm 4) - (2 : Int32) = nI (4 + fm 4 - 2) from pk_sub (b := 2) (by omega), show (12 : Int32) * nI c = nI (12 * c) from pk_mul 12 _, nI_add, nI_1 (2 + i), Nat.add_assoc 2]
            exact br_f (nI_ge (by omega) (by omega)) ⟨vp_in_nI (by omega) (by decide), vp_in_nI (by omega) (by decide), fun _ => ih2 (i + 1) (by omega), fun w => absurd rfl w⟩
        exact lp2 (fm 4) 0 (Nat.zero_add _)
      · have rc : r c = false := by
          cases e : r c
          · rfl
          · rw [e] at y; exact absurd y (by decide)
        refine ih (c + 1) (by omega) (fun c' hc' => ?_)
        by_cases e : c' = c
        · rw [e]; exact rc
        · exact hl c' (by omega)
  exact lpA n 0 (Nat.zero_add _) (fun c' hc' => absurd hc' (by omega))
/-- may this SECTOR be judged? -/
def cjok (f : Nat) (x1 x2 : Int32) : Prop := f = 1 ∧ inN x1 256 ∧ inN x2 256
theorem s_canJudge {f : Nat} {x1 x2 : Int32} {μ : mH} {Q : Int32 → mH → Prop} (hf : f ≤ 1) (h4 : μ 4 1 0 = nI f) (k1 : cjok f x1 x2 → Q 1 μ) (k0 : ¬ cjok f x1 x2 → Q 0 μ) : cwi Γ M_X11_canJudge [aR 11 0, aI x1, aI x2] μ Q := by
  refine u_X11_canJudge ?_
  rw [h4]
  refine pk_eq f 0 (fun c => k0 (fun q => by have := q.1; omega)) (fun c => ?_)
  have rg2 : ∀ {A B : Prop} (x : Int32), (¬ inN x 256 → A) → (inN x 256 → B) → ((x < 0 → A) ∧ (¬ x < 0 → ((255 < x → A) ∧ (¬ 255 < x → B)))) := fun x a b => by
    refine ⟨fun h => a (inN_neg h (by decide)), fun h => ?_⟩
    obtain ⟨k, hk, rfl⟩ := nI_of h
    exact pk_lt 255 k (fun q => a (inN_no (by omega) hk)) (fun q => b (inN_of (by omega) (by decide)))
  exact rg2 x1 (fun h => k0 (fun q => h q.2.1)) (fun i1 => rg2 x2 (fun h => k0 (fun q => h q.2.2)) (fun i2 => k1 ⟨by omega, i1, i2⟩))
theorem s_isSector {f : Nat} {x1 x2 : Int32} {μ : mH} {Q : Int32 → mH → Prop} (hf : f ≤ 1) (h4 : μ 12 0 8 = nI f) (k1 : cjok f x1 x2 → Q 1 μ) (k0 : ¬ cjok f x1 x2 → Q 0 μ) : cwi Γ M_X12_isSector [aR 12 0, aI x1, aI x2] μ Q := by
  refine u_X12_isSector ?_
  rw [h4]
  refine pk_eq f 0 (fun c => k0 (fun q => by have := q.1; omega)) (fun c => s_inN (n := 256) (by decide) rfl (fun h => ⟨fun _ => k0 (fun q => h q.2.1), fun z => absurd rfl z⟩) (fun i1 => ⟨fun z => absurd z (by decide), fun _ => s_inN (n := 256) (by decide) rfl (fun h => ⟨fun _ => k0 (fun q => h q.2.2), fun z => absurd rfl z⟩) (fun i2 => ⟨fun z => absurd z (by decide), fun _ => k1 ⟨by omega, i1, i2⟩⟩)⟩))
def stV (x : Int32) (v n k : Nat) : Int32 := if x = 0 then nI v else if x = 1 then nI n else nI k
theorem c_status {fm : Nat → Nat} {f nr : Nat} {dr ml : Nat → Nat} {st : Nat → Nat → Nat} {x1 x2 x3 : Int32} {μ : mH} {Q : Int32 → mH → Prop} (hf : f ≤ 1) (h4 : μ 4 1 0 = nI f) (hO : f = 1 → OKF fm) (hF : FMC 1 fm μ) (hR : RDC fm nr dr ml st μ) (hJ : JC fm nr ml st μ)
    (k1 : cjok f x1 x2 → inN x3 3 → ∀ v dat μ', VER fm (tn x1) (tn x2) (gN fm nr ml st (tn x1) (tn x2)) (gV fm nr ml st (tn x1) (tn x2)) (gR fm nr ml st (tn x1) (tn x2)) v dat → JC fm nr ml st μ' → RDC fm nr dr ml st μ' → FRK μ μ' → Q (stV x3 v (gN fm nr ml st (tn x1) (tn x2)) (fb_ct (gR fm nr ml st (tn x1) (tn x2)) (gN fm nr ml st (tn x1) (tn x2)))) μ')
    (k0 : ¬ (cjok f x1 x2 ∧ inN x3 3) → Q (-1) μ) : cwi Γ M_X11_status [aR 11 0, aI x1, aI x2, aI x3] μ Q := by
  rcases Int32_cases x3 with hn | ⟨k, hk, rfl⟩
  · exact u_X11_status ⟨fun _ => k0 (fun q => inN_neg hn (by decide) q.2), fun z => absurd hn z⟩
  · refine u_X11_status ⟨fun z => absurd z (nI_pos hk), fun _ => pk_lt 2 k (fun q => k0 (fun z => inN_no (by omega) hk z.2)) (fun q => s_canJudge hf h4 (fun ok => ⟨fun _ => ?_, fun z => absurd z (by decide)⟩) (fun no => ⟨fun z => absurd rfl z, fun _ => k0 (fun z => no z.1)⟩))⟩
    obtain ⟨f1, i1, i2⟩ := ok
    rw [i1.1, i2.1]
    refine c_judge i1.2 i2.2 (hO f1) hF hR hJ (fun μ1 V1 J1 R1 M1 K1 => ?_)
    obtain ⟨v, dat, v1, v2, v3, v4⟩ := V1
    have k := k1 ⟨f1, i1, i2⟩ (inN_of (by omega) (by decide)) v dat μ1 v1 J1 R1 K1
    unfold stV at k
    rw [v2, v3.1, v3.2.1]
    refine ⟨fun z => by rw [if_pos z] at k; exact k, fun z => by rw [z] at k; exact k, fun n0 n1 => by rw [if_neg n0, if_neg n1] at k; exact k⟩
theorem m_status {fm : Nat → Nat} {f nr : Nat} {dr ml : Nat → Nat} {st : Nat → Nat → Nat} {x1 x2 x3 : Int32} {μ : mH} {Q : Int32 → mH → Prop} (hf : f ≤ 1) (h4 : μ 12 0 8 = nI f) (hO : f = 1 → OKF fm) (hF : f = 1 → FMM fm μ) (hR : RDM nr dr ml st μ)
    (k1 : cjok f x1 x2 → inN x3 3 → ∀ v dat μ', VER fm (tn x1) (tn x2) (gN fm nr ml st (tn x1) (tn x2)) (gV fm nr ml st (tn x1) (tn x2)) (gR fm nr ml st (tn x1) (tn x2)) v dat → FRS μ μ' → Q (stV x3 v (gN fm nr ml st (tn x1) (tn x2)) (fb_ct (gR fm nr ml st (tn x1) (tn x2)) (gN fm nr ml st (tn x1) (tn x2)))) μ')
    (k0 : ¬ (cjok f x1 x2 ∧ inN x3 3) → Q (-1) μ) : cwi Γ M_X12_status [aR 12 0, aI x1, aI x2, aI x3] μ Q := by
  refine u_X12_status (s_isSector hf h4 (fun ok => ⟨fun z => absurd z (by decide), fun _ => s_inN (n := 3) (by decide) rfl (fun h => ⟨fun z => absurd rfl z, fun _ => k0 (fun q => h q.2)⟩) (fun i3 => ⟨fun _ => ?_, fun z => absurd z (by decide)⟩)⟩) (fun no => ⟨fun _ => k0 (fun q => no q.1), fun z => absurd rfl z⟩))
  have k1 := k1 ok i3
  obtain ⟨f1, i1, i2⟩ := ok
  have hn8 := gN_le (fm := fm) (ml := ml) (st := st) (T := tn x1) (S := tn x2) hR.1
  conv => arg 3; rw [i1.1, i2.1]
  refine m_statusOf i1.2 i2.2 (hO f1) (hF f1) hR (fun v dat μ1 v1 _ C1 F1 => ?_)
  have k := k1 v dat μ1 v1 F1
  unfold stV at k
  generalize gN fm nr ml st (tn x1) (tn x2) = n at *
  generalize gV fm nr ml st (tn x1) (tn x2) = V at *
  generalize gR fm nr ml st (tn x1) (tn x2) = r at *
  have lp : ∀ d c, c + d = n → aw Γ M_X12_status 34 [aR 12 0, aX, aX, aI x3, aI (nI v), aI (nI (fb_ct r c)), aI (nI c)] [] μ1 (rI Q) := by
    intro d
    induction d with
    | zero =>
      intro c hc
      obtain rfl : c = n := by omega
      refine u_X12_status_34 ?_
      rw [C1.1]
      refine br_t (nI_le (Nat.le_refl _) (by omega)) ⟨fun n0 => ⟨fun n1 => ?_, fun n1 => ?_⟩, fun n0 => ?_⟩
      · rw [if_neg n0, if_neg n1] at k; exact k
      · rw [if_neg n0, if_pos n1] at k; exact k
      · rw [if_pos n0] at k; exact k
    | succ d ih =>
      intro c hc
      have go := ih (c + 1) (by omega)
      rw [fb_ct_succ] at go
      refine u_X12_status_34 ?_
      rw [C1.1, tn_nI (by omega), (C1.2 c (by omega)).2, nI_1 (fb_ct r c), nI_1 c, show ∀ a, nI a + (0 : Int32) = nI a from fun a => nI_add a 0]
      refine br_f (nI_ge (by omega) (by omega)) ⟨vp_in_nI (by omega) (by decide), fun y => ?_, fun y => ?_⟩
      · cases e : r c
        · rw [e] at go; exact go
        · rw [e] at y; exact absurd y (by decide)
      · cases e : r c
        · rw [e] at y; exact absurd rfl y
        · rw [e] at go; exact go
  exact lp n 0 (Nat.zero_add _)
end PST
