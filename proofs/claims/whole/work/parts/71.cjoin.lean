/-! JOINED, by the class -/
def dUn (f0 f1 : Nat → Nat) (c : Nat) : Bool := decide (f0 c ≠ f1 c)
def dmx (f0 f1 : Nat → Nat) (j c : Nat) : Nat := if dUn f0 f1 c && j.testBit (fb_ct (dUn f0 f1) c) then f1 c else f0 c
def dF (f0 f1 hd ln : Nat → Nat) (nf j : Nat) : Nat := mi (dmx f0 f1 j) hd ln nf
def dbt (F : Nat → Nat) (j b : Nat) : Bool := decide (F j < F b) || (decide (F j = F b) && decide (fb_ct j.testBit 24 < fb_ct b.testBit 24))
def dbs (F : Nat → Nat) : Nat → Nat
  | 0 => 0
  | j + 1 => if dbt F (j + 1) (dbs F j) then j + 1 else dbs F j
def dJ (f0 f1 hd ln : Nat → Nat) (nf : Nat) : Nat → Nat := dmx f0 f1 (dbs (dF f0 f1 hd ln nf) (2 ^ fb_ct (dUn f0 f1) 24 - 1))
theorem dmx_no {f0 f1 : Nat → Nat} {j c : Nat} (h : dUn f0 f1 c = false) : dmx f0 f1 j c = f0 c := by unfold dmx; rw [h]; rfl
theorem dmx_at {f0 f1 : Nat → Nat} {j c : Nat} (h : dUn f0 f1 c = true) : dmx f0 f1 j c = if j.testBit (fb_ct (dUn f0 f1) c) then f1 c else f0 c := by unfold dmx; rw [h]; rfl
theorem dmx_le {f0 f1 : Nat → Nat} {j c : Nat} (h0 : f0 c ≤ 26) (h1 : f1 c ≤ 26) : dmx f0 f1 j c ≤ 26 := by unfold dmx; split <;> assumption
theorem dbs_le (F : Nat → Nat) : ∀ n, dbs F n ≤ n
  | 0 => Nat.le_refl _
  | n + 1 => by
    have := dbs_le F n
    unfold dbs
    split <;> omega
theorem mi_le (row hd ln : Nat → Nat) (nf : Nat) (h : nf ≤ 6) : mi row hd ln nf ≤ 200 := by
  have h1 := mall_le row hd ln nf
  have h2 := fb_ct_le (mlp row (mcov row hd nf)) 24
  unfold mi
  omega
def UL (f0 f1 : Nat → Nat) (μ : mH) : Prop := μ 0 0 7 = nI (fb_ct (dUn f0 f1) 24) ∧ ∀ c, c < 24 → dUn f0 f1 c = true → μ 36 0 (fb_ct (dUn f0 f1) c) = nI c
theorem ct_in {p : Nat → Bool} {c n : Nat} (hc : c < n) (h : p c = true) : fb_ct p c < fb_ct p n := by
  have h1 := fb_ct_succ p c
  rw [h] at h1
  have h2 := fb_ct_mono p (show c + 1 ≤ n by omega)
  simp at h1
  omega
section PJC
variable {Γ : cx_T}
theorem fu_lp {f0 f1 : Nat → Nat} {μ0 : mH} {Q : Int32 → mH → Prop} (h0 : RW 0 f0 μ0) (h1 : RW 1 f1 μ0)
    (k1 : ∀ μ', fb_ct (dUn f0 f1) 24 ≤ 12 → UL f0 f1 μ' → Fr [0, 36] μ0 μ' → (∀ s, s ≠ 7 → μ' 0 0 s = μ0 0 0 s) → Q 1 μ')
    (k0 : ∀ μ', 12 < fb_ct (dUn f0 f1) 24 → Fr [0, 36] μ0 μ' → (∀ s, s ≠ 7 → μ' 0 0 s = μ0 0 0 s) → Q 0 μ') :
    ∀ (d c : Nat) (μ : mH), c + d = 24 → fb_ct (dUn f0 f1) c ≤ 12 → Fr [0, 36] μ0 μ → (∀ s, s ≠ 7 → μ 0 0 s = μ0 0 0 s) → μ 0 0 7 = nI (fb_ct (dUn f0 f1) c) → (∀ c', c' < c → dUn f0 f1 c' = true → μ 36 0 (fb_ct (dUn f0 f1) c') = nI c') → aw Γ M_X0_findUnlike 7 [aR 0 0, aI (nI c)] [] μ (rI Q) := by
  intro d
  induction d with
  | zero =>
    intro c μ hc hk hF hs h7 hu
    obtain rfl : c = 24 := by omega
    exact u_X0_findUnlike_7 (br_t (by decide) (k1 μ hk ⟨h7, hu⟩ hF hs))
  | succ d ih =>
    intro c μ hc hk hF hs h7 hu
    have hlt : c < 24 := by omega
    have e := fb_ct_succ (dUn f0 f1) c
    refine u_X0_findUnlike_7 (br_f (nI_ge (b := 24) hlt (by decide)) ⟨vp_in_nI hlt (by decide), vp_in_nI hlt (by decide), ?_⟩)
    obtain ⟨a1, a2⟩ := h0 c hlt
    obtain ⟨b1, b2⟩ := h1 c hlt
    rw [tn_nI (by omega), Fr_at hF (by decide), Fr_at hF (by decide), a2, b2, h7, nI_1, nI_1]
    refine ⟨fun q => ?_, fun q => ?_⟩
    · have q := (nI_eq (by omega) (by omega)).mp q
      have u : dUn f0 f1 c = false := by simp [dUn, q]
      rw [u] at e
      refine ih (c + 1) μ (by omega) (by rw [e]; exact hk) hF hs (by rw [e]; exact h7) (fun c' h h' => ?_)
      by_cases z : c' = c
      · subst z; rw [u] at h'; cases h'
      · exact hu c' (by omega) h'
    · have u : dUn f0 f1 c = true := by
        simp [dUn]
        intro z
        exact q (by rw [z])
      rw [u] at e
      simp only [if_true] at e
      refine pk_lt (fb_ct (dUn f0 f1) c) 12 (fun l => ⟨vp_in_nI l (by decide), ?_⟩) (fun l => k0 μ ?_ hF hs)
      · rw [tn_nI (by omega)]
        refine ih (c + 1) _ (by omega) (by omega) (Fr_st2 (Fr_st2 hF (by decide)) (by decide)) (fun s z => by rw [sto_s z, sto_K (by decide)]; exact hs s z) (by rw [e]; exact sto_eq) (fun c' h h' => ?_)
        rw [sto_K (by decide)]
        by_cases z : c' = c
        · subst z; exact sto_eq
        · have := ct_in (n := c) (by omega) h'
          rw [sto_s (by omega)]
          exact hu c' (by omega) h'
      · have := ct_in hlt u
        omega
theorem c_findUnlike {f0 f1 : Nat → Nat} {μ : mH} {Q : Int32 → mH → Prop} (h0 : RW 0 f0 μ) (h1 : RW 1 f1 μ)
    (k1 : ∀ μ', fb_ct (dUn f0 f1) 24 ≤ 12 → UL f0 f1 μ' → Fr [0, 36] μ μ' → (∀ s, s ≠ 7 → μ' 0 0 s = μ 0 0 s) → Q 1 μ')
    (k0 : ∀ μ', 12 < fb_ct (dUn f0 f1) 24 → Fr [0, 36] μ μ' → (∀ s, s ≠ 7 → μ' 0 0 s = μ 0 0 s) → Q 0 μ') : cwi Γ M_X0_findUnlike [aR 0 0] μ Q :=
  u_X0_findUnlike (fu_lp h0 h1 k1 k0 24 0 _ rfl (by show 0 ≤ 12; decide) (Fr_sto (by decide)) (fun s z => sto_s z) sto_eq (fun c h => absurd h (by omega)))
theorem ch_lp {f0 f1 : Nat → Nat} {ch pv : Nat} {x2 : Int32} {μ0 : mH} {Q : mH → Prop} (h0 : RW 0 f0 μ0) (h1 : RW 1 f1 μ0) (hU : UL f0 f1 μ0) (h12 : fb_ct (dUn f0 f1) 24 ≤ 12) (hch : ch < 2 ^ 31)
    (hx : ∀ i, i < 12 → x2 >>> (nI i &&& 31) = 0 → ∀ i', i ≤ i' → pv.testBit i' = ch.testBit i')
    (kk : ∀ μ', RW 2 (dmx f0 f1 ch) μ' → Fr [35] μ0 μ' → (∀ r, r ≠ 2 → μ' 35 r = μ0 35 r) → Q μ') :
    ∀ (d i : Nat) (μ : mH), i + d = fb_ct (dUn f0 f1) 24 → Fr [35] μ0 μ → (∀ r, r ≠ 2 → μ 35 r = μ0 35 r) → (∀ c, c < 24 → μ 35 2 c = nI (dmx f0 f1 (if fb_ct (dUn f0 f1) c < i then ch else pv) c)) → aw Γ M_X0_choose 2 [aR 0 0, aI (nI ch), aI x2, aI (nI i), aX] [] μ (rV Q) := by
  intro d
  have fin : ∀ (i : Nat) (μ : mH), (∀ c, c < 24 → dUn f0 f1 c = true → i ≤ fb_ct (dUn f0 f1) c → pv.testBit (fb_ct (dUn f0 f1) c) = ch.testBit (fb_ct (dUn f0 f1) c)) → (∀ c, c < 24 → μ 35 2 c = nI (dmx f0 f1 (if fb_ct (dUn f0 f1) c < i then ch else pv) c)) → RW 2 (dmx f0 f1 ch) μ := by
    intro i μ hp hr c hc
    refine ⟨dmx_le (h0 c hc).1 (h1 c hc).1, ?_⟩
    rw [hr c hc]
    congr 1
    by_cases z : fb_ct (dUn f0 f1) c < i
    · rw [if_pos z]
    · rw [if_neg z]
      by_cases u : dUn f0 f1 c = true
      · rw [dmx_at u, dmx_at u, hp c hc u (by omega)]
      · have u : dUn f0 f1 c = false := by simpa using u
        rw [dmx_no u, dmx_no u]
  induction d with
  | zero =>
    intro i μ hi hF hr hc
    refine u_X0_choose_2 ?_
    rw [Fr_at hF (by decide), hU.1]
    exact br_t (nI_le (by omega) (by omega)) (kk μ (fin i μ (fun c h u z => by have := ct_in h u; omega) hc) hF hr)
  | succ d ih =>
    intro i μ hi hF hr hc
    refine u_X0_choose_2 ?_
    rw [Fr_at hF (by decide), hU.1]
    refine br_f (nI_ge (by omega) (by omega)) ⟨fun q => ?_, fun q => ⟨vp_in_nI (by omega) (by decide), ?_⟩⟩
    · exact kk μ (fin i μ (fun c h u z => hx i (by omega) q _ z) hc) hF hr
    · obtain ⟨c, c1, c2, c3⟩ := fb_ct_kth (show i < fb_ct (dUn f0 f1) 24 by omega)
      have hu := hU.2 c c1 c2
      rw [c3] at hu
      rw [tn_nI (by omega), Fr_at hF (show 36 ∉ [35] by decide), hu, tn_nI (by omega), hr 0 (by decide), hr 1 (by decide), (h0 c c1).2, (h1 c c1).2, nI_1]
      have go : ∀ v, v = dmx f0 f1 ch c → aw Γ M_X0_choose 2 [aR 0 0, aI (nI ch), aI x2, aI (nI (i + 1)), aX] [] (sto μ 35 2 c (nI v)) (rV Q) := by
        intro v hv
        refine ih (i + 1) _ (by omega) (Fr_st2 hF (by decide)) (fun r z => by funext s; rw [sto_i z, hr r z]) (fun c' h' => ?_)
        by_cases z : c' = c
        · subst z
          rw [sto_eq, hv, if_pos (by omega)]
        · rw [sto_s z, hc c' h']
          by_cases u : dUn f0 f1 c' = true
          · have ne : fb_ct (dUn f0 f1) c' ≠ i := fun e => z (fb_ct_kth_one u c2 (by omega))
            by_cases y : fb_ct (dUn f0 f1) c' < i
            · rw [if_pos y, if_pos (by omega)]
            · rw [if_neg y, if_neg (by omega)]
          · have u : dUn f0 f1 c' = false := by simpa using u
            rw [dmx_no u, dmx_no u]
      rw [dmx_at c2, c3] at go
      by_cases b : ch.testBit i = true
      · rw [b] at go
        exact ⟨fun e => absurd e (mb_1 hch (by omega) b), fun _ => ⟨vp_in_nI c1 (by decide), vp_in_nI c1 (by decide), go _ rfl⟩⟩
      · have b : ch.testBit i = false := by simpa using b
        rw [b] at go
        exact ⟨fun _ => ⟨vp_in_nI c1 (by decide), vp_in_nI c1 (by decide), go _ rfl⟩, fun e => absurd (mb_0 hch (by omega) b) e⟩
theorem c_choose {f0 f1 : Nat → Nat} {ch pv : Nat} {x2 : Int32} {μ : mH} {Q : mH → Prop} (h0 : RW 0 f0 μ) (h1 : RW 1 f1 μ) (hR : RW 2 (dmx f0 f1 pv) μ) (hU : UL f0 f1 μ) (h12 : fb_ct (dUn f0 f1) 24 ≤ 12) (hch : ch < 2 ^ 31)
    (hx : ∀ i, i < 12 → x2 >>> (nI i &&& 31) = 0 → ∀ i', i ≤ i' → pv.testBit i' = ch.testBit i')
    (kk : ∀ μ', RW 2 (dmx f0 f1 ch) μ' → Fr [35] μ μ' → (∀ r, r ≠ 2 → μ' 35 r = μ 35 r) → Q μ') : cwv Γ M_X0_choose [aR 0 0, aI (nI ch), aI x2] μ Q :=
  u_X0_choose (ch_lp h0 h1 hU h12 hch hx kk _ 0 μ (Nat.zero_add _) Fr_rf (fun _ _ => rfl) (fun c hc => by rw [if_neg (by omega)]; exact (hR c hc).2))
theorem RW_fr {i : Nat} {row : Nat → Nat} {l : List Nat} {μ μ' : mH} (h : RW i row μ) (hF : Fr l μ μ') (hl : 35 ∉ l) : RW i row μ' := fun c hc => by rw [Fr_at hF hl]; exact h c hc
theorem RW_35 {i : Nat} {row : Nat → Nat} {μ μ' : mH} (h : RW i row μ) (hr : μ' 35 i = μ 35 i) : RW i row μ' := fun c hc => by rw [hr]; exact h c hc
theorem HD_fr {nf : Nat} {hd ln : Nat → Nat} {l : List Nat} {μ μ' : mH} (h : HD nf hd ln μ) (hF : Fr l μ μ') (h0 : μ' 0 0 0 = μ 0 0 0) (h37 : 37 ∉ l) (h38 : 38 ∉ l) : HD nf hd ln μ' := ⟨h.1, by rw [h0]; exact h.2.1, fun f hf => by rw [Fr_at hF h37, Fr_at hF h38]; exact h.2.2 f hf⟩
theorem UL_fr {f0 f1 : Nat → Nat} {l : List Nat} {μ μ' : mH} (h : UL f0 f1 μ) (hF : Fr l μ μ') (h0 : 0 ∉ l) (h36 : 36 ∉ l) : UL f0 f1 μ' := ⟨by rw [Fr_at hF h0]; exact h.1, fun c hc u => by rw [Fr_at hF h36]; exact h.2 c hc u⟩
theorem xor_low {j i : Nat} (hj : j < 2 ^ 31) (h1 : 1 ≤ j) (hi : i < 32) (h : (nI j ^^^ (nI j - 1)) >>> (nI i &&& 31) = 0) (i' : Nat) (hi' : i ≤ i') : (j - 1).testBit i' = j.testBit i' := by
  have hx : j ^^^ (j - 1) < 2 ^ 31 := Nat.xor_lt_two_pow hj (by omega)
  rw [show nI j - (1 : Int32) = nI (j - 1) from pk_sub (b := 1) h1, fb_xorI, pk_shrN hx _ i (sm31 i hi)] at h
  have hd := Nat.div_le_self (j ^^^ (j - 1)) (2 ^ i)
  have h : (j ^^^ (j - 1)) / 2 ^ i = 0 := (nI_eq (b := 0) (by omega) (by decide)).mp h
  have hlt : j ^^^ (j - 1) < 2 ^ i := by
    rcases Nat.div_eq_zero_iff.mp h with z | z
    · have := Nat.two_pow_pos i; omega
    · exact z
  have hb := Nat.testBit_lt_two_pow (Nat.lt_of_lt_of_le hlt (Nat.pow_le_pow_right (by decide) hi'))
  rw [Nat.testBit_xor] at hb
  revert hb
  cases j.testBit i' <;> cases (j - 1).testBit i' <;> simp
theorem jn_lp {f0 f1 hd ln : Nat → Nat} {nf u : Nat} {μ0 : mH} {Q : mH → Prop} (eu : fb_ct (dUn f0 f1) 24 = u) (h0 : RW 0 f0 μ0) (h1 : RW 1 f1 μ0) (hH : HD nf hd ln μ0) (hU : UL f0 f1 μ0) (h12 : u ≤ 12)
    (kk : ∀ μ', RW 2 (dJ f0 f1 hd ln nf) μ' → Fr [35] μ0 μ' → (∀ r, r ≠ 2 → μ' 35 r = μ0 35 r) → Q μ') :
    ∀ (d j : Nat) (μ : mH), 1 ≤ j → j + d = 2 ^ u → Fr [35] μ0 μ → (∀ r, r ≠ 2 → μ 35 r = μ0 35 r) → RW 2 (dmx f0 f1 (j - 1)) μ → aw Γ M_X0_join 28 [aR 0 0, aI (nI (dbs (dF f0 f1 hd ln nf) (j - 1))), aI (nI (dF f0 f1 hd ln nf (dbs (dF f0 f1 hd ln nf) (j - 1)))), aI (nI j), aX, aX] [] μ (rV Q) := by
  have hp : 2 ^ u ≤ 2 ^ 12 := Nat.pow_le_pow_right (by decide) h12
  have e1 : (1 : Int32) <<< (μ0 0 0 7 &&& 31) = nI (2 ^ u) := by
    rw [hU.1, eu, show (1 : Int32) = nI 1 from rfl, pk_shlN (n := 1) (nI u &&& 31) u (sm31 u (by omega)) (by omega), Nat.one_mul]
  intro d
  induction d with
  | zero =>
    intro j μ hj hjd hF hr hR
    obtain rfl : j = 2 ^ u := by omega
    have hb := dbs_le (dF f0 f1 hd ln nf) (2 ^ u - 1)
    refine u_X0_join_28 ?_
    rw [Fr_at hF (by decide), e1]
    refine br_t (nI_le (Nat.le_refl _) (by omega)) (c_choose (RW_35 h0 (hr 0 (by decide))) (RW_35 h1 (hr 1 (by decide))) hR (UL_fr hU hF (by decide) (by decide)) (by omega) (by omega) (fun i hi z => absurd z ?_) (fun μ' R' F' r' => kk μ' ?_ (Fr_tr hF F') (fun r z => (r' r z).trans (hr r z))))
    · revert i
      decide +kernel
    · unfold dJ
      rw [eu]
      exact R'
  | succ d ih =>
    intro j μ hj hjd hF hr hR
    have hb := dbs_le (dF f0 f1 hd ln nf) (j - 1)
    refine u_X0_join_28 ?_
    rw [Fr_at hF (by decide), e1]
    refine br_f (nI_ge (by omega) (by omega)) (c_choose (RW_35 h0 (hr 0 (by decide))) (RW_35 h1 (hr 1 (by decide))) hR (UL_fr hU hF (by decide) (by decide)) (by omega) (by omega) (fun i hi z => xor_low (by omega) hj (by omega) z) (fun μ2 R2 F2 r2 => ?_))
    have F3 := Fr_tr hF F2
    have r3 : ∀ r, r ≠ 2 → μ2 35 r = μ0 35 r := fun r z => (r2 r z).trans (hr r z)
    refine c_faultsBy (HD_fr hH F3 (Fr_at F3 (by decide) _ _) (by decide) (by decide)) R2 ?_
    refine s_bitCount (by omega) (s_bitCount (by omega) ?_)
    have go := ih (j + 1) μ2 (by omega) (by omega) F3 r3 (by rw [show j + 1 - 1 = j by omega]; exact R2)
    have ed : dbs (dF f0 f1 hd ln nf) (j + 1 - 1) = if dbt (dF f0 f1 hd ln nf) j (dbs (dF f0 f1 hd ln nf) (j - 1)) then j else dbs (dF f0 f1 hd ln nf) (j - 1) := by
      have : j + 1 - 1 = (j - 1) + 1 := by omega
      rw [this]
      show (if dbt _ (j - 1 + 1) _ then j - 1 + 1 else _) = _
      rw [show j - 1 + 1 = j by omega]
    rw [ed] at go
    have m1 := mi_le (dmx f0 f1 j) hd ln nf hH.1
    have m2 := mi_le (dmx f0 f1 (dbs (dF f0 f1 hd ln nf) (j - 1))) hd ln nf hH.1
    have c1 := fb_ct_le j.testBit 24
    have c2 := fb_ct_le (dbs (dF f0 f1 hd ln nf) (j - 1)).testBit 24
    change dF f0 f1 hd ln nf j ≤ 200 at m1
    change dF f0 f1 hd ln nf (dbs (dF f0 f1 hd ln nf) (j - 1)) ≤ 200 at m2
    show _ ∧ _
    rw [show mi (dmx f0 f1 j) hd ln nf = dF f0 f1 hd ln nf j from rfl]
    generalize dbs (dF f0 f1 hd ln nf) (j - 1) = b at *
    generalize dF f0 f1 hd ln nf = F at *
    refine pk_le (fb_ct b.testBit 24) (fb_ct j.testBit 24) (fun q => ?_) (fun q => ?_) <;> refine u_X0_join_74 ?_ <;> rw [nI_1] <;> refine pk_lt (F j) (F b) (fun l => ?_) (fun l => ⟨fun e => ?_, fun e => ?_⟩)
    · have t : dbt F j b = true := by simp [dbt, l]
      rw [t] at go
      exact go
    · have t : dbt F j b = false := by simp [dbt]; omega
      rw [t] at go
      exact go
    · have t : dbt F j b = false := by simp [dbt]; omega
      rw [t] at go
      exact ⟨fun _ => go, fun z => absurd rfl z⟩
    · have t : dbt F j b = true := by simp [dbt, l]
      rw [t] at go
      exact go
    · have t : dbt F j b = false := by
        have : F j ≠ F b := fun z => e (by rw [z])
        simp [dbt]; omega
      rw [t] at go
      exact go
    · have t : dbt F j b = true := by
        have e := (nI_eq (by omega) (by omega)).mp e
        simp [dbt, e, q]
      rw [t] at go
      exact ⟨fun z => absurd z (by decide), fun _ => go⟩
theorem c_join {f0 f1 hd ln : Nat → Nat} {nf : Nat} {μ : mH} {Q : mH → Prop} (h0 : RW 0 f0 μ) (h1 : RW 1 f1 μ) (hH : HD nf hd ln μ) (hU : UL f0 f1 μ) (h12 : fb_ct (dUn f0 f1) 24 ≤ 12)
    (kk : ∀ μ', RW 2 (dJ f0 f1 hd ln nf) μ' → Fr [35] μ μ' → (∀ r, r ≠ 2 → μ' 35 r = μ 35 r) → Q μ') : cwv Γ M_X0_join [aR 0 0] μ Q := by
  refine u_X0_join ?_
  have F1 : Fr [35] μ (cpy μ 35 0 35 2 0 0 24) := fun K hK => by
    funext a s
    exact if_neg (fun z => hK (by rw [z.1]; decide))
  have r1 : ∀ r, r ≠ 2 → cpy μ 35 0 35 2 0 0 24 35 r = μ 35 r := fun r z => by
    funext s
    exact if_neg (fun y => z y.2.1)
  have z0 : ∀ c, dmx f0 f1 0 c = f0 c := fun c => by unfold dmx; simp
  have R1 : RW 2 (dmx f0 f1 0) (cpy μ 35 0 35 2 0 0 24) := fun c hc => by
    rw [z0 c]
    refine ⟨(h0 c hc).1, ?_⟩
    unfold cpy
    rw [if_pos ⟨rfl, rfl, by omega, by omega⟩, show 0 + (c - 0) = c by omega]
    exact (h0 c hc).2
  refine c_faultsBy (HD_fr hH F1 (Fr_at F1 (by decide) _ _) (by decide) (by decide)) R1 ?_
  have hp := Nat.two_pow_pos (fb_ct (dUn f0 f1) 24)
  exact jn_lp rfl h0 h1 hH hU h12 kk (2 ^ fb_ct (dUn f0 f1) 24 - 1) 1 _ (Nat.le_refl _) (by omega) F1 r1 R1
end PJC
