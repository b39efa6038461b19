/-! the FORMAT, and sums -/
def OKF (fm : Nat → Nat) : Prop := 8 ≤ fm 1 ∧ fm 1 ≤ 60 ∧ fm 2 ≤ 8 ∧ fm 3 < 65536 ∧ 1 ≤ fm 4 ∧ fm 4 ≤ 8 ∧ fm 5 < 3 ∧ fm 6 < 65536 ∧ fm 7 < 65536 ∧ fm 8 < 2
def FMC (i : Nat) (fm : Nat → Nat) (μ : mH) : Prop := ∀ s, 1 ≤ s → s ≤ 8 → μ 4 i s = nI (fm s)
def FMM (fm : Nat → Nat) (μ : mH) : Prop := μ 42 0 0 = nI (fm 1) ∧ μ 42 0 1 = nI (fm 2) ∧ μ 42 0 2 = nI (fm 3 / 256) ∧ μ 42 0 3 = nI (fm 3 % 256) ∧ μ 42 0 4 = nI (fm 4) ∧ μ 42 0 5 = nI (if fm 5 = 2 then 1 else fm 5 + 2) ∧ μ 42 0 6 = nI (fm 6) ∧ μ 42 0 7 = nI (fm 7) ∧ μ 42 0 8 = nI (fm 8)
def c1 (turn v : Nat) : Nat := ((2 * v) ^^^ (if v.testBit 15 then turn else 0)) % 65536
def cr (turn v : Nat) : Nat → Nat
  | 0 => v
  | i + 1 => c1 turn (cr turn v i)
def sw (fm : Nat → Nat) (v x : Nat) : Nat := if fm 5 = 0 then (v + x) % 65536 else if fm 5 = 1 then v ^^^ x else cr (fm 6) (v ^^^ (256 * x)) 8
def sm (fm f : Nat → Nat) : Nat → Nat
  | 0 => if fm 5 = 2 then fm 7 else 0
  | k + 1 => sw fm (sm fm f k) (f k)
theorem sw_lt (fm : Nat → Nat) {v x : Nat} (hv : v < 65536) (hx : x < 256) : sw fm v x < 65536 := by
  unfold sw
  split
  · exact Nat.mod_lt _ (by decide)
  · split
    · exact Nat.xor_lt_two_pow (n := 16) hv (by omega)
    · exact Nat.mod_lt _ (by decide)
theorem sm_lt {fm f : Nat → Nat} (h : OKF fm) : ∀ k, (∀ j, j < k → f j < 256) → sm fm f k < 65536
  | 0, _ => by
    obtain ⟨_, _, _, _, _, _, _, _, h7, _⟩ := h
    unfold sm
    split <;> omega
  | k + 1, hf => sw_lt fm (sm_lt h k (fun j hj => hf j (by omega))) (hf k (by omega))
theorem sm_add {fm f : Nat → Nat} (h : fm 5 = 0) : ∀ k, k ≤ 100 → (∀ j, j < k → f j < 256) → sm fm f k ≤ 255 * k
  | 0, _, _ => by unfold sm; rw [if_neg (by omega)]; decide
  | k + 1, hk, hf => by
    have h1 := sm_add h k (by omega) (fun j hj => hf j (by omega))
    have h2 := hf k (by omega)
    show sw fm (sm fm f k) (f k) ≤ _
    unfold sw
    rw [if_pos h, Nat.mod_eq_of_lt (by omega)]
    omega
theorem sm_cong {fm f g : Nat → Nat} : ∀ k, (∀ j, j < k → f j = g j) → sm fm f k = sm fm g k
  | 0, _ => rfl
  | k + 1, h => by
    show sw fm (sm fm f k) (f k) = sw fm (sm fm g k) (g k)
    rw [sm_cong k (fun j hj => h j (by omega)), h k (by omega)]
theorem c1_mod (turn V : Nat) (ht : turn < 65536) : ((2 * V) ^^^ (if V.testBit 15 then turn else 0)) % 65536 = c1 turn (V % 65536) := by
  unfold c1
  have e : (V % 65536).testBit 15 = V.testBit 15 := by
    rw [show 65536 = 2 ^ 16 from rfl, Nat.testBit_mod_two_pow]
    simp
  rw [e]
  have x := fun a b => Nat.xor_mod_two_pow (a := a) (b := b) (n := 16)
  rw [show 65536 = 2 ^ 16 from rfl, x, x]
  congr 1
  omega
theorem and_15 (V : Nat) (h : V < 2 ^ 31) : (nI V &&& (32768 : Int32) = 0) ↔ V.testBit 15 = false := fa_bit (n := V) (j := 15) (by decide)
section PSU
variable {Γ : cx_T}
theorem crc_lp {i v0 turn : Nat} {μ : mH} {Q : Int32 → mH → Prop} (ht : turn < 65536) (hT : μ 4 i 6 = nI turn) (kk : Q (nI (cr turn v0 8)) μ) :
    ∀ (d k V : Nat), k + d = 8 → V < 2 ^ (16 + k) → V % 65536 = cr turn v0 k → aw Γ M_X4_sumWith 36 [aR 4 i, aX, aX, aI (nI V), aI (nI k)] [] μ (rI Q) := by
  intro d
  induction d with
  | zero =>
    intro k V hk hV hc
    obtain rfl : k = 8 := by omega
    refine u_X4_sumWith_36 (br_t (by decide) ?_)
    rw [pk_andN (by omega) 16 (by decide), show V % 2 ^ 16 = V % 65536 from rfl, hc]
    exact kk
  | succ d ih =>
    intro k V hk hV hc
    have hp : 2 ^ (16 + k) ≤ 2 ^ 23 := Nat.pow_le_pow_right (by decide) (by omega)
    have hp1 : 2 ^ (16 + (k + 1)) = 2 * 2 ^ (16 + k) := by rw [← Nat.add_assoc, Nat.pow_succ]; omega
    have hp2 : 2 ^ 16 ≤ 2 ^ (16 + (k + 1)) := Nat.pow_le_pow_right (by decide) (by omega)
    have e2 : nI V <<< ((1 : Int32) &&& 31) = nI (2 * V) := by
      rw [pk_shlN (n := V) (1 &&& 31) 1 (by decide) (by omega)]
      congr 1
      omega
    have hm := c1_mod turn V ht
    rw [hc] at hm
    refine u_X4_sumWith_36 (br_f (nI_ge (b := 8) (by omega) (by decide)) ?_)
    rw [e2, hT, nI_1, fb_xorI]
    refine ⟨fun q => ?_, fun q => ?_⟩
    · have q := (and_15 V (by omega)).mp q
      rw [q] at hm
      refine ih (k + 1) _ (by omega) (by omega) ?_
      rw [← show c1 turn (cr turn v0 k) = cr turn v0 (k + 1) from rfl, ← hm]
      simp
    · have q : V.testBit 15 = true := by
        cases e : V.testBit 15
        · exact absurd ((and_15 V (by omega)).mpr e) q
        · rfl
      rw [q] at hm
      refine ih (k + 1) _ (by omega) (Nat.xor_lt_two_pow (by omega) (by omega)) ?_
      rw [← show c1 turn (cr turn v0 k) = cr turn v0 (k + 1) from rfl, ← hm]
      simp
theorem s_sumWith {i v x : Nat} {fm : Nat → Nat} {μ : mH} {Q : Int32 → mH → Prop} (hO : OKF fm) (hF : FMC i fm μ) (hv : v < 65536) (hx : x < 256) (kk : Q (nI (sw fm v x)) μ) : cwi Γ M_X4_sumWith [aR 4 i, aI (nI v), aI (nI x)] μ Q := by
  obtain ⟨o1, o2, o3, o4, o5, o6, o7, o8, o9, o10⟩ := hO
  refine u_X4_sumWith ?_
  rw [hF 5 (by decide) (by decide)]
  unfold sw at kk
  rcases (show fm 5 = 0 ∨ fm 5 = 1 ∨ fm 5 = 2 by omega) with e | e | e <;> rw [e] at kk ⊢
  · refine ⟨fun z => absurd rfl z, fun _ => ?_⟩
    rw [nI_add, pk_andN (by omega) 16 (by decide)]
    exact kk
  · refine ⟨fun _ => ⟨fun z => absurd rfl z, fun _ => ?_⟩, fun z => absurd z (by decide)⟩
    rw [fb_xorI]
    exact kk
  · refine ⟨fun _ => ⟨fun _ => ?_, fun z => absurd z (by decide)⟩, fun z => absurd z (by decide)⟩
    have h1 : v ^^^ 256 * x < 2 ^ 16 := Nat.xor_lt_two_pow (n := 16) hv (by omega)
    rw [pk_shlN (n := x) (8 &&& 31) 8 (by decide) (by omega), fb_xorI, show x * 2 ^ 8 = 256 * x by omega]
    exact crc_lp o8 (hF 6 (by decide) (by decide)) kk 8 0 _ rfl h1 (Nat.mod_eq_of_lt h1)
theorem s_first {i a b : Nat} {fm : Nat → Nat} {μ : mH} {Q : Int32 → mH → Prop} (hO : OKF fm) (hF : FMC i fm μ) (kk : Q (nI (if fm 8 = 0 then a else b)) μ) : cwi Γ M_X4_firstByte [aR 4 i, aI (nI a), aI (nI b)] μ Q := by
  have o10 := hO.2.2.2.2.2.2.2.2.2
  refine u_X4_firstByte ?_
  rw [hF 8 (by decide) (by decide)]
  refine pk_eq (fm 8) 0 (fun e => ?_) (fun e => ?_)
  · rw [if_pos e] at kk; exact kk
  · rw [if_neg e] at kk; exact kk
theorem s_second {i a b : Nat} {fm : Nat → Nat} {μ : mH} {Q : Int32 → mH → Prop} (hO : OKF fm) (hF : FMC i fm μ) (kk : Q (nI (if fm 8 = 0 then b else a)) μ) : cwi Γ M_X4_secondByte [aR 4 i, aI (nI a), aI (nI b)] μ Q := by
  have o10 := hO.2.2.2.2.2.2.2.2.2
  refine u_X4_secondByte ?_
  rw [hF 8 (by decide) (by decide)]
  refine pk_eq (fm 8) 0 (fun e => ?_) (fun e => ?_)
  · rw [if_pos e] at kk; exact kk
  · rw [if_neg e] at kk; exact kk
/-- the bytes 0 and 1 of f are the two ahead of the data, as track and number tell them -/
theorem s_sumHead {i tr nu : Nat} {fm f : Nat → Nat} {μ : mH} {Q : Int32 → mH → Prop} (hO : OKF fm) (hF : FMC i fm μ) (h0 : f 0 < 256) (h1 : f 1 < 256) (ha : (if fm 8 = 0 then tr else nu) = f 0) (hb : (if fm 8 = 0 then nu else tr) = f 1) (kk : Q (nI (sm fm f 2)) μ) : cwi Γ M_X4_sumOfHead [aR 4 i, aI (nI tr), aI (nI nu)] μ Q := by
  have l0 : sm fm f 0 < 65536 := sm_lt hO 0 (fun j hj => absurd hj (by omega))
  have go : aw Γ M_X4_sumOfHead 16 [aR 4 i, aI (nI tr), aI (nI nu), aX] [aI (nI (sm fm f 0))] μ (rI Q) := by
    refine u_X4_sumOfHead_16 (s_first hO hF ?_)
    rw [ha]
    refine s_sumWith hO hF l0 h0 (s_second hO hF ?_)
    rw [hb]
    exact s_sumWith hO hF (sw_lt fm l0 h0) h1 kk
  have e5 := hF 5 (by decide) (by decide)
  have o7 := hO.2.2.2.2.2.2.1
  refine u_X4_sumOfHead ⟨fun z => ?_, fun z => ?_⟩
  · rw [e5] at z
    have : fm 5 ≠ 2 := fun q => z (by rw [q]; rfl)
    unfold sm at go
    rw [if_neg this] at go
    exact go
  · rw [e5] at z
    have : fm 5 = 2 := (nI_eq (b := 2) (by omega) (by decide)).mp z
    unfold sm at go
    rw [if_pos this] at go
    rw [hF 7 (by decide) (by decide)]
    exact go
theorem s_sumOf {i q tr nu : Nat} {fm f : Nat → Nat} {μ : mH} {Q : Int32 → mH → Prop} (hO : OKF fm) (hF : FMC i fm μ) (hf : ∀ j, j < 2 + fm 4 → f j < 256) (ha : (if fm 8 = 0 then tr else nu) = f 0) (hb : (if fm 8 = 0 then nu else tr) = f 1) (hd : ∀ j, j < fm 4 → μ 24 q j = nI (f (2 + j))) (kk : Q (nI (sm fm f (2 + fm 4))) μ) : cwi Γ M_X4_sumOf [aR 4 i, aI (nI tr), aI (nI nu), aR 24 q] μ Q := by
  have o5 := hO.2.2.2.2.1
  have o6 := hO.2.2.2.2.2.1
  refine u_X4_sumOf (s_sumHead hO hF (hf 0 (by omega)) (hf 1 (by omega)) ha hb ?_)
  have lp : ∀ d k, k + d = fm 4 → aw Γ M_X4_sumOf 11 [aR 4 i, aX, aX, aR 24 q, aI (nI (sm fm f (2 + k))), aI (nI k)] [] μ (rI Q) := by
    intro d
    induction d with
    | zero =>
      intro k hk
      obtain rfl : k = fm 4 := by omega
      refine u_X4_sumOf_11 ?_
      rw [hF 4 (by decide) (by decide)]
      exact br_t (nI_le (Nat.le_refl _) (by omega)) kk
    | succ d ih =>
      intro k hk
      refine u_X4_sumOf_11 ?_
      rw [hF 4 (by decide) (by decide), tn_nI (by omega), hd k (by omega)]
      refine br_f (nI_ge (by omega) (by omega)) (br_f (nI_ge (b := 8) (by omega) (by decide)) ⟨vp_in_nI (by omega) (by decide), s_sumWith hO hF (sm_lt hO _ (fun j hj => hf j (by omega))) (hf (2 + k) (by omega)) ?_⟩)
      rw [nI_1]
      exact ih (k + 1) (by omega)
  exact lp (fm 4) 0 (Nat.zero_add _)
/-- the reference's sum of the bytes f -/
theorem m_sumOf {fm f : Nat → Nat} {μ : mH} {Q : Int32 → mH → Prop} (hO : OKF fm) (hF : FMM fm μ) (hf : ∀ j, j < 2 + fm 4 → f j < 256) (hd : ∀ j, j < 2 + fm 4 → μ 54 0 j = nI (f j)) (kk : Q (nI (sm fm f (2 + fm 4))) μ) : cwi Γ M_X12_sumOf [aR 12 0] μ Q := by
  obtain ⟨o1, o2, o3, o4, o5, o6, o7, o8, o9, o10⟩ := hO
  obtain ⟨f0, f1, f2, f3, f4, f5, f6, f7, f8⟩ := hF
  have em : (4 : Int32) + μ 42 0 4 = nI (4 + fm 4) := by rw [f4]; exact nI_add 4 _
  have lp : ∀ d k, k + d = 2 + fm 4 → aw Γ M_X12_sumOf 24 [aR 12 0, aI (nI (sm fm f k)), aI (nI k), aX] [] μ (rI Q) := by
    intro d
    induction d with
    | zero =>
      intro k hk
      obtain rfl : k = 2 + fm 4 := by omega
      refine u_X12_sumOf_24 (u_X12_many ?_)
      rw [em, show nI (4 + fm 4) - (2 : Int32) = nI (4 + fm 4 - 2) from pk_sub (b := 2) (by omega)]
      exact br_t (nI_le (by omega) (by omega)) kk
    | succ d ih =>
      intro k hk
      have go := ih (k + 1) (by omega)
      have hk2 := hf k (by omega)
      have hs : sm fm f k < 65536 := sm_lt ⟨o1, o2, o3, o4, o5, o6, o7, o8, o9, o10⟩ k (fun j hj => hf j (by omega))
      have es : sm fm f (k + 1) = sw fm (sm fm f k) (f k) := rfl
      refine u_X12_sumOf_24 (u_X12_many ?_)
      rw [em, show nI (4 + fm 4) - (2 : Int32) = nI (4 + fm 4 - 2) from pk_sub (b := 2) (by omega), f5, tn_nI (by omega), hd k (by omega)]
      refine br_f (nI_ge (by omega) (by omega)) ?_
      rw [es] at go
      unfold sw at go
      rcases (show fm 5 = 0 ∨ fm 5 = 1 ∨ fm 5 = 2 by omega) with e | e | e
      · have ha := sm_add (f := f) e k (by omega) (fun j hj => hf j (by omega))
        rw [if_pos e, Nat.mod_eq_of_lt (by omega)] at go
        rw [e]
        refine ⟨fun z => absurd rfl z, fun _ => ⟨vp_in_nI (by omega) (by decide), u_X12_sumOf_53 ?_⟩⟩
        rw [f5, e]
        refine ⟨fun _ => u_X12_sumOf_72 ?_, fun z => absurd z (by decide)⟩
        rw [f5, e, nI_add, nI_1]
        exact ⟨fun z => absurd z (by decide), fun _ => go⟩
      · rw [if_neg (by omega), if_pos e] at go
        rw [e]
        refine ⟨fun _ => u_X12_sumOf_53 ?_, fun z => absurd z (by decide)⟩
        rw [f5, e, tn_nI (by omega), hd k (by omega)]
        refine ⟨fun z => absurd rfl z, fun _ => ⟨vp_in_nI (by omega) (by decide), u_X12_sumOf_72 ?_⟩⟩
        rw [f5, e, fb_xorI, nI_1]
        exact ⟨fun z => absurd z (by decide), fun _ => go⟩
      · rw [if_neg (by omega), if_neg (by omega)] at go
        rw [e]
        refine ⟨fun _ => u_X12_sumOf_53 ?_, fun z => absurd z (by decide)⟩
        rw [f5, e]
        refine ⟨fun _ => u_X12_sumOf_72 ?_, fun z => absurd z (by decide)⟩
        rw [f5, e, tn_nI (by omega), hd k (by omega)]
        refine ⟨fun _ => ⟨vp_in_nI (by omega) (by decide), ?_⟩, fun z => absurd rfl z⟩
        rw [show (256 : Int32) * nI (f k) = nI (256 * f k) from pk_mul 256 _, fb_xorI]
        have h0 : sm fm f k ^^^ 256 * f k < 2 ^ 16 := Nat.xor_lt_two_pow (n := 16) hs (by omega)
        generalize sm fm f k ^^^ 256 * f k = v0 at *
        have lp2 : ∀ d2 i, i + d2 = 8 → aw Γ M_X12_sumOf 100 [aR 12 0, aI (nI (cr (fm 6) v0 i)), aI (nI k), aI (nI i)] [] μ (rI Q) := by
          intro d2
          induction d2 with
          | zero =>
            intro i hi
            obtain rfl : i = 8 := by omega
            refine u_X12_sumOf_100 (br_t (by decide) ?_)
            rw [nI_1]
            exact go
          | succ d2 ih2 =>
            intro i hi
            have h := ih2 (i + 1) (by omega)
            have hc : cr (fm 6) v0 i < 65536 := by
              cases i with
              | zero => exact h0
              | succ i => exact Nat.mod_lt _ (by decide)
            refine u_X12_sumOf_100 (br_f (nI_ge (b := 8) (by omega) (by decide)) (u_X12_bitOf ?_))
            rw [show (15 : Int32) = nI 15 from rfl, mb_t (by omega) (by decide), show (2 : Int32) * nI (cr (fm 6) v0 i) = nI (2 * cr (fm 6) v0 i) from pk_mul 2 _, f6, nI_1, show (0 : Int32) = nI 0 from rfl, fb_xorI, fb_xorI, pk_andN (Nat.xor_lt_two_pow (n := 32) (by omega) (by omega)) 16 (by decide), pk_andN (Nat.xor_lt_two_pow (n := 32) (by omega) (by omega)) 16 (by decide)]
            have ec : cr (fm 6) v0 (i + 1) = c1 (fm 6) (cr (fm 6) v0 i) := rfl
            rw [ec] at h
            unfold c1 at h
            cases e2 : (cr (fm 6) v0 i).testBit 15
            · rw [e2] at h
              exact ⟨fun _ => h, fun z => absurd z (by decide)⟩
            · rw [e2] at h
              exact ⟨fun z => absurd rfl z, fun _ => h⟩
        exact lp2 8 0 rfl
  have l := lp (2 + fm 4) 0 (Nat.zero_add _)
  unfold sm at l
  refine u_X12_sumOf ?_
  rw [f5, f7]
  rcases (show fm 5 = 0 ∨ fm 5 = 1 ∨ fm 5 = 2 by omega) with e | e | e <;> rw [e] at l ⊢
  · exact ⟨fun _ => l, fun z => absurd z (by decide)⟩
  · exact ⟨fun _ => l, fun z => absurd z (by decide)⟩
  · exact ⟨fun z => absurd rfl z, fun _ => l⟩
end PSU
