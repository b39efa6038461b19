/-! a choice spread over a mask -/
def dep : Nat → Nat → Nat → Nat
  | 0, _, _ => 0
  | w + 1, U, j => if U % 2 = 1 then 2 * dep w (U / 2) (j / 2) + j % 2 else 2 * dep w (U / 2) j
def inc (w U x : Nat) : Nat := ((x ||| (2 ^ w - (U + 1))) + 1) &&& U
theorem or2 (a b p q : Nat) (hp : p < 2) (hq : q < 2) : (2 * a + p) ||| (2 * b + q) = 2 * (a ||| b) + (p ||| q) := by
  have hpq : p ||| q < 2 := Nat.or_lt_two_pow (n := 1) hp hq
  have e1 : ((2 * a + p) ||| (2 * b + q)) / 2 = a ||| b := by
    rw [Nat.or_div_two]
    congr 1 <;> omega
  have e2 : ((2 * a + p) ||| (2 * b + q)) % 2 = p ||| q := by
    have := Nat.or_mod_two_pow (a := 2 * a + p) (b := 2 * b + q) (n := 1)
    rw [show 2 ^ 1 = 2 from rfl] at this
    rw [this, show (2 * a + p) % 2 = p by omega, show (2 * b + q) % 2 = q by omega]
  omega
theorem and2 (a b p q : Nat) (hp : p < 2) (hq : q < 2) : (2 * a + p) &&& (2 * b + q) = 2 * (a &&& b) + (p &&& q) := by
  have hpq : p &&& q < 2 := Nat.and_lt_two_pow (n := 1) _ hq
  have e1 : ((2 * a + p) &&& (2 * b + q)) / 2 = a &&& b := by
    rw [Nat.and_div_two]
    congr 1 <;> omega
  have e2 : ((2 * a + p) &&& (2 * b + q)) % 2 = p &&& q := by
    have := Nat.and_mod_two_pow (a := 2 * a + p) (b := 2 * b + q) (n := 1)
    rw [show 2 ^ 1 = 2 from rfl] at this
    rw [this, show (2 * a + p) % 2 = p by omega, show (2 * b + q) % 2 = q by omega]
  omega
theorem dep_lt : ∀ w U j, dep w U j < 2 ^ w
  | 0, _, _ => by show 0 < 2 ^ 0; decide
  | w + 1, U, j => by
    unfold dep
    have h1 := dep_lt w (U / 2) (j / 2)
    have h2 := dep_lt w (U / 2) j
    rw [Nat.pow_succ]
    split <;> omega
theorem ct_half (U c : Nat) : fb_ct U.testBit (c + 1) = (if U % 2 = 1 then 1 else 0) + fb_ct (U / 2).testBit c := by
  have := fb_ct_split U.testBit 1 c
  rw [Nat.add_comm c 1, this]
  congr 1
  · show 0 + (if U.testBit 0 then 1 else 0) = _
    rw [Nat.testBit_zero]
    simp
  · exact fb_ct_cong (fun k _ => by rw [Nat.add_comm 1 k, Nat.testBit_succ])
theorem dep_bit : ∀ w U j c, (dep w U j).testBit c = (decide (c < w) && U.testBit c && j.testBit (fb_ct U.testBit c))
  | 0, U, j, c => by
    show (0 : Nat).testBit c = _
    simp
  | w + 1, U, j, 0 => by
    unfold dep
    have e : fb_ct U.testBit 0 = 0 := rfl
    rw [e, Nat.testBit_zero, Nat.testBit_zero, Nat.testBit_zero]
    split
    · rename_i h
      rw [show (2 * dep w (U / 2) (j / 2) + j % 2) % 2 = j % 2 by omega]
      simp [h]
    · rename_i h
      rw [show (2 * dep w (U / 2) j) % 2 = 0 by omega]
      simp [h]
  | w + 1, U, j, c + 1 => by
    unfold dep
    rw [ct_half]
    split
    · rename_i h
      rw [Nat.testBit_succ, Nat.testBit_succ, show (2 * dep w (U / 2) (j / 2) + j % 2) / 2 = dep w (U / 2) (j / 2) by omega, dep_bit w, Nat.add_comm 1, Nat.testBit_succ]
      simp
    · rename_i h
      rw [Nat.testBit_succ, Nat.testBit_succ, show (2 * dep w (U / 2) j) / 2 = dep w (U / 2) j by omega, dep_bit w, Nat.zero_add]
      simp
theorem dep_sub (w U j : Nat) (hU : U < 2 ^ w) : (dep w U j ||| (2 ^ w - (U + 1))) &&& U = dep w U j := by
  apply Nat.eq_of_testBit_eq
  intro i
  rw [Nat.testBit_and, Nat.testBit_or, Nat.testBit_two_pow_sub_succ hU, dep_bit]
  cases U.testBit i <;> simp
theorem dep_inc : ∀ w U j, U < 2 ^ w → inc w U (dep w U j) = dep w U (j + 1)
  | 0, U, j, hU => by
    have : U = 0 := by omega
    subst this
    show _ &&& 0 = 0
    exact Nat.and_zero _
  | w + 1, U, j, hU => by
    rw [Nat.pow_succ] at hU
    have hU2 : U / 2 < 2 ^ w := by omega
    have hp := Nat.two_pow_pos w
    unfold inc dep
    by_cases h : U % 2 = 1
    · rw [if_pos h, if_pos h]
      have eM : 2 ^ (w + 1) - (U + 1) = 2 * (2 ^ w - (U / 2 + 1)) + 0 := by rw [Nat.pow_succ]; omega
      have eU : U = 2 * (U / 2) + 1 := by omega
      rw [eM, or2 _ _ _ _ (by omega) (by decide), Nat.or_zero]
      have s := dep_sub w (U / 2) (j / 2) hU2
      have i := dep_inc w (U / 2) (j / 2) hU2
      unfold inc at i
      rcases (show j % 2 = 0 ∨ j % 2 = 1 by omega) with q | q
      · rw [q]
        conv => lhs; rhs; rw [eU]
        rw [show 2 * (dep w (U / 2) (j / 2) ||| (2 ^ w - (U / 2 + 1))) + 0 + 1 = 2 * (dep w (U / 2) (j / 2) ||| (2 ^ w - (U / 2 + 1))) + 1 by omega, and2 _ _ _ _ (by decide) (by decide), s, show (j + 1) / 2 = j / 2 by omega, show (j + 1) % 2 = 1 by omega]
        rfl
      · rw [q]
        conv => lhs; rhs; rw [eU]
        rw [show 2 * (dep w (U / 2) (j / 2) ||| (2 ^ w - (U / 2 + 1))) + 1 + 1 = 2 * ((dep w (U / 2) (j / 2) ||| (2 ^ w - (U / 2 + 1))) + 1) + 0 by omega, and2 _ _ _ _ (by decide) (by decide), i, show (j + 1) / 2 = j / 2 + 1 by omega, show (j + 1) % 2 = 0 by omega]
        rfl
    · rw [if_neg h, if_neg h]
      have eM : 2 ^ (w + 1) - (U + 1) = 2 * (2 ^ w - (U / 2 + 1)) + 1 := by rw [Nat.pow_succ]; omega
      have eU : U = 2 * (U / 2) + 0 := by omega
      have i := dep_inc w (U / 2) j hU2
      unfold inc at i
      rw [eM, show 2 * dep w (U / 2) j = 2 * dep w (U / 2) j + 0 by omega, or2 _ _ _ _ (by decide) (by decide)]
      conv => lhs; rhs; rw [eU]
      rw [show 2 * (dep w (U / 2) j ||| (2 ^ w - (U / 2 + 1))) + (0 ||| 1) + 1 = 2 * ((dep w (U / 2) j ||| (2 ^ w - (U / 2 + 1))) + 1) + 0 by have : (0 : Nat) ||| 1 = 1 := rfl; omega, and2 _ _ _ _ (by decide) (by decide), i]
      rfl
theorem dep_zero (U : Nat) (hU : U < 2 ^ 24) : dep 32 U (2 ^ fb_ct U.testBit 24) = 0 := by
  apply Nat.eq_of_testBit_eq
  intro i
  rw [dep_bit, Nat.zero_testBit, Nat.testBit_two_pow]
  by_cases h : U.testBit i = true
  · have hi : i < 24 := by
      by_cases c : i < 24
      · exact c
      · rw [Nat.testBit_lt_two_pow (Nat.lt_of_lt_of_le hU (Nat.pow_le_pow_right (by decide) (by omega)))] at h
        cases h
    have := fb_ct_succ U.testBit i
    rw [h] at this
    have m := fb_ct_mono U.testBit (show i + 1 ≤ 24 by omega)
    simp at this
    simp
    intro _ _
    omega
  · have h : U.testBit i = false := by simpa using h
    simp [h]
theorem dep_nz (U j : Nat) (hj : j ≠ 0) (h2 : j < 2 ^ fb_ct U.testBit 24) : dep 32 U j ≠ 0 := by
  obtain ⟨i, hi⟩ := Nat.exists_testBit_of_ne_zero hj
  have hlt : i < fb_ct U.testBit 24 := by
    by_cases c : i < fb_ct U.testBit 24
    · exact c
    · rw [Nat.testBit_lt_two_pow (Nat.lt_of_lt_of_le h2 (Nat.pow_le_pow_right (by decide) (by omega)))] at hi
      cases hi
  obtain ⟨c, c1, c2, c3⟩ := fb_ct_kth hlt
  intro e
  have := dep_bit 32 U j c
  rw [e, Nat.zero_testBit, c2, c3, hi] at this
  simp at this
  omega
theorem dep_0 (w U : Nat) : dep w U 0 = 0 := by
  apply Nat.eq_of_testBit_eq
  intro i
  rw [dep_bit]
  simp
theorem dep_ct (U j : Nat) : ∀ c, c ≤ 32 → fb_ct (dep 32 U j).testBit c = fb_ct j.testBit (fb_ct U.testBit c)
  | 0, _ => rfl
  | c + 1, h => by
    rw [fb_ct_succ, fb_ct_succ, dep_ct U j c (by omega), dep_bit]
    by_cases q : U.testBit c = true
    · rw [q, show decide (c < 32) = true by simp; omega]
      simp [fb_ct_succ]
    · have q : U.testBit c = false := by simpa using q
      rw [q]
      simp
theorem ct_wide {j u : Nat} (hj : j < 2 ^ u) : ∀ d, fb_ct j.testBit (u + d) = fb_ct j.testBit u
  | 0 => rfl
  | d + 1 => by
    rw [← Nat.add_assoc, fb_ct_succ, ct_wide hj d, Nat.testBit_lt_two_pow (Nat.lt_of_lt_of_le hj (Nat.pow_le_pow_right (by decide) (by omega)))]
    rfl
theorem inc_I (U x : Nat) (hU : U < 2 ^ 24) : ((nI x ||| (nI U ^^^ (-1 : Int32))) + 1) &&& nI U = nI (inc 32 U x) := by
  have e : nI U ^^^ (-1 : Int32) = nI (2 ^ 32 - (U + 1)) := by
    rw [show (-1 : Int32) = nI (2 ^ 32 - 1) by decide, fb_xorI]
    congr 1
    apply Nat.eq_of_testBit_eq
    intro i
    rw [Nat.testBit_xor, Nat.testBit_two_pow_sub_one, Nat.testBit_two_pow_sub_succ (by omega)]
    by_cases c : i < 32
    · simp [c]
    · rw [Nat.testBit_lt_two_pow (Nat.lt_of_lt_of_le hU (Nat.pow_le_pow_right (by decide) (by omega)))]
      simp [c]
  rw [e, fa_or, show (1 : Int32) = nI 1 from rfl, nI_add, fa_and]
  rfl
