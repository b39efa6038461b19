/-! Integer.bitCount below 2^24 -/
theorem and256 {a m : Nat} (b n : Nat) (ha : a < 256) (hm : m < 256) : (256 * b + a) &&& (256 * n + m) = 256 * (b &&& n) + (a &&& m) := by
  have h : a &&& m < 2 ^ 8 := Nat.lt_of_le_of_lt Nat.and_le_left ha
  apply Nat.eq_of_testBit_eq
  intro j
  rw [Nat.testBit_and, show 256 = 2 ^ 8 from rfl, Nat.testBit_two_pow_mul_add _ (show a < 2 ^ 8 from ha), Nat.testBit_two_pow_mul_add _ (show m < 2 ^ 8 from hm), Nat.testBit_two_pow_mul_add _ h]
  split <;> rw [Nat.testBit_and]
theorem and3 {x y z m M : Nat} (hx : x < 256) (hy : y < 256) (hz : z < 256) (hm : m < 256) (hM : M = 256 * (256 * (256 * m + m) + m) + m) : (256 * (256 * z + y) + x) &&& M = 256 * (256 * (z &&& m) + (y &&& m)) + (x &&& m) := by
  have e : z &&& (256 * m + m) = z &&& m := by
    have := and256 0 m hz hm
    simpa using this
  rw [hM, and256 _ _ hx hm, and256 _ _ hy hm, e]
def e1 (a : Nat) : Nat := a - ((a / 2) &&& 85)
def e2 (a : Nat) : Nat := (e1 a &&& 51) + ((e1 a / 4) &&& 51)
def e3 (a : Nat) : Nat := (e2 a + e2 a / 16) &&& 15
theorem e_all : ∀ a, a < 256 → ((a / 2) &&& 85) ≤ a ∧ e1 a < 256 ∧ e2 a < 128 ∧ e2 a % 16 ≤ 4 ∧ e2 a / 16 ≤ 4 ∧ e3 a ≤ 8 ∧ e3 a = fb_ct a.testBit 8 := by decide +kernel
theorem e_85 : ∀ u, u < 256 → u &&& 85 = u % 128 &&& 85 := by decide +kernel
theorem e_51 : ∀ u, u < 256 → u &&& 51 = u % 64 &&& 51 := by decide +kernel
theorem e_15 : ∀ u, u < 256 → u &&& 15 = u % 16 &&& 15 := by decide +kernel
theorem e_sum {x y z V : Nat} (hx : x ≤ 8) (hy : y ≤ 8) (hz : z ≤ 8) (hV : 256 * (256 * z + y) + x = V) : (V + V / 2 ^ 8 + (V + V / 2 ^ 8) / 2 ^ 16) % 2 ^ 6 = x + y + z := by
  have v1 : V / 2 ^ 8 = 256 * z + y := by omega
  have v2 : (V + (256 * z + y)) / 2 ^ 16 = z := by omega
  rw [v1, v2]
  omega
theorem s_bitCount {Γ : cx_T} {S : Nat} {μ : mH} {Q : Int32 → mH → Prop} (hS : S < 2 ^ 24) (h : Q (nI (fb_ct S.testBit 24)) μ) : cwi Γ M_J6_bitCount_0f7a4 [aI (nI S)] μ Q := by
  have hx : S % 256 < 256 := Nat.mod_lt _ (by decide)
  have hy : S / 256 % 256 < 256 := Nat.mod_lt _ (by decide)
  have hz : S / 65536 < 256 := by omega
  generalize ex : S % 256 = x at hx
  generalize ey : S / 256 % 256 = y at hy
  generalize ez : S / 65536 = z at hz
  have eS : S = 256 * (256 * z + y) + x := by omega
  obtain ⟨x1, x2, x3, x4, x5, x6, x7⟩ := e_all x hx
  obtain ⟨y1, y2, y3, y4, y5, y6, y7⟩ := e_all y hy
  obtain ⟨z1, z2, z3, z4, z5, z6, z7⟩ := e_all z hz
  have ct : fb_ct S.testBit 24 = e3 x + e3 y + e3 z := by
    rw [show 24 = 8 + (8 + 8) from rfl, fb_ct_split, fb_ct_split, x7, y7, z7]
    rw [fb_ct_cong (p := S.testBit) (q := x.testBit) (n := 8), fb_ct_cong (p := fun k => S.testBit (8 + k)) (q := y.testBit) (n := 8), fb_ct_cong (p := fun k => S.testBit (8 + (8 + k))) (q := z.testBit) (n := 8)]
    · omega
    · intro k hk
      rw [eS, show 256 * (256 * z + y) + x = 2 ^ 8 * (2 ^ 8 * z + y) + x from rfl, Nat.testBit_two_pow_mul_add _ (show x < 2 ^ 8 from hx), if_neg (by omega), Nat.testBit_two_pow_mul_add _ (show y < 2 ^ 8 from hy), if_neg (by omega)]
      congr 1
      omega
    · intro k hk
      rw [eS, show 256 * (256 * z + y) + x = 2 ^ 8 * (2 ^ 8 * z + y) + x from rfl, Nat.testBit_two_pow_mul_add _ (show x < 2 ^ 8 from hx), if_neg (by omega), Nat.testBit_two_pow_mul_add _ (show y < 2 ^ 8 from hy), if_pos (by omega)]
      congr 1
      omega
    · intro k hk
      rw [eS, show 256 * (256 * z + y) + x = 2 ^ 8 * (2 ^ 8 * z + y) + x from rfl, Nat.testBit_two_pow_mul_add _ (show x < 2 ^ 8 from hx), if_pos (by omega)]
  have m1 : S / 2 &&& 1431655765 = 256 * (256 * (z / 2 &&& 85) + (y / 2 &&& 85)) + (x / 2 &&& 85) := by
    have e : S / 2 = 256 * (256 * (z / 2) + (y / 2 + 128 * (z % 2))) + (x / 2 + 128 * (y % 2)) := by omega
    rw [e, and3 (m := 85) (by omega) (by omega) (by omega) (by decide) (by decide), e_85 (y / 2 + 128 * (z % 2)) (by omega), e_85 (x / 2 + 128 * (y % 2)) (by omega), show (y / 2 + 128 * (z % 2)) % 128 = y / 2 by omega, show (x / 2 + 128 * (y % 2)) % 128 = x / 2 by omega]
  have s1 : S - (S / 2 &&& 1431655765) = 256 * (256 * e1 z + e1 y) + e1 x := by
    rw [m1]; unfold e1; omega
  have l1 : (S / 2 &&& 1431655765) ≤ S := by rw [m1]; omega
  generalize hT0 : S - (S / 2 &&& 1431655765) = T at s1
  have m2 : T &&& 858993459 = 256 * (256 * (e1 z &&& 51) + (e1 y &&& 51)) + (e1 x &&& 51) := by
    rw [s1, and3 (m := 51) x2 y2 z2 (by decide) (by decide)]
  have m3 : T / 4 &&& 858993459 = 256 * (256 * (e1 z / 4 &&& 51) + (e1 y / 4 &&& 51)) + (e1 x / 4 &&& 51) := by
    have e : T / 4 = 256 * (256 * (e1 z / 4) + (e1 y / 4 + 64 * (e1 z % 4))) + (e1 x / 4 + 64 * (e1 y % 4)) := by omega
    rw [e, and3 (m := 51) (by omega) (by omega) (by omega) (by decide) (by decide), e_51 (e1 y / 4 + 64 * (e1 z % 4)) (by omega), e_51 (e1 x / 4 + 64 * (e1 y % 4)) (by omega), show (e1 y / 4 + 64 * (e1 z % 4)) % 64 = e1 y / 4 by omega, show (e1 x / 4 + 64 * (e1 y % 4)) % 64 = e1 x / 4 by omega]
  have s2 : (T &&& 858993459) + (T / 4 &&& 858993459) = 256 * (256 * e2 z + e2 y) + e2 x := by
    rw [m2, m3]; unfold e2; omega
  have hT : T < 2 ^ 32 := by omega
  generalize hU : (T &&& 858993459) + (T / 4 &&& 858993459) = U at s2
  have m4 : U + U / 16 &&& 252645135 = 256 * (256 * e3 z + e3 y) + e3 x := by
    have e : U + U / 16 = 256 * (256 * (e2 z + e2 z / 16) + (e2 y + e2 y / 16 + 16 * (e2 z % 16))) + (e2 x + e2 x / 16 + 16 * (e2 y % 16)) := by omega
    rw [e, and3 (m := 15) (by omega) (by omega) (by omega) (by decide) (by decide), e_15 (e2 y + e2 y / 16 + 16 * (e2 z % 16)) (by omega), e_15 (e2 x + e2 x / 16 + 16 * (e2 y % 16)) (by omega), show (e2 y + e2 y / 16 + 16 * (e2 z % 16)) % 16 = (e2 y + e2 y / 16) % 16 by omega, show (e2 x + e2 x / 16 + 16 * (e2 y % 16)) % 16 = (e2 x + e2 x / 16) % 16 by omega, ← e_15 (e2 y + e2 y / 16) (by omega), ← e_15 (e2 x + e2 x / 16) (by omega)]
    rfl
  refine u_J6_bitCount ?_
  have sh : ∀ (s : Int32) (k : Nat) (n : Nat), n < 2 ^ 32 → ((s.toUInt32 &&& Int32.toUInt32 31).toBitVec % 32).toNat = k → ((nI n).toUInt32 >>> (s.toUInt32 &&& Int32.toUInt32 31)).toInt32 = nI (n / 2 ^ k) := fun s k n hn hs => pk_ushrN hn s k hs
  have a1 : ∀ n, nI n &&& (1431655765 : Int32) = nI (n &&& 1431655765) := fun n => fa_and n 1431655765
  have a2 : ∀ n, nI n &&& (858993459 : Int32) = nI (n &&& 858993459) := fun n => fa_and n 858993459
  have a3 : ∀ n, nI n &&& (252645135 : Int32) = nI (n &&& 252645135) := fun n => fa_and n 252645135
  have t1 : nI S - (((nI S).toUInt32 >>> ((1 : Int32).toUInt32 &&& Int32.toUInt32 31)).toInt32 &&& (1431655765 : Int32)) = nI T := by
    rw [sh 1 1 S (by omega) (by decide), a1, pk_sub (by exact l1), ← hT0]
  rw [t1, sh 2 2 T hT (by decide), a2, a2, nI_add]
  rw [show (T &&& 858993459) + (T / 2 ^ 2 &&& 858993459) = U from hU, sh 4 4 U (by omega) (by decide), nI_add, a3]
  rw [show (U + U / 2 ^ 4 &&& 252645135) = 256 * (256 * e3 z + e3 y) + e3 x from m4]
  generalize hV : 256 * (256 * e3 z + e3 y) + e3 x = V
  rw [sh 8 8 V (by omega) (by decide), nI_add, sh 16 16 (V + V / 2 ^ 8) (by omega) (by decide), nI_add, pk_andN (by omega) 6 (by decide)]
  rw [show (V + V / 2 ^ 8 + (V + V / 2 ^ 8) / 2 ^ 16) % 2 ^ 6 = fb_ct S.testBit 24 by rw [ct]; exact e_sum x6 y6 z6 hV]
  exact h
