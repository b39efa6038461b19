/-- but for the kinds of l all is as it was -/
def Fr (l : List Nat) (μ μ' : mH) : Prop := ∀ K, K ∉ l → μ' K = μ K
theorem Fr_rf {l : List Nat} {μ : mH} : Fr l μ μ := fun _ _ => rfl
theorem Fr_tr {l : List Nat} {a b c : mH} (h1 : Fr l a b) (h2 : Fr l b c) : Fr l a c := fun K hK => (h2 K hK).trans (h1 K hK)
theorem Fr_mono {l l' : List Nat} {a b : mH} (h : Fr l a b) (hl : ∀ K, K ∈ l → K ∈ l') : Fr l' a b := fun K hK => h K (fun q => hK (hl K q))
theorem Fr_sto {l : List Nat} {μ : mH} {K i s : Nat} {x : Int32} (hK : K ∈ l) : Fr l μ (sto μ K i s x) := fun K' h => by
  funext i' s'
  exact sto_K (fun e => h (e ▸ hK))
theorem Fr_st2 {l : List Nat} {a μ : mH} {K i s : Nat} {x : Int32} (h : Fr l a μ) (hK : K ∈ l) : Fr l a (sto μ K i s x) := Fr_tr h (Fr_sto hK)
theorem Fr_at {l : List Nat} {μ μ' : mH} (h : Fr l μ μ') {K : Nat} (hK : K ∉ l) (i s : Nat) : μ' K i s = μ K i s := by rw [h K hK]
/-! numbers -/
theorem nI_lit (n : Nat) : (OfNat.ofNat n : Int32) = nI n := rfl
theorem tn_nI {n : Nat} (h : n < 2 ^ 31) : tn (nI n) = n := nI_clamp h
theorem Int32_cases (x : Int32) : x < 0 ∨ ∃ n : Nat, n < 2 ^ 31 ∧ x = nI n := by
  by_cases h : x < 0
  · exact Or.inl h
  · exact Or.inr (nI_of h)
theorem nI_nneg {n : Nat} (h : n < 2 ^ 31) : ¬ nI n < 0 := nI_pos h
theorem neg_le {x : Int32} {n : Nat} (h : x < 0) (hn : n < 2 ^ 31) : x ≤ nI n := by
  have h1 : x.toInt < 0 := by simpa using Int32.lt_iff_toInt_lt.mp h
  exact Int32.le_iff_toInt_le.mpr (by rw [nI_toInt hn]; omega)
theorem neg_nle {x : Int32} {n : Nat} (h : x < 0) (hn : n < 2 ^ 31) : ¬ nI n ≤ x := fun q => by
  have h1 : x.toInt < 0 := by simpa using Int32.lt_iff_toInt_lt.mp h
  have h2 := Int32.le_iff_toInt_le.mp q
  rw [nI_toInt hn] at h2
  omega
theorem neg_lt {x : Int32} {n : Nat} (h : x < 0) (hn : n < 2 ^ 31) : x < nI n := by
  have h1 : x.toInt < 0 := by simpa using Int32.lt_iff_toInt_lt.mp h
  exact Int32.lt_iff_toInt_lt.mpr (by rw [nI_toInt hn]; omega)
theorem neg_ne {x : Int32} {n : Nat} (h : x < 0) (hn : n < 2 ^ 31) : x ≠ nI n := fun q => by
  rw [q] at h
  exact nI_pos hn h
/-! bytes of a number, the highest first -/
def bq (x : Int32) (k : Nat) : Nat := x.toBitVec.toNat / 2 ^ (24 - 8 * k) % 256
theorem bq_lt (x : Int32) (k : Nat) : bq x k < 256 := Nat.mod_lt _ (by decide)
theorem bq_u (x : Int32) (k : Nat) (hk : k < 4) : ((x.toUInt32 >>> (((24 : Int32) - ((8 : Int32) * nI k)).toUInt32 &&& Int32.toUInt32 31)).toInt32) &&& (255 : Int32) = nI (bq x k) := by
  rw [pk_and _ 8 (by decide)]
  unfold bq
  have h : ((((24 : Int32) - ((8 : Int32) * nI k)).toUInt32 &&& Int32.toUInt32 31).toBitVec % 32).toNat = 24 - 8 * k := by
    rcases (show k = 0 ∨ k = 1 ∨ k = 2 ∨ k = 3 by omega) with rfl | rfl | rfl | rfl <;> decide
  rw [pk_ushr x ((24 : Int32) - ((8 : Int32) * nI k)) (24 - 8 * k) h]
theorem bq_s0 (x : Int32) (k : Nat) (hk : k < 4) : (x >>> ((24 : Int32) - ((8 : Int32) * nI k) &&& 31)).toBitVec.toNat % 256 = bq x k := by
  unfold bq
  have h : ((((24 : Int32) - ((8 : Int32) * nI k)) &&& 31).toBitVec.smod 32).toNat = 24 - 8 * k := by
    rcases (show k = 0 ∨ k = 1 ∨ k = 2 ∨ k = 3 by omega) with rfl | rfl | rfl | rfl <;> decide
  have h1 := pk_shr x _ (24 - 8 * k) h
  generalize (x >>> ((24 : Int32) - ((8 : Int32) * nI k) &&& 31)) = y at h1 ⊢
  have hy : y.toInt = y.toBitVec.toInt := rfl
  have hx : x.toInt = x.toBitVec.toInt := rfl
  rw [hy, hx, BitVec.toInt_eq_toNat_cond, BitVec.toInt_eq_toNat_cond] at h1
  have hy2 := y.toBitVec.isLt
  have hx2 := x.toBitVec.isLt
  rw [Int.shiftRight_eq_div_pow] at h1
  generalize y.toBitVec.toNat = a at h1 hy2 ⊢
  generalize x.toBitVec.toNat = b at h1 hx2 ⊢
  rcases (show k = 0 ∨ k = 1 ∨ k = 2 ∨ k = 3 by omega) with rfl | rfl | rfl | rfl
  · show a % 256 = b / 16777216 % 256
    have h1 : (if 2 * a < 4294967296 then (a : Int) else (a : Int) - 4294967296) = (if 2 * b < 4294967296 then (b : Int) else (b : Int) - 4294967296) / 16777216 := h1
    split at h1 <;> split at h1 <;> omega
  · show a % 256 = b / 65536 % 256
    have h1 : (if 2 * a < 4294967296 then (a : Int) else (a : Int) - 4294967296) = (if 2 * b < 4294967296 then (b : Int) else (b : Int) - 4294967296) / 65536 := h1
    split at h1 <;> split at h1 <;> omega
  · show a % 256 = b / 256 % 256
    have h1 : (if 2 * a < 4294967296 then (a : Int) else (a : Int) - 4294967296) = (if 2 * b < 4294967296 then (b : Int) else (b : Int) - 4294967296) / 256 := h1
    split at h1 <;> split at h1 <;> omega
  · show a % 256 = b / 1 % 256
    have h1 : (if 2 * a < 4294967296 then (a : Int) else (a : Int) - 4294967296) = (if 2 * b < 4294967296 then (b : Int) else (b : Int) - 4294967296) / 1 := h1
    split at h1 <;> split at h1 <;> omega
theorem bq_s (x : Int32) (k : Nat) (hk : k < 4) : (x >>> ((24 : Int32) - ((8 : Int32) * nI k) &&& 31)) &&& (255 : Int32) = nI (bq x k) := by
  rw [pk_and _ 8 (by decide)]
  exact congrArg nI (bq_s0 x k hk)
theorem i8_mod (y : Int32) : y.toInt8.toInt32 = (nI (y.toBitVec.toNat % 256)).toInt8.toInt32 := by
  have h : y.toInt8 = (nI (y.toBitVec.toNat % 256)).toInt8 := by
    apply Int8.toBitVec_inj.mp
    show BitVec.signExtend 8 y.toBitVec = BitVec.signExtend 8 (nI (y.toBitVec.toNat % 256)).toBitVec
    apply BitVec.eq_of_toNat_eq
    rw [BitVec.signExtend_eq_setWidth_of_le _ (by decide), BitVec.signExtend_eq_setWidth_of_le _ (by decide), BitVec.toNat_setWidth, BitVec.toNat_setWidth, pk_tn (by have := Nat.mod_lt y.toBitVec.toNat (show 256 > 0 by decide); omega)]
    omega
  rw [h]
theorem bq_b (x : Int32) (k : Nat) (hk : k < 4) : ((x >>> ((24 : Int32) - ((8 : Int32) * nI k) &&& 31)).toInt8.toInt32).toInt8.toInt32 = (nI (bq x k)).toInt8.toInt32 := by
  rw [i8_mod (x >>> _), bq_s0 x k hk]
  have : ∀ n, n < 256 → ((nI n).toInt8.toInt32).toInt8.toInt32 = (nI n).toInt8.toInt32 := by decide +kernel
  exact this _ (bq_lt x k)
/-- k mod 4 as the reference has it -/
theorem mod4 : ∀ k, k < 20 → nI k - nI k / (4 : Int32) * (4 : Int32) = nI (k % 4) := by decide +kernel
