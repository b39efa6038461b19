/-! the abstract values and the abstract heap -/
abbrev aV : Type := Int32 ⊕ (Int64 ⊕ Option (Option (Nat × Nat)))
abbrev aI (x : Int32) : aV := .inl x
abbrev aL (x : Int64) : aV := .inr (.inl x)
abbrev aR (k i : Nat) : aV := .inr (.inr (some (some (k, i))))
abbrev aN : aV := .inr (.inr (some none))
abbrev aX : aV := .inr (.inr none)
abbrev aQ (k : Nat) (o : Option Nat) : aV := .inr (.inr (some (o.map fun i => (k, i))))
abbrev mH : Type := Nat → Nat → Nat → Int32
def sto (μ : mH) (K i s : Nat) (x : Int32) : mH := fun K' i' s' => if K' = K then (if i' = i then (if s' = s then x else μ K' i' s') else μ K' i' s') else μ K' i' s'
theorem sto_eq {μ : mH} {K i s : Nat} {x : Int32} : sto μ K i s x K i s = x := by simp [sto]
theorem sto_K {μ : mH} {K i s K' i' s' : Nat} {x : Int32} (h : K' ≠ K) : sto μ K i s x K' i' s' = μ K' i' s' := by simp [sto, h]
theorem sto_i {μ : mH} {K i s K' i' s' : Nat} {x : Int32} (h : i' ≠ i) : sto μ K i s x K' i' s' = μ K' i' s' := by simp [sto, h]
theorem sto_s {μ : mH} {K i s K' i' s' : Nat} {x : Int32} (h : s' ≠ s) : sto μ K i s x K' i' s' = μ K' i' s' := by simp [sto, h]
theorem sto_ne {μ : mH} {K i s K' i' s' : Nat} {x : Int32} (h : ¬ (K' = K ∧ i' = i ∧ s' = s)) : sto μ K i s x K' i' s' = μ K' i' s' := by
  unfold sto
  split
  · split
    · split
      · exact absurd ⟨‹_›, ‹_›, ‹_›⟩ h
      · rfl
    · rfl
  · rfl
/-! the kinds: 0 .. 12 the objects by their classes, 20 .. 39 the arrays of the class, 40 .. 62 those of the reference, 63 texts, 64 their bytes, 65 the script -/
def kd (K : Nat) : Option (Nat ⊕ (FieldType × Nat)) := match K with
  | 0 => some (.inl 0) | 1 => some (.inl 1) | 2 => some (.inl 2) | 3 => some (.inl 3) | 4 => some (.inl 4) | 5 => some (.inl 5) | 6 => some (.inl 6) | 7 => some (.inl 7) | 8 => some (.inl 8) | 9 => some (.inl 9) | 10 => some (.inl 10) | 11 => some (.inl 11) | 12 => some (.inl 12)
  | 20 => some (.inr (.int, 200)) | 21 => some (.inr (.int, 320)) | 22 => some (.inr (.int, 2560)) | 23 => some (.inr (.object RX7, 8)) | 24 => some (.inr (.int, 8)) | 25 => some (.inr (.object RX9, 10)) | 26 => some (.inr (.object RX7, 80)) | 27 => some (.inr (.int, 24)) | 28 => some (.inr (.array .int, 10)) | 29 => some (.inr (.int, 80)) | 30 => some (.inr (.int, 10)) | 31 => some (.inr (.int, 8)) | 32 => some (.inr (.int, 9)) | 33 => some (.inr (.int, 256)) | 34 => some (.inr (.int, 24)) | 35 => some (.inr (.int, 24)) | 36 => some (.inr (.int, 12)) | 37 => some (.inr (.int, 6)) | 38 => some (.inr (.int, 6)) | 39 => some (.inr (.int, 225))
  | 40 => some (.inr (.byte, 200)) | 41 => some (.inr (.int, 9)) | 42 => some (.inr (.int, 9)) | 43 => some (.inr (.int, 320)) | 44 => some (.inr (.int, 10)) | 45 => some (.inr (.int, 10)) | 46 => some (.inr (.int, 3200)) | 47 => some (.inr (.int, 48)) | 48 => some (.inr (.int, 6)) | 49 => some (.inr (.int, 6)) | 50 => some (.inr (.boolean, 2700)) | 51 => some (.inr (.int, 8)) | 52 => some (.inr (.int, 96)) | 53 => some (.inr (.int, 8)) | 54 => some (.inr (.int, 12)) | 55 => some (.inr (.int, 960)) | 56 => some (.inr (.boolean, 80)) | 57 => some (.inr (.int, 12)) | 58 => some (.inr (.int, 960)) | 59 => some (.inr (.int, 12)) | 60 => some (.inr (.int, 24)) | 61 => some (.inr (.int, 24)) | 62 => some (.inr (.int, 400))
  | _ => none
/-- how many there are of a kind -/
def kn (K : Nat) : Nat := match K with
  | 1 => 11 | 4 => 2 | 7 => 88 | 9 => 10 | 10 => 11 | 21 => 11 | 23 => 11 | 24 => 89 | 29 => 10 | 35 => 3 | 63 => 9 | 64 => 9 | _ => 1
/-- places that hold a reference that never changes -/
def rs (K s : Nat) : Bool := match K with
  | 0 => s == 2 || s == 3 || s == 4 || s == 5 || s == 6 || s == 10 || s == 11
  | 1 => s == 0
  | 2 => s == 0
  | 3 => s == 3 || s == 4 || s == 7 || s == 8 || s == 9 || s == 10 || s == 11 || s == 12
  | 5 => s == 0
  | 6 => s == 0
  | 7 => s == 6
  | 8 => s == 0 || s == 2
  | 9 => s == 0 || s == 1
  | 10 => s == 0
  | 11 => true
  | 12 => s == 0 || s == 6 || s == 7 || s == 10 || s == 12 || s == 13 || s == 14 || s == 15 || s == 17 || s == 18 || s == 19 || s == 22 || s == 23 || s == 24 || s == 25 || s == 27 || s == 28 || s == 29 || s == 30 || s == 31 || s == 32 || s == 33 || s == 35
  | 23 => true
  | 25 => true
  | 28 => true
  | _ => false
/-- and which one -/
def rf (K i s : Nat) : Nat × Nat := match K with
  | 0 => match s with | 2 => (34, 0) | 3 => (35, 0) | 4 => (35, 1) | 5 => (35, 2) | 6 => (36, 0) | 10 => (37, 0) | _ => (38, 0)
  | 1 => (23, i)
  | 2 => (20, 0)
  | 3 => match s with | 3 => (24, 88) | 4 => (26, 0) | 7 => (27, 0) | 8 => (28, 0) | 9 => (30, 0) | 10 => (31, 0) | 11 => (32, 0) | _ => (33, 0)
  | 5 => (22, 0)
  | 6 => (39, 0)
  | 7 => (24, i)
  | 8 => match s with | 0 => (25, 0) | _ => (1, 10)
  | 9 => match s with | 0 => (10, i + 1) | _ => (1, i)
  | 10 => (21, i)
  | 11 => match s with | 0 => (2, 0) | 1 => (4, 0) | 2 => (4, 1) | 3 => (10, 0) | 4 => (5, 0) | 5 => (8, 0) | 6 => (3, 0) | 7 => (0, 0) | _ => (6, 0)
  | 12 => match s with | 0 => (40, 0) | 6 => (41, 0) | 7 => (42, 0) | 10 => (43, 0) | 12 => (44, 0) | 13 => (45, 0) | 14 => (46, 0) | 15 => (47, 0) | 17 => (48, 0) | 18 => (49, 0) | 19 => (50, 0) | 22 => (51, 0) | 23 => (52, 0) | 24 => (53, 0) | 25 => (54, 0) | 27 => (55, 0) | 28 => (56, 0) | 29 => (57, 0) | 30 => (58, 0) | 31 => (59, 0) | 32 => (60, 0) | 33 => (61, 0) | _ => (62, 0)
  | 23 => (7, 8 * i + s)
  | 25 => (9, s)
  | _ => (29, s)
/-- a long out of two ints, and back -/
def mkL (h l : Int32) : Int64 := Int64.ofInt (h.toInt * 4294967296 + (l.toInt % 4294967296))
def hiL (x : Int64) : Int32 := Int32.ofInt (x.toInt / 4294967296)
def loL (x : Int64) : Int32 := Int32.ofInt x.toInt
/-- what a place of Jury.copies holds -/
def cpo (x : Int32) : Option Nat := if 1 ≤ x.toNatClampNeg ∧ x.toNatClampNeg ≤ 88 then some (x.toNatClampNeg - 1) else none
/-- places of ints -/
def isI (K s : Nat) : Bool := !(rs K s) && !(K == 26) && !(K == 12 && (s == 5 || s == 100))
def look (μ : mH) (K i s : Nat) : aV := if rs K s then aR (rf K i s).1 (rf K i s).2 else if K = 26 then aQ 7 (cpo (μ K i s)) else if K = 12 ∧ s = 5 then aL (mkL (μ K i 5) (μ K i 100)) else aI (μ K i s)
theorem look_I {μ : mH} {K i s : Nat} (h : isI K s = true) : look μ K i s = aI (μ K i s) := by
  simp only [isI, Bool.and_eq_true, Bool.not_eq_true', beq_eq_false_iff_ne, Bool.and_eq_false_imp, beq_iff_eq, Bool.or_eq_false_iff] at h
  obtain ⟨⟨h1, h2⟩, h3⟩ := h
  unfold look
  rw [if_neg (by simp [h1]), if_neg h2, if_neg (fun q => (h3 q.1).1 q.2)]
theorem look_sto {μ : mH} {K i s K' i' s' : Nat} {x : Int32} (h : isI K s = true) : look (sto μ K i s x) K' i' s' = if K' = K ∧ i' = i ∧ s' = s then aI x else look μ K' i' s' := by
  by_cases hq : K' = K ∧ i' = i ∧ s' = s
  · obtain ⟨rfl, rfl, rfl⟩ := hq
    rw [if_pos ⟨rfl, rfl, rfl⟩, look_I h, sto_eq]
  · rw [if_neg hq]
    simp only [isI, Bool.and_eq_true, Bool.not_eq_true', beq_eq_false_iff_ne, Bool.and_eq_false_imp, beq_iff_eq, Bool.or_eq_false_iff] at h
    obtain ⟨⟨h1, h2⟩, h3⟩ := h
    unfold look
    split
    · rfl
    · split
      · rename_i e
        rw [sto_K (by rw [e]; exact fun q => h2 q.symm)]
      · split
        · rename_i e
          by_cases eK : K = 12
          · rw [sto_s (by intro q; exact (h3 eK).1 q.symm), sto_s (by intro q; exact (h3 eK).2 q.symm)]
          · rw [sto_K (by rw [e.1]; exact fun q => eK q.symm), sto_K (by rw [e.1]; exact fun q => eK q.symm)]
        · rw [sto_ne hq]
theorem mkL_hl (x : Int64) : mkL (hiL x) (loL x) = x := by
  have h1 : -9223372036854775808 ≤ x.toInt := by have := Int64.minValue_le_toInt x; simpa using this
  have h2 : x.toInt < 9223372036854775808 := by have := Int64.toInt_lt x; simpa using this
  have e1 : (hiL x).toInt = x.toInt / 4294967296 := by
    unfold hiL
    rw [Int32.toInt_ofInt, show Int32.size = 4294967296 from rfl]
    apply Int.bmod_eq_of_le <;> omega
  have e2 : (loL x).toInt % 4294967296 = x.toInt % 4294967296 := by
    unfold loL
    rw [Int32.toInt_ofInt, show Int32.size = 4294967296 from rfl]
    exact Int.bmod_emod
  unfold mkL
  rw [e1, e2, show x.toInt / 4294967296 * 4294967296 + x.toInt % 4294967296 = x.toInt by omega]
  exact Int64.ofInt_toInt x
/-- the references that there are -/
def liv (v : aV) : Prop := match v with
  | .inr (.inr (some (some q))) => q.2 < kn q.1
  | _ => True
theorem liv_rf {K i s : Nat} (hi : i < kn K) (h : rs K s = true) (hs : ∀ ty n, kd K = some (.inr (ty, n)) → s < n) : (rf K i s).2 < kn (rf K i s).1 := by
  unfold rs at h
  split at h
  · simp only [rf]; split <;> decide
  · simpa [rf, kn] using hi
  · simp [rf, kn]
  · simp only [rf]; split <;> decide
  · simp [rf, kn]
  · simp [rf, kn]
  · simp only [rf, kn] at hi ⊢; omega
  · simp only [rf]; split <;> decide
  · simp only [rf]
    split
    · simp only [kn] at hi ⊢; omega
    · simp only [kn] at hi ⊢; omega
  · simpa [rf, kn] using hi
  · simp only [rf]; split <;> decide
  · simp only [rf]; split <;> decide
  · have := hs _ _ rfl
    simp only [rf, kn] at hi ⊢; omega
  · have := hs _ _ rfl
    simp only [rf, kn] at hi ⊢; omega
  · have := hs _ _ rfl
    simp only [rf, kn] at hi ⊢; omega
  · cases h
theorem liv_look {μ : mH} {K i s : Nat} (hi : i < kn K) (hs : ∀ ty n, kd K = some (.inr (ty, n)) → s < n) : liv (look μ K i s) := by
  unfold look
  split
  · exact liv_rf hi ‹_› hs
  · split
    · unfold cpo
      split
      · rename_i h
        show (μ K i s).toNatClampNeg - 1 < 88
        omega
      · exact trivial
    · split <;> exact trivial
