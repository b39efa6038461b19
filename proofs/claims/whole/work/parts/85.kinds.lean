/-! kinds of bytes, rows of them, and verdicts -/
def kD (V : Nat → Nat → Nat) (i c : Nat) : Bool := decide (fb_ct (fun c' => decide (V c' i = V c i)) c = 0)
def kK (n : Nat) (V : Nat → Nat → Nat) (i : Nat) : Nat := fb_ct (kD V i) n
def kv (n : Nat) (V : Nat → Nat → Nat) (i j : Nat) : Nat := V (fa_first (fun c => kD V i c && decide (fb_ct (kD V i) c = j)) n) i
theorem kD_f {V : Nat → Nat → Nat} {i c : Nat} : kD V i c = false ↔ ∃ c', c' < c ∧ V c' i = V c i := by
  unfold kD
  rw [decide_eq_false_iff_not, fb_ct_zero]
  constructor
  · intro h
    by_cases q : ∃ c', c' < c ∧ V c' i = V c i
    · exact q
    · exact absurd (fun k hk => by simp; exact fun e => q ⟨k, hk, e⟩) h
  · rintro ⟨c', h1, h2⟩ h
    have := h c' h1
    simp [h2] at this
theorem kD_t {V : Nat → Nat → Nat} {i c : Nat} (h : kD V i c = true) {c' : Nat} (hc : c' < c) : V c' i ≠ V c i := fun e => by
  have := (kD_f (V := V) (i := i) (c := c)).mpr ⟨c', hc, e⟩
  rw [h] at this
  cases this
theorem kv_at {n : Nat} {V : Nat → Nat → Nat} {i c : Nat} (hc : c < n) (h : kD V i c = true) : kv n V i (fb_ct (kD V i) c) = V c i := by
  unfold kv
  rw [nth_at hc h]
theorem kv_in {n : Nat} {V : Nat → Nat → Nat} {i j : Nat} (hj : j < kK n V i) : ∃ c, c < n ∧ kD V i c = true ∧ fb_ct (kD V i) c = j ∧ kv n V i j = V c i := by
  obtain ⟨h1, h2, h3⟩ := nth_in hj
  exact ⟨_, h1, h2, h3, rfl⟩
theorem kv_inj {n : Nat} {V : Nat → Nat → Nat} {i j j' : Nat} (hj : j < kK n V i) (hj' : j' < kK n V i) (e : kv n V i j = kv n V i j') : j = j' := by
  obtain ⟨c, h1, h2, h3, h4⟩ := kv_in hj
  obtain ⟨c', g1, g2, g3, g4⟩ := kv_in hj'
  rw [h4, g4] at e
  have : c = c' := by
    rcases Nat.lt_trichotomy c c' with q | q | q
    · exact absurd e (kD_t g2 q)
    · exact q
    · exact absurd e.symm (kD_t h2 q)
  rw [← h3, ← g3, this]
theorem kv_sur {n : Nat} {V : Nat → Nat → Nat} {i c : Nat} (hc : c < n) : ∃ j, j < kK n V i ∧ kv n V i j = V c i := by
  obtain ⟨c0, h1, h2, h3⟩ := fb_first (p := fun c' => V c' i = V c i) (n := c + 1) ⟨c, by omega, rfl⟩
  have hD : kD V i c0 = true := by
    by_cases q : kD V i c0 = true
    · exact q
    · obtain ⟨c', g1, g2⟩ := kD_f.mp (by simpa using q : kD V i c0 = false)
      exact absurd (g2.trans h2) (h3 c' g1)
  exact ⟨fb_ct (kD V i) c0, ct_in (by omega) hD, (kv_at (by omega) hD).trans h2⟩
theorem kK_pos {n : Nat} {V : Nat → Nat → Nat} {i : Nat} (h : 0 < n) : 0 < kK n V i := by
  obtain ⟨j, hj, _⟩ := kv_sur (V := V) (i := i) h
  omega
theorem kK_le (n : Nat) (V : Nat → Nat → Nat) (i : Nat) : kK n V i ≤ n := fb_ct_le _ _
theorem kK_one {n : Nat} {V : Nat → Nat → Nat} {i t : Nat} (h : 0 < n) (e : ∀ c, c < n → V c i = t) : kK n V i = 1 := by
  have h1 := kK_pos (V := V) (i := i) h
  by_cases q : kK n V i = 1
  · exact q
  · have := kv_inj (n := n) (V := V) (i := i) (j := 0) (j' := 1) (by omega) (by omega) (by
      obtain ⟨c, a1, _, _, a4⟩ := kv_in (n := n) (V := V) (i := i) (j := 0) (by omega)
      obtain ⟨c', b1, _, _, b4⟩ := kv_in (n := n) (V := V) (i := i) (j := 1) (by omega)
      rw [a4, b4, e c a1, e c' b1])
    omega
/-! rows by digits, the last the fastest -/
def rkq (K d : Nat → Nat) : Nat → Nat
  | 0 => 0
  | s + 1 => rkq K d s * K s + d s
def PKq (K : Nat → Nat) : Nat → Nat
  | 0 => 1
  | s + 1 => PKq K s * K s
theorem rkq_lt {K d : Nat → Nat} : ∀ s, (∀ s', s' < s → d s' < K s') → rkq K d s < PKq K s
  | 0, _ => by show 0 < 1; decide
  | s + 1, h => by
    have h1 := rkq_lt s (fun s' hs => h s' (by omega))
    have h2 := h s (by omega)
    show rkq K d s * K s + d s < PKq K s * K s
    have : (rkq K d s + 1) * K s ≤ PKq K s * K s := Nat.mul_le_mul_right _ h1
    rw [Nat.add_mul, Nat.one_mul] at this
    omega
theorem rkq_inj {K d d' : Nat → Nat} : ∀ s, (∀ s', s' < s → d s' < K s') → (∀ s', s' < s → d' s' < K s') → rkq K d s = rkq K d' s → ∀ s', s' < s → d s' = d' s'
  | 0, _, _, _, s', h => absurd h (by omega)
  | s + 1, h1, h2, e, s', h => by
    have e : rkq K d s * K s + d s = rkq K d' s * K s + d' s := e
    have a := h1 s (by omega)
    have b := h2 s (by omega)
    have e1 : d s = d' s := by
      have := congrArg (· % K s) e
      simp only [Nat.mul_add_mod_self_right] at this
      rw [Nat.mod_eq_of_lt a, Nat.mod_eq_of_lt b] at this
      exact this
    have e2 : rkq K d s = rkq K d' s := by
      have : rkq K d s * K s = rkq K d' s * K s := by omega
      exact Nat.eq_of_mul_eq_mul_right (by omega) this
    by_cases z : s' = s
    · rw [z]; exact e1
    · exact rkq_inj s (fun s'' hs => h1 s'' (by omega)) (fun s'' hs => h2 s'' (by omega)) e2 s' (by omega)
theorem rkq_cong {K d d' : Nat → Nat} : ∀ s, (∀ s', s' < s → d s' = d' s') → rkq K d s = rkq K d' s
  | 0, _ => rfl
  | s + 1, h => by
    show rkq K d s * K s + d s = rkq K d' s * K s + d' s
    rw [rkq_cong s (fun s' hs => h s' (by omega)), h s (by omega)]
/-- the next row: spot j is one more, behind it all were the last and are the first -/
theorem rkq_step {K d d' : Nat → Nat} {j : Nat} (hl : ∀ s, s < j → d' s = d s) (hj : d' j = d j + 1) : ∀ t, (∀ s, j < s → s < j + 1 + t → d s + 1 = K s ∧ d' s = 0) → rkq K d' (j + 1 + t) = rkq K d (j + 1 + t) + 1
  | 0, _ => by
    show rkq K d' j * K j + d' j = rkq K d j * K j + d j + 1
    rw [rkq_cong j hl, hj]
    omega
  | t + 1, h => by
    have ih := rkq_step hl hj t (fun s a b => h s a (by omega))
    obtain ⟨a, b⟩ := h (j + 1 + t) (by omega) (by omega)
    show rkq K d' (j + 1 + t) * K (j + 1 + t) + d' (j + 1 + t) = rkq K d (j + 1 + t) * K (j + 1 + t) + d (j + 1 + t) + 1
    rw [ih, b, Nat.add_mul, Nat.one_mul]
    omega
theorem rkq_full {K d : Nat → Nat} : ∀ s, (∀ s', s' < s → d s' + 1 = K s') → rkq K d s + 1 = PKq K s
  | 0, _ => rfl
  | s + 1, h => by
    have ih := rkq_full s (fun s' hs => h s' (by omega))
    have a := h s (by omega)
    show rkq K d s * K s + d s + 1 = PKq K s * K s
    rw [← ih, Nat.add_mul, Nat.one_mul]
    omega
theorem rkq_zero (K : Nat → Nat) : ∀ s, rkq K (fun _ => 0) s = 0
  | 0 => rfl
  | s + 1 => by
    show rkq K (fun _ => 0) s * K s + 0 = 0
    rw [rkq_zero K s]
    omega
theorem PKq_pos {K : Nat → Nat} : ∀ s, (∀ s', s' < s → 0 < K s') → 0 < PKq K s
  | 0, _ => by show 0 < 1; decide
  | s + 1, h => Nat.mul_pos (PKq_pos s (fun s' hs => h s' (by omega))) (h s (by omega))
theorem PKq_mono {K : Nat → Nat} {a : Nat} : ∀ d, (∀ s', s' < a + d → 0 < K s') → PKq K a ≤ PKq K (a + d)
  | 0, _ => Nat.le_refl _
  | d + 1, h => by
    have h1 := PKq_mono (K := K) (a := a) d (fun s' hs => h s' (by omega))
    have h2 := Nat.mul_le_mul_left (PKq K (a + d)) (h (a + d) (by omega))
    show PKq K a ≤ PKq K (a + d) * K (a + d)
    omega
/-! codes, the first digit the fastest -/
def lfq (K : Nat → Nat) (c : Nat) : Nat → Nat
  | 0 => c
  | b + 1 => lfq K c b / K b
theorem lfq_div (K : Nat → Nat) (c : Nat) : ∀ b, lfq K c b = c / PKq K b
  | 0 => by show c = c / 1; omega
  | b + 1 => by
    show lfq K c b / K b = c / (PKq K b * K b)
    rw [lfq_div K c b, Nat.div_div_eq_div_mul]
theorem lfq_inj {K : Nat → Nat} {m c c' : Nat} (hc : c < PKq K m) (hc' : c' < PKq K m) (h : ∀ b, b < m → lfq K c b % K b = lfq K c' b % K b) : c = c' := by
  have lp : ∀ t, t ≤ m → lfq K c (m - t) = lfq K c' (m - t) := by
    intro t
    induction t with
    | zero =>
      intro _
      rw [Nat.sub_zero, lfq_div, lfq_div, Nat.div_eq_of_lt hc, Nat.div_eq_of_lt hc']
    | succ t ih =>
      intro ht
      have e := ih (by omega)
      rw [show m - t = m - (t + 1) + 1 by omega] at e
      have e : lfq K c (m - (t + 1)) / K (m - (t + 1)) = lfq K c' (m - (t + 1)) / K (m - (t + 1)) := e
      have e2 := h (m - (t + 1)) (by omega)
      have a := Nat.div_add_mod (lfq K c (m - (t + 1))) (K (m - (t + 1)))
      have b := Nat.div_add_mod (lfq K c' (m - (t + 1))) (K (m - (t + 1)))
      rw [← a, ← b, e, e2]
  have := lp m (Nat.le_refl _)
  rw [Nat.sub_self] at this
  exact this
def lrq (K e : Nat → Nat) : Nat → Nat
  | 0 => 0
  | b + 1 => lrq K e b + e b * PKq K b
theorem PKq_dvd (K : Nat → Nat) (b : Nat) : ∀ d, PKq K b ∣ PKq K (b + d)
  | 0 => Nat.dvd_refl _
  | d + 1 => Nat.dvd_trans (PKq_dvd K b d) (Nat.dvd_mul_right _ _)
theorem lrq_lt {K e : Nat → Nat} : ∀ m, (∀ b, b < m → e b < K b) → lrq K e m < PKq K m
  | 0, _ => by show 0 < 1; decide
  | m + 1, h => by
    have h1 := lrq_lt m (fun b hb => h b (by omega))
    have h2 := h m (by omega)
    show lrq K e m + e m * PKq K m < PKq K m * K m
    have : (e m + 1) * PKq K m ≤ K m * PKq K m := Nat.mul_le_mul_right _ h2
    rw [Nat.add_mul, Nat.one_mul] at this
    rw [Nat.mul_comm (PKq K m)]
    omega
theorem lrq_dig {K e : Nat → Nat} : ∀ m, (∀ b, b < m → e b < K b) → ∀ b, b < m → lfq K (lrq K e m) b % K b = e b
  | 0, _, b, hb => absurd hb (by omega)
  | m + 1, h, b, hb => by
    have hp : 0 < PKq K b := PKq_pos b (fun s hs => by have := h s (by omega); omega)
    have h1 := lrq_lt m (fun b hb => h b (by omega))
    rw [lfq_div]
    show (lrq K e m + e m * PKq K m) / PKq K b % K b = e b
    by_cases z : b = m
    · subst z
      rw [Nat.add_mul_div_right _ _ hp, Nat.div_eq_of_lt h1, Nat.zero_add, Nat.mod_eq_of_lt (h b (by omega))]
    · have ih := lrq_dig m (fun b hb => h b (by omega)) b (by omega)
      rw [lfq_div] at ih
      obtain ⟨w, hw⟩ := PKq_dvd K (b + 1) (m - (b + 1))
      rw [show b + 1 + (m - (b + 1)) = m by omega] at hw
      have hw : PKq K m = PKq K b * K b * w := hw
      rw [hw, show e m * (PKq K b * K b * w) = K b * (w * e m) * PKq K b by
        rw [Nat.mul_comm (PKq K b) (K b), Nat.mul_assoc (K b), Nat.mul_left_comm (e m), Nat.mul_comm (PKq K b) w, ← Nat.mul_assoc (e m), Nat.mul_comm (e m) w, Nat.mul_assoc (K b)], Nat.add_mul_div_right _ _ hp, Nat.add_mul_mod_self_left]
      exact ih
/-! what is right, and what is not -/
def hdv (fm : Nat → Nat) (T S : Nat) (dat : Nat → Nat) (j : Nat) : Nat := if j = 0 then (if fm 8 = 0 then T else S) else if j = 1 then (if fm 8 = 0 then S else T) else dat (j - 2)
def SUMd (fm : Nat → Nat) (T S : Nat) (dat : Nat → Nat) : Nat := sm fm (hdv fm T S dat) (2 + fm 4)
def FITd (fm : Nat → Nat) (T S n : Nat) (V : Nat → Nat → Nat) (dat : Nat → Nat) : Prop := (∀ i, i < fm 4 → ∃ c, c < n ∧ dat i = V c (2 + i)) ∧ (∃ c, c < n ∧ V c (2 + fm 4) = SUMd fm T S dat / 256) ∧ (∃ c, c < n ∧ V c (3 + fm 4) = SUMd fm T S dat % 256)
def UNI (fm : Nat → Nat) (T S n : Nat) (V : Nat → Nat → Nat) (dat : Nat → Nat) : Prop := PKq (fun s => kK n V (2 + s)) (fm 4 + 2) ≤ 4096 ∧ FITd fm T S n V dat ∧ ∀ dat', FITd fm T S n V dat' → ∀ i, i < fm 4 → dat' i = dat i
def VER (fm : Nat → Nat) (T S n : Nat) (V : Nat → Nat → Nat) (r : Nat → Bool) (v : Nat) (dat : Nat → Nat) : Prop :=
  (n = 0 ∧ v = 0) ∨ (∃ c0, c0 < n ∧ r c0 = true ∧ (∀ c, c < c0 → r c = false) ∧ (∀ i, i < fm 4 → dat i = V c0 (2 + i)) ∧ ((v = 1 ∧ ∀ c, c < n → r c = true → ∀ i, i < fm 4 → V c (2 + i) = V c0 (2 + i)) ∨ (v = 2 ∧ ∃ c, c < n ∧ r c = true ∧ ∃ i, i < fm 4 ∧ V c (2 + i) ≠ V c0 (2 + i)))) ∨ (0 < n ∧ (∀ c, c < n → r c = false) ∧ ((v = 3 ∧ UNI fm T S n V dat) ∨ (v = 4 ∧ ¬ ∃ dat', UNI fm T S n V dat')))
theorem VER_one {fm : Nat → Nat} {T S n : Nat} {V : Nat → Nat → Nat} {r : Nat → Bool} {v v' : Nat} {dat dat' : Nat → Nat} (h : VER fm T S n V r v dat) (h' : VER fm T S n V r v' dat') : v = v' ∧ (v = 1 ∨ v = 3 → ∀ i, i < fm 4 → dat i = dat' i) := by
  rcases h with ⟨a, b⟩ | ⟨c0, a1, a2, a3, a4, a5⟩ | ⟨a1, a2, a3⟩
  · rcases h' with ⟨a', b'⟩ | ⟨c0', b1, _⟩ | ⟨b1, _⟩
    · exact ⟨by omega, fun q => by omega⟩
    · omega
    · omega
  · rcases h' with ⟨a', b'⟩ | ⟨c0', b1, b2, b3, b4, b5⟩ | ⟨b1, b2, b3⟩
    · omega
    · have e : c0 = c0' := by
        rcases Nat.lt_trichotomy c0 c0' with q | q | q
        · rw [b3 c0 q] at a2; cases a2
        · exact q
        · rw [a3 c0' q] at b2; cases b2
      subst e
      refine ⟨?_, fun _ i hi => by rw [a4 i hi, b4 i hi]⟩
      rcases a5 with ⟨x, y⟩ | ⟨x, c, y1, y2, i, y3, y4⟩ <;> rcases b5 with ⟨z, w⟩ | ⟨z, c', w1, w2, j, w3, w4⟩
      · omega
      · exact absurd (y c' w1 w2 j w3) w4
      · exact absurd (w c y1 y2 i y3) y4
      · omega
    · rw [b2 c0 a1] at a2; cases a2
  · rcases h' with ⟨a', b'⟩ | ⟨c0', b1, b2, b3, b4, b5⟩ | ⟨b1, b2, b3⟩
    · omega
    · rw [a2 c0' b1] at b2; cases b2
    · rcases a3 with ⟨x, y⟩ | ⟨x, y⟩ <;> rcases b3 with ⟨z, w⟩ | ⟨z, w⟩
      · exact ⟨by omega, fun _ i hi => w.2.2 dat y.2.1 i hi⟩
      · exact absurd ⟨dat, y⟩ w
      · exact absurd ⟨dat', w⟩ y
      · exact ⟨by omega, fun q => by omega⟩
theorem VER_le {fm : Nat → Nat} {T S n : Nat} {V : Nat → Nat → Nat} {r : Nat → Bool} {v : Nat} {dat : Nat → Nat} (h : VER fm T S n V r v dat) : v ≤ 4 := by
  rcases h with ⟨a, b⟩ | ⟨c0, a1, a2, a3, a4, a5⟩ | ⟨a1, a2, a3⟩
  · omega
  · rcases a5 with ⟨x, _⟩ | ⟨x, _⟩ <;> omega
  · rcases a3 with ⟨x, _⟩ | ⟨x, _⟩ <;> omega
theorem SUMd_cong {fm : Nat → Nat} {T S : Nat} {d d' : Nat → Nat} (h : ∀ i, i < fm 4 → d i = d' i) : SUMd fm T S d = SUMd fm T S d' := sm_cong _ (fun j hj => by
  unfold hdv
  by_cases a : j = 0
  · rw [if_pos a, if_pos a]
  · rw [if_neg a, if_neg a]
    by_cases b : j = 1
    · rw [if_pos b, if_pos b]
    · rw [if_neg b, if_neg b, h (j - 2) (by omega)])
