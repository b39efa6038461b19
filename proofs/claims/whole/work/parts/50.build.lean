/-! THE BUILDING: while the constructors run, cells come in a fixed order; a cell's place is the heap's first size and its offset -/
def off (K i : Nat) : Nat := match K with
  | 11 => 0 | 2 => 1 | 20 => 2 | 4 => 3 + i
  | 10 => if i = 0 then 5 else 30 + 21 * (i - 1)
  | 21 => if i = 0 then 6 else 31 + 21 * (i - 1)
  | 5 => 7 | 22 => 8 | 8 => 9 | 25 => 10
  | 1 => if i = 10 then 11 else 32 + 21 * i
  | 23 => if i = 10 then 12 else 33 + 21 * i
  | 7 => if 80 ≤ i then 13 + 2 * (i - 80) else 34 + 21 * (i / 8) + 2 * (i % 8)
  | 24 => if i = 88 then 240 else if 80 ≤ i then 14 + 2 * (i - 80) else 35 + 21 * (i / 8) + 2 * (i % 8)
  | 9 => 29 + 21 * i
  | 3 => 239 | 26 => 241 | 27 => 242 | 28 => 243 | 29 => 244 + i | 30 => 254 | 31 => 255 | 32 => 256 | 33 => 257
  | 0 => 258 | 34 => 259 | 35 => 260 + i | 36 => 263 | 37 => 264 | 38 => 265 | 6 => 266 | 39 => 267
  | 12 => 268 | k => 229 + k
def nmL : List (Nat × Nat) := [(11, 0), (2, 0), (20, 0), (4, 0), (4, 1), (10, 0), (21, 0), (5, 0), (22, 0), (8, 0), (25, 0), (1, 10), (23, 10), (7, 80), (24, 80), (7, 81), (24, 81), (7, 82), (24, 82), (7, 83), (24, 83), (7, 84), (24, 84), (7, 85), (24, 85), (7, 86), (24, 86), (7, 87), (24, 87), (9, 0), (10, 1), (21, 1), (1, 0), (23, 0), (7, 0), (24, 0), (7, 1), (24, 1), (7, 2), (24, 2), (7, 3), (24, 3), (7, 4), (24, 4), (7, 5), (24, 5), (7, 6), (24, 6), (7, 7), (24, 7), (9, 1), (10, 2), (21, 2), (1, 1), (23, 1), (7, 8), (24, 8), (7, 9), (24, 9), (7, 10), (24, 10), (7, 11), (24, 11), (7, 12), (24, 12), (7, 13), (24, 13), (7, 14), (24, 14), (7, 15), (24, 15), (9, 2), (10, 3), (21, 3), (1, 2), (23, 2), (7, 16), (24, 16), (7, 17), (24, 17), (7, 18), (24, 18), (7, 19), (24, 19), (7, 20), (24, 20), (7, 21), (24, 21), (7, 22), (24, 22), (7, 23), (24, 23), (9, 3), (10, 4), (21, 4), (1, 3), (23, 3), (7, 24), (24, 24), (7, 25), (24, 25), (7, 26), (24, 26), (7, 27), (24, 27), (7, 28), (24, 28), (7, 29), (24, 29), (7, 30), (24, 30), (7, 31), (24, 31), (9, 4), (10, 5), (21, 5), (1, 4), (23, 4), (7, 32), (24, 32), (7, 33), (24, 33), (7, 34), (24, 34), (7, 35), (24, 35), (7, 36), (24, 36), (7, 37), (24, 37), (7, 38), (24, 38), (7, 39), (24, 39), (9, 5), (10, 6), (21, 6), (1, 5), (23, 5), (7, 40), (24, 40), (7, 41), (24, 41), (7, 42), (24, 42), (7, 43), (24, 43), (7, 44), (24, 44), (7, 45), (24, 45), (7, 46), (24, 46), (7, 47), (24, 47), (9, 6), (10, 7), (21, 7), (1, 6), (23, 6), (7, 48), (24, 48), (7, 49), (24, 49), (7, 50), (24, 50), (7, 51), (24, 51), (7, 52), (24, 52), (7, 53), (24, 53), (7, 54), (24, 54), (7, 55), (24, 55), (9, 7), (10, 8), (21, 8), (1, 7), (23, 7), (7, 56), (24, 56), (7, 57), (24, 57), (7, 58), (24, 58), (7, 59), (24, 59), (7, 60), (24, 60), (7, 61), (24, 61), (7, 62), (24, 62), (7, 63), (24, 63), (9, 8), (10, 9), (21, 9), (1, 8), (23, 8), (7, 64), (24, 64), (7, 65), (24, 65), (7, 66), (24, 66), (7, 67), (24, 67), (7, 68), (24, 68), (7, 69), (24, 69), (7, 70), (24, 70), (7, 71), (24, 71), (9, 9), (10, 10), (21, 10), (1, 9), (23, 9), (7, 72), (24, 72), (7, 73), (24, 73), (7, 74), (24, 74), (7, 75), (24, 75), (7, 76), (24, 76), (7, 77), (24, 77), (7, 78), (24, 78), (7, 79), (24, 79), (3, 0), (24, 88), (26, 0), (27, 0), (28, 0), (29, 0), (29, 1), (29, 2), (29, 3), (29, 4), (29, 5), (29, 6), (29, 7), (29, 8), (29, 9), (30, 0), (31, 0), (32, 0), (33, 0), (0, 0), (34, 0), (35, 0), (35, 1), (35, 2), (36, 0), (37, 0), (38, 0), (6, 0), (39, 0), (12, 0), (40, 0), (41, 0), (42, 0), (43, 0), (44, 0), (45, 0), (46, 0), (47, 0), (48, 0), (49, 0), (50, 0), (51, 0), (52, 0), (53, 0), (54, 0), (55, 0), (56, 0), (57, 0), (58, 0), (59, 0), (60, 0), (61, 0), (62, 0)]
abbrev nm (o : Nat) : Nat × Nat := nmL.getD o (0, 0)
theorem kd_lt {K : Nat} (h : kd K ≠ none) : K < 63 := by
  rcases Nat.lt_or_ge K 63 with q | q
  · exact q
  · exfalso
    apply h
    unfold kd
    split <;> first | omega | rfl
theorem off_nm0 : ∀ K, K < 63 → (kd K).isSome = true → ∀ i, i < kn K → off K i < 292 ∧ nmL.getD (off K i) (0, 0) = (K, i) := by decide +kernel
theorem off_nm {K i : Nat} (h : kd K ≠ none) (hi : i < kn K) : off K i < 292 ∧ nm (off K i) = (K, i) := off_nm0 K (kd_lt h) (by cases e : kd K with | none => exact absurd e h | some _ => rfl) i hi
theorem off_inj {K i K' i' : Nat} (h : kd K ≠ none) (hi : i < kn K) (h' : kd K' ≠ none) (hi' : i' < kn K') (e : off K i = off K' i') : K = K' ∧ i = i' := by
  have h1 := (off_nm h hi).2
  rw [e, (off_nm h' hi').2] at h1
  exact ⟨(congrArg Prod.fst h1).symm, (congrArg Prod.snd h1).symm⟩
theorem nm_off : ∀ o, o < 292 → (kd (nmL.getD o (0, 0)).1).isSome = true ∧ (nmL.getD o (0, 0)).2 < kn (nmL.getD o (0, 0)).1 ∧ off (nmL.getD o (0, 0)).1 (nmL.getD o (0, 0)).2 = o := by decide +kernel
abbrev lkT : Type := Nat → Nat → Nat → aV
def dvT (ty : FieldType) : aV := match ty with
  | .long => aL 0
  | .object _ => aN
  | .array _ => aN
  | _ => aI 0
theorem cv_dv {ad : Nat → Nat → Nat} {ty : FieldType} (h1 : ty ≠ .float) (h2 : ty ≠ .double) : cv ad (dvT ty) = defaultValue ty := by
  cases ty <;> first | rfl | exact absurd rfl h1 | exact absurd rfl h2
def nw (lk : lkT) (K i : Nat) (d : Nat → aV) : lkT := fun K' i' s => if K' = K ∧ i' = i then d s else lk K' i' s
def pf (lk : lkT) (K i s : Nat) (v : aV) : lkT := fun K' i' s' => if K' = K ∧ i' = i ∧ s' = s then v else lk K' i' s'
theorem nw_eq {lk : lkT} {K i s : Nat} {d : Nat → aV} : nw lk K i d K i s = d s := if_pos ⟨rfl, rfl⟩
theorem nw_ne {lk : lkT} {K i K' i' s : Nat} {d : Nat → aV} (h : ¬ (K' = K ∧ i' = i)) : nw lk K i d K' i' s = lk K' i' s := if_neg h
theorem pf_eq {lk : lkT} {K i s : Nat} {v : aV} : pf lk K i s v K i s = v := if_pos ⟨rfl, rfl, rfl⟩
theorem pf_ne {lk : lkT} {K i s K' i' s' : Nat} {v : aV} (h : ¬ (K' = K ∧ i' = i ∧ s' = s)) : pf lk K i s v K' i' s' = lk K' i' s' := if_neg h
def rb_c (Γ : cx_T) (lk : lkT) (K i : Nat) (H : Heap) : Prop := match kd K with
  | some (.inl ci) => ∃ r : vw_C, vwCl[ci]? = some r ∧ t_OB (g_ad Γ K i) (g_dC Γ ci) r.2.2 (g_dI Γ ci) H (fun s => cv (g_ad Γ) (lk K i s))
  | some (.inr (_, n)) => H[g_ad Γ K i]? = some (arrV (g_cA Γ K) n (fun j => cv (g_ad Γ) (lk K i j)))
  | none => True
def rb (Γ : cx_T) (n : Nat) (lk : lkT) (H : Heap) : Prop := H.size = (g_H0 Γ).size + n ∧ ∀ K i, kd K ≠ none → i < kn K → off K i < n → rb_c Γ lk K i H
def ad_ok (Γ : cx_T) : Prop := ∀ K i, kd K ≠ none → i < kn K → g_ad Γ K i = (g_H0 Γ).size + off K i
def vmb (Γ : cx_T) (U : State) : Prop := vm_OK Γ U ∧ ad_ok Γ ∧ va_AO RX7 U ∧ va_AO RX9 U ∧ (Cond.arrayOver (.array .int)).before #[] U = true
theorem vmb_warm {Γ : cx_T} {s U : State} (hW : s.WarmedH U.vm) (h : vmb Γ s) : vmb Γ U := ⟨vm_warm hW h.1, h.2.1, h.2.2.1.moved hW.alike, h.2.2.2.1.moved hW.alike, Jvm.Stand.arrayOver_alikeB hW.alike h.2.2.2.2⟩
/-- cells that were there stay -/
theorem rb_kept {Γ : cx_T} {lk lk' : lkT} {K i : Nat} {H H' : Heap} (h : rb_c Γ lk K i H) (hq : H'[g_ad Γ K i]? = H[g_ad Γ K i]?) (e : ∀ s, lk' K i s = lk K i s) : rb_c Γ lk' K i H' := by
  unfold rb_c at h ⊢
  cases hk : kd K with
  | none => trivial
  | some y =>
    rw [hk] at h
    cases y with
    | inl ci =>
      obtain ⟨r, h1, h2⟩ := h
      exact ⟨r, h1, by simp only [e]; exact h2.kept hq⟩
    | inr y =>
      show H'[g_ad Γ K i]? = _
      rw [hq]
      simp only [e]
      exact h
/-- one cell more -/
theorem rb_new {Γ : cx_T} {lk : lkT} {K i n : Nat} {d : Nat → aV} {H H' : Heap} (ha : ad_ok Γ) (h : rb Γ n lk H) (hk : kd K ≠ none) (hi : i < kn K) (hn : off K i = n) (hz : H'.size = H.size + 1) (oq : ∀ q : Nat, q < H.size → H'[q]? = H[q]?) (hc : rb_c Γ (nw lk K i d) K i H') : rb Γ (n + 1) (nw lk K i d) H' := by
  refine ⟨by rw [hz, h.1]; omega, fun K' i' hk' hi' ho => ?_⟩
  by_cases e : off K' i' = n
  · obtain ⟨rfl, rfl⟩ := off_inj hk' hi' hk hi (e.trans hn.symm)
    exact hc
  · have hne : ¬ (K' = K ∧ i' = i) := fun q => e (by rw [q.1, q.2]; exact hn)
    refine rb_kept (h.2 K' i' hk' hi' (by omega)) (oq _ ?_) (fun s => nw_ne hne)
    rw [ha K' i' hk' hi', h.1]
    omega
/-- one cell is another -/
theorem rb_set {Γ : cx_T} {lk : lkT} {K i n s : Nat} {v : aV} {H H' : Heap} (hG : g_ok Γ) (h : rb Γ n lk H) (hk : kd K ≠ none) (hi : i < kn K) (hz : H'.size = H.size) (oq : ∀ q : Nat, q ≠ g_ad Γ K i → H'[q]? = H[q]?) (hc : rb_c Γ (pf lk K i s v) K i H') : rb Γ n (pf lk K i s v) H' := by
  refine ⟨by rw [hz, h.1], fun K' i' hk' hi' ho => ?_⟩
  by_cases e : K' = K ∧ i' = i
  · obtain ⟨rfl, rfl⟩ := e
    exact hc
  · exact rb_kept (h.2 K' i' hk' hi' ho) (oq _ (fun q => e (hG.1 K' i' K i hk' hk hi' hi q))) (fun s' => pf_ne (fun q => e ⟨q.1, q.2.1⟩))
theorem rb_obj {Γ : cx_T} {lk : lkT} {n : Nat} {H : Heap} (h : rb Γ n lk H) {K i ci : Nat} (hk : kd K = some (.inl ci)) (hi : i < kn K) (ho : off K i < n) : ∃ r : vw_C, vwCl[ci]? = some r ∧ t_OB (g_ad Γ K i) (g_dC Γ ci) r.2.2 (g_dI Γ ci) H (fun s => cv (g_ad Γ) (lk K i s)) := by
  have := h.2 K i (by rw [hk]; simp) hi ho
  unfold rb_c at this
  rw [hk] at this
  exact this
theorem rb_arr {Γ : cx_T} {lk : lkT} {m : Nat} {H : Heap} (h : rb Γ m lk H) {K i n : Nat} {ty : FieldType} (hk : kd K = some (.inr (ty, n))) (hi : i < kn K) (ho : off K i < m) : H[g_ad Γ K i]? = some (arrV (g_cA Γ K) n (fun j => cv (g_ad Γ) (lk K i j))) := by
  have := h.2 K i (by rw [hk]; simp) hi ho
  unfold rb_c at this
  rw [hk] at this
  exact this
/-! the judgement of a constructor's body -/
abbrev bx_T : Type := Program × Env × Room × State × MethodId × Array Value × List Frame × Method × Code × (State → Prop)
def in_C (Γ : cx_T) (M : mt_T) (mc ms : Nat) (X : bx_T) : Prop := match X with
  | (p, _, R, s, m, _, _, meth, c, _) => p.tables.exec = Jvm.exec ∧ c.code = m_c M ∧ c.maxLocals = m_L M ∧ s.vm.findClass (m_y M).cls = some m.cls ∧ vmb Γ s ∧ m_f M ≤ R.frames ∧ m_w M ≤ R.locals ∧ mc ≤ R.cells ∧ ms ≤ R.slots ∧ ((m_y M).name = "<init>" → meth.name = "<init>")
def wb (Γ : cx_T) (X : bx_T) (H : Heap) (locs : List Loc) (cells slots pc : Nat) (arr : Array Slot) (st : List Value) : Prop := match X with
  | (p, e, R, s, m, args, below, meth, c, QQ) => W p (g_l Γ) e R s m args below meth c H locs cells slots QQ (F0 m pc arr st)
def rt_C (Γ : cx_T) (M : mt_T) (mc ms : Nat) (X : bx_T) (Q : Nat → lkT → Prop) : Prop := ∀ (n : Nat) (lk : lkT) (H : Heap) (locs : List Loc) (pc : Nat) (arr : Array Slot), Q n lk → rb Γ n lk H → va_S (g_A Γ) (g_H0 Γ) H locs → ((decode (m_c M) pc = .ok (.return_, 1) ∧ (m_y M).name ≠ "law") ∨ (pc = 18 ∧ (m_y M).name = "law" ∧ lv_has arr (m_L M) (lo_l (g_ad Γ) [aR 65 0, aR 11 0, aR 12 0, aI 0]))) → wb Γ X H locs mc ms pc arr []
def bw (Γ : cx_T) (M : mt_T) (mc ms pc : Nat) (ls st : List aV) (n : Nat) (lk : lkT) (cells slots : Nat) (Q : Nat → lkT → Prop) : Prop := ∀ X : bx_T, in_C Γ M mc ms X → rt_C Γ M mc ms X Q → ∀ (H : Heap) (locs : List Loc) (arr : Array Slot), rb Γ n lk H → va_S (g_A Γ) (g_H0 Γ) H locs → lv_has arr (m_L M) (lo_l (g_ad Γ) ls) → wb Γ X H locs cells slots pc arr (st.map (cv (g_ad Γ)))
def cb_P (Γ : cx_T) (vs : List aV) (n : Nat) (lk : lkT) : Array Value → State → Prop := fun v U => v = (vs.map (cv (g_ad Γ))).toArray ∧ rb Γ n lk U.heap ∧ va_S (g_A Γ) (g_H0 Γ) U.heap [] ∧ vmb Γ U
def cb_Q (Γ : cx_T) (Q : Nat → lkT → Prop) : Array Value → State → Outcome → State → Prop := fun _ _ oc t => ∃ n lk, oc = .returned none ∧ rb Γ n lk t.heap ∧ va_S (g_A Γ) (g_H0 Γ) t.heap [] ∧ Q n lk
def cb (Γ : cx_T) (M : mt_T) (mc ms : Nat) (vs : List aV) (n : Nat) (lk : lkT) (Q : Nat → lkT → Prop) : Prop := Met (g_l Γ) (m_y M) [.code (m_y M) (m_c M) (m_L M) (m_r M)] { frames := m_f M, cells := mc, slots := ms, locals := m_w M } (cb_P Γ vs n lk) (cb_Q Γ Q) mc ms (g_A Γ)
