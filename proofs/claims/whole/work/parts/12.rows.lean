theorem lo_mem {ad : Nat → Nat → Nat} {ls : List aV} {q : Nat × Value} : q ∈ lo_l ad ls ↔ ∃ v, ls[q.1]? = some v ∧ v ≠ aX ∧ q.2 = cv ad v := by
  unfold lo_l
  rw [List.mem_filterMap]
  constructor
  · rintro ⟨i, hi, h⟩
    cases hv : ls[i]? with
    | none => rw [hv] at h; cases h
    | some v =>
      rw [hv] at h
      simp only [Option.bind_some] at h
      split at h
      · cases h
      · cases h
        exact ⟨v, hv, ‹_›, rfl⟩
  · rintro ⟨v, h1, h2, h3⟩
    refine ⟨q.1, List.mem_range.mpr (List.getElem?_eq_some_iff.mp h1).1, ?_⟩
    rw [h1]
    simp only [Option.bind_some, if_neg h2]
    rw [← h3]
theorem lo_at {ad : Nat → Nat → Nat} {ls : List aV} {arr : Array Slot} {n : Nat} (h : lv_has arr n (lo_l ad ls)) {i : Nat} {v : aV} (hl : ls[i]? = some v) (hv : v ≠ aX) : arr[i]? = some (.val (cv ad v)) := h.2.2 (i, cv ad v) (lo_mem.mpr ⟨v, hl, hv, rfl⟩)
/-- no long stands just ahead of i -/
def lo_nl (ls : List aV) (i : Nat) : Bool := match i with
  | 0 => true
  | j + 1 => match ls[j]? with
    | some (.inr (.inl _)) => false
    | _ => true
theorem cv_cat {ad : Nat → Nat → Nat} {v : aV} (h : (cv ad v).category = 2) : ∃ x, v = .inr (.inl x) := by
  unfold cv at h
  split at h
  · cases h
  · exact ⟨_, rfl⟩
  · cases h
  · cases h
theorem lo_set {ad : Nat → Nat → Nat} {ls ls' : List aV} {arr : Array Slot} {n i : Nat} {v : aV} (h : lv_has arr n ((i, cv ad v) :: (lo_l ad ls).filter (fun q => !(q.1 == i) && !(q.1 + 1 == i && q.2.category == 2)))) (hn : lo_nl ls i = true) (he : ls.set i v = ls') : lv_has arr n (lo_l ad ls') := by
  subst he
  refine ⟨h.1, h.2.1, fun q hq => ?_⟩
  obtain ⟨w, h1, h2, h3⟩ := lo_mem.mp hq
  obtain ⟨k, z⟩ := q
  dsimp only at h1 h3 ⊢
  by_cases hk : k = i
  · subst hk
    rw [List.getElem?_set_self' ] at h1
    cases hv : ls[k]? with
    | none => rw [hv] at h1; cases h1
    | some y =>
      rw [hv] at h1
      cases h1
      rw [h3]
      exact h.2.2 (k, cv ad v) List.mem_cons_self
  · rw [List.getElem?_set_ne (fun e => hk e.symm)] at h1
    refine h.2.2 (k, z) (List.mem_cons_of_mem _ (List.mem_filter.mpr ⟨lo_mem.mpr ⟨w, h1, h2, h3⟩, ?_⟩))
    simp only [Bool.and_eq_true, Bool.not_eq_true', beq_eq_false_iff_ne, ne_eq, Bool.and_eq_false_imp, beq_iff_eq]
    refine ⟨hk, fun e hc => ?_⟩
    rw [h3] at hc
    obtain ⟨x, rfl⟩ := cv_cat hc
    subst e
    simp only [lo_nl, h1] at hn
    cases hn
theorem lo_setL {ad : Nat → Nat → Nat} {ls ls' : List aV} {arr : Array Slot} {n i : Nat} {x : Int64} (h : lv_has arr n ((i, .long x) :: (lo_l ad ls).filter (fun q => !(q.1 == i) && (!(q.1 == i + 1) && !(q.1 + 1 == i && q.2.category == 2))))) (hn : lo_nl ls i = true) (he : (ls.set i (aL x)).set (i + 1) aX = ls') : lv_has arr n (lo_l ad ls') := by
  subst he
  refine ⟨h.1, h.2.1, fun q hq => ?_⟩
  obtain ⟨w, h1, h2, h3⟩ := lo_mem.mp hq
  obtain ⟨k, z⟩ := q
  dsimp only at h1 h3 ⊢
  by_cases hk1 : k = i + 1
  · subst hk1
    rw [List.getElem?_set_self'] at h1
    cases hv : (ls.set i (aL x))[i + 1]? with
    | none => rw [hv] at h1; cases h1
    | some y => rw [hv] at h1; cases h1; exact absurd rfl h2
  rw [List.getElem?_set_ne (fun e => hk1 e.symm)] at h1
  by_cases hk : k = i
  · subst hk
    rw [List.getElem?_set_self' ] at h1
    cases hv : ls[k]? with
    | none => rw [hv] at h1; cases h1
    | some y =>
      rw [hv] at h1
      cases h1
      rw [h3]
      exact h.2.2 (k, .long x) List.mem_cons_self
  · rw [List.getElem?_set_ne (fun e => hk e.symm)] at h1
    refine h.2.2 (k, z) (List.mem_cons_of_mem _ (List.mem_filter.mpr ⟨lo_mem.mpr ⟨w, h1, h2, h3⟩, ?_⟩))
    simp only [Bool.and_eq_true, Bool.not_eq_true', beq_eq_false_iff_ne, ne_eq, Bool.and_eq_false_imp, beq_iff_eq]
    refine ⟨hk, hk1, fun e hc => ?_⟩
    rw [h3] at hc
    obtain ⟨x, rfl⟩ := cv_cat hc
    subst e
    simp only [lo_nl, h1] at hn
    cases hn
theorem liv_set {ls ls' : List aV} {i : Nat} {v : aV} (h : ∀ w ∈ ls, liv w) (hv : liv v) (he : ls.set i v = ls') : ∀ w ∈ ls', liv w := by
  subst he
  intro w hw
  rcases List.mem_or_eq_of_mem_set hw with h1 | h1
  · exact h w h1
  · rw [h1]; exact hv
section AW
variable {Γ : cx_T} {M : mt_T} {pc : Nat} {ls ls' st : List aV} {μ : mH} {Q : aV → mH → Prop}
/-- an instruction that touches the stack alone -/
theorem aw_s {pc' : Nat} {st st' : List aV} (k : aw Γ M pc' ls st' μ Q) (hst : (∀ v ∈ ls, liv v) → (∀ v ∈ st, liv v) → ∀ v ∈ st', liv v)
    (h : ∀ {p : Program} {l : Launch} {e : Env} {R : Room} {s : State} {m : MethodId} {args : Array Value} {below : List Frame} {meth : Method} {c : Code} {H : Heap} {locs : List Loc} {cells slots : Nat} {QQ : State → Prop} {arr : Array Slot}, p.tables.exec = Jvm.exec → c.code = m_c M → lv_has arr (m_L M) (lo_l (g_ad Γ) ls) → W p l e R s m args below meth c H locs cells slots QQ (F0 m pc' arr (st'.map (cv (g_ad Γ)))) → W p l e R s m args below meth c H locs cells slots QQ (F0 m pc arr (st.map (cv (g_ad Γ))))) : aw Γ M pc ls st μ Q := by
  intro X hB hR H locs arr hH hS hL hv hw
  have hk := k X hB hR H locs arr hH hS hL hv (hst hv hw)
  obtain ⟨p, e, R, s, m, args, below, meth, c, cells, slots, QQ⟩ := X
  obtain ⟨hx, hb, -⟩ := hB
  exact h hx hb hL hk
/-- fewer locals are known -/
theorem aw_weak (h : ∀ (i : Nat) (v : aV), ls'[i]? = some v → v ≠ aX → ls[i]? = some v) (k : aw Γ M pc ls' st μ Q) : aw Γ M pc ls st μ Q := by
  intro X hB hR H locs arr hH hS hL hv hw
  refine k X hB hR H locs arr hH hS ⟨hL.1, hL.2.1, fun q hq => ?_⟩ (fun w hw => ?_) hw
  · obtain ⟨v, h1, h2, h3⟩ := lo_mem.mp hq
    exact hL.2.2 q (lo_mem.mpr ⟨v, h _ _ h1 h2, h2, h3⟩)
  · by_cases e : w = aX
    · rw [e]; exact trivial
    · obtain ⟨i, hi⟩ := List.getElem?_of_mem hw
      exact hv w (List.mem_of_getElem? (h i w hi e))
theorem aw_mono {Q' : aV → mH → Prop} (h : aw Γ M pc ls st μ Q) (hQ : ∀ r μ', Q r μ' → Q' r μ') : aw Γ M pc ls st μ Q' := fun X hB hR => h X hB (fun r μ' hl hq => hR r μ' hl (hQ r μ' hq))
/-- an instruction that stores a local -/
theorem aw_l {pc' i : Nat} {v : aV} (k : aw Γ M pc' ls' st μ Q) (hn : lo_nl ls i = true) (he : ls.set i v = ls') {st0 : List aV} (hv1 : (∀ w ∈ st0, liv w) → (∀ v ∈ ls, liv v) → liv v) (hst0 : (∀ w ∈ st0, liv w) → ∀ w ∈ st, liv w)
    (h : ∀ {p : Program} {l : Launch} {e : Env} {R : Room} {s : State} {m : MethodId} {args : Array Value} {below : List Frame} {meth : Method} {c : Code} {H : Heap} {locs : List Loc} {cells slots : Nat} {QQ : State → Prop} {arr : Array Slot}, p.tables.exec = Jvm.exec → c.code = m_c M → lv_has arr (m_L M) (lo_l (g_ad Γ) ls) → (∀ arr' : Array Slot, lv_has arr' (m_L M) ((i, cv (g_ad Γ) v) :: (lo_l (g_ad Γ) ls).filter (fun q => !(q.1 == i) && !(q.1 + 1 == i && q.2.category == 2))) → W p l e R s m args below meth c H locs cells slots QQ (F0 m pc' arr' (st.map (cv (g_ad Γ))))) → W p l e R s m args below meth c H locs cells slots QQ (F0 m pc arr (st0.map (cv (g_ad Γ))))) : aw Γ M pc ls st0 μ Q := by
  intro X hB hR H locs arr hH hS hL hv hw
  have hk := fun arr' (hL' : lv_has arr' (m_L M) (lo_l (g_ad Γ) ls')) => k X hB hR H locs arr' hH hS hL' (liv_set hv (hv1 hw hv) he) (hst0 hw)
  obtain ⟨p, e, R, s, m, args, below, meth, c, cells, slots, QQ⟩ := X
  obtain ⟨hx, hb, -⟩ := hB
  exact h hx hb hL (fun arr' h' => hk arr' (lo_set h' hn he))
theorem aw_iconst {n : Int} {v : Int32} (hd : decode (m_c M) pc = .ok (.iconst n, 1)) (hv : Int32.ofInt n = v) (k : aw Γ M (pc + 1) ls (aI v :: st) μ Q) : aw Γ M pc ls st μ Q := aw_s k (fun _ h => List.forall_mem_cons.mpr ⟨trivial, h⟩) (fun hx hb hL kk => lv_iconst hx hb hd hv kk)
theorem aw_bipush {n : Int} {v : Int32} (hd : decode (m_c M) pc = .ok (.bipush n, 2)) (hv : (Int8.ofInt n).toInt32 = v) (k : aw Γ M (pc + 2) ls (aI v :: st) μ Q) : aw Γ M pc ls st μ Q := aw_s k (fun _ h => List.forall_mem_cons.mpr ⟨trivial, h⟩) (fun hx hb hL kk => lv_bipush hx hb hd hv kk)
theorem aw_sipush {n : Int} {v : Int32} (hd : decode (m_c M) pc = .ok (.sipush n, 3)) (hv : (Int16.ofInt n).toInt32 = v) (k : aw Γ M (pc + 3) ls (aI v :: st) μ Q) : aw Γ M pc ls st μ Q := aw_s k (fun _ h => List.forall_mem_cons.mpr ⟨trivial, h⟩) (fun hx hb hL kk => lv_sipush hx hb hd hv kk)
theorem aw_lconst {n : Fin 2} {v : Int64} (hd : decode (m_c M) pc = .ok (.lconst n, 1)) (hv : Int64.ofNat (n : Nat) = v) (k : aw Γ M (pc + 1) ls (aL v :: st) μ Q) : aw Γ M pc ls st μ Q := aw_s k (fun _ h => List.forall_mem_cons.mpr ⟨trivial, h⟩) (fun hx hb hL kk => lv_lconst hx hb hd hv kk)
theorem aw_null (hd : decode (m_c M) pc = .ok (.aconst_null, 1)) (k : aw Γ M (pc + 1) ls (aN :: st) μ Q) : aw Γ M pc ls st μ Q := aw_s k (fun _ h => List.forall_mem_cons.mpr ⟨trivial, h⟩) (fun hx hb hL kk => lv_null hx hb hd kk)
theorem aw_iload_n {n : Fin 4} {x : Int32} (hd : decode (m_c M) pc = .ok (.iload_n n, 1)) (hl : ls[(n : Nat)]? = some (aI x)) (k : aw Γ M (pc + 1) ls (aI x :: st) μ Q) : aw Γ M pc ls st μ Q := aw_s k (fun _ h => List.forall_mem_cons.mpr ⟨trivial, h⟩) (fun hx hb hL kk => lv_iload_n hx hb hd rfl (lo_at hL hl (by simp)) kk)
theorem aw_iload {n : Nat} {x : Int32} (hd : decode (m_c M) pc = .ok (.iload n, 2)) (hl : ls[n]? = some (aI x)) (k : aw Γ M (pc + 2) ls (aI x :: st) μ Q) : aw Γ M pc ls st μ Q := aw_s k (fun _ h => List.forall_mem_cons.mpr ⟨trivial, h⟩) (fun hx hb hL kk => lv_iload hx hb hd (lo_at hL hl (by simp)) kk)
theorem aw_lload_n {n : Fin 4} {x : Int64} (hd : decode (m_c M) pc = .ok (.lload_n n, 1)) (hl : ls[(n : Nat)]? = some (aL x)) (k : aw Γ M (pc + 1) ls (aL x :: st) μ Q) : aw Γ M pc ls st μ Q := aw_s k (fun _ h => List.forall_mem_cons.mpr ⟨trivial, h⟩) (fun hx hb hL kk => lv_lload_n hx hb hd rfl (lo_at hL hl (by simp)) kk)
theorem aw_aload_n {n : Fin 4} {K i : Nat} (hd : decode (m_c M) pc = .ok (.aload_n n, 1)) (hl : ls[(n : Nat)]? = some (aR K i)) (k : aw Γ M (pc + 1) ls (aR K i :: st) μ Q) : aw Γ M pc ls st μ Q := aw_s k (fun h0 h => List.forall_mem_cons.mpr ⟨h0 _ (List.mem_of_getElem? hl), h⟩) (fun hx hb hL kk => lv_aload_n hx hb hd rfl (lo_at hL hl (by simp)) kk)
theorem aw_aload_nQ {n : Fin 4} {K : Nat} {o : Option Nat} (hd : decode (m_c M) pc = .ok (.aload_n n, 1)) (hl : ls[(n : Nat)]? = some (aQ K o)) (k : aw Γ M (pc + 1) ls (aQ K o :: st) μ Q) : aw Γ M pc ls st μ Q := by
  cases o with
  | none => exact aw_s k (fun _ h => List.forall_mem_cons.mpr ⟨trivial, h⟩) (fun hx hb hL kk => lv_aload_nN hx hb hd rfl (lo_at hL hl (by simp)) kk)
  | some i => exact aw_aload_n hd hl k
theorem aw_aload {n : Nat} {K i : Nat} (hd : decode (m_c M) pc = .ok (.aload n, 2)) (hl : ls[n]? = some (aR K i)) (k : aw Γ M (pc + 2) ls (aR K i :: st) μ Q) : aw Γ M pc ls st μ Q := aw_s k (fun h0 h => List.forall_mem_cons.mpr ⟨h0 _ (List.mem_of_getElem? hl), h⟩) (fun hx hb hL kk => lv_aload hx hb hd (lo_at hL hl (by simp)) kk)
theorem aw_aloadQ {n : Nat} {K : Nat} {o : Option Nat} (hd : decode (m_c M) pc = .ok (.aload n, 2)) (hl : ls[n]? = some (aQ K o)) (k : aw Γ M (pc + 2) ls (aQ K o :: st) μ Q) : aw Γ M pc ls st μ Q := by
  cases o with
  | none => exact aw_s k (fun _ h => List.forall_mem_cons.mpr ⟨trivial, h⟩) (fun hx hb hL kk => lv_aloadN hx hb hd (lo_at hL hl (by simp)) kk)
  | some i => exact aw_aload hd hl k
theorem aw_iadd {x y : Int32} (hd : decode (m_c M) pc = .ok (.iadd, 1)) (k : aw Γ M (pc + 1) ls (aI (x + y) :: st) μ Q) : aw Γ M pc ls (aI y :: aI x :: st) μ Q := aw_s k (fun _ h => List.forall_mem_cons.mpr ⟨trivial, (List.forall_mem_cons.mp (List.forall_mem_cons.mp h).2).2⟩) (fun hx hb hL kk => lv_iadd hx hb hd kk)
theorem aw_isub {x y : Int32} (hd : decode (m_c M) pc = .ok (.isub, 1)) (k : aw Γ M (pc + 1) ls (aI (x - y) :: st) μ Q) : aw Γ M pc ls (aI y :: aI x :: st) μ Q := aw_s k (fun _ h => List.forall_mem_cons.mpr ⟨trivial, (List.forall_mem_cons.mp (List.forall_mem_cons.mp h).2).2⟩) (fun hx hb hL kk => lv_isub hx hb hd kk)
theorem aw_imul {x y : Int32} (hd : decode (m_c M) pc = .ok (.imul, 1)) (k : aw Γ M (pc + 1) ls (aI (x * y) :: st) μ Q) : aw Γ M pc ls (aI y :: aI x :: st) μ Q := aw_s k (fun _ h => List.forall_mem_cons.mpr ⟨trivial, (List.forall_mem_cons.mp (List.forall_mem_cons.mp h).2).2⟩) (fun hx hb hL kk => lv_imul hx hb hd kk)
theorem aw_iand {x y : Int32} (hd : decode (m_c M) pc = .ok (.iand, 1)) (k : aw Γ M (pc + 1) ls (aI (x &&& y) :: st) μ Q) : aw Γ M pc ls (aI y :: aI x :: st) μ Q := aw_s k (fun _ h => List.forall_mem_cons.mpr ⟨trivial, (List.forall_mem_cons.mp (List.forall_mem_cons.mp h).2).2⟩) (fun hx hb hL kk => lv_iand hx hb hd kk)
theorem aw_ior {x y : Int32} (hd : decode (m_c M) pc = .ok (.ior, 1)) (k : aw Γ M (pc + 1) ls (aI (x ||| y) :: st) μ Q) : aw Γ M pc ls (aI y :: aI x :: st) μ Q := aw_s k (fun _ h => List.forall_mem_cons.mpr ⟨trivial, (List.forall_mem_cons.mp (List.forall_mem_cons.mp h).2).2⟩) (fun hx hb hL kk => lv_ior hx hb hd kk)
theorem aw_ixor {x y : Int32} (hd : decode (m_c M) pc = .ok (.ixor, 1)) (k : aw Γ M (pc + 1) ls (aI (x ^^^ y) :: st) μ Q) : aw Γ M pc ls (aI y :: aI x :: st) μ Q := aw_s k (fun _ h => List.forall_mem_cons.mpr ⟨trivial, (List.forall_mem_cons.mp (List.forall_mem_cons.mp h).2).2⟩) (fun hx hb hL kk => lv_ixor hx hb hd kk)
theorem aw_ishl {x y : Int32} (hd : decode (m_c M) pc = .ok (.ishl, 1)) (k : aw Γ M (pc + 1) ls (aI (x <<< (y &&& 31)) :: st) μ Q) : aw Γ M pc ls (aI y :: aI x :: st) μ Q := aw_s k (fun _ h => List.forall_mem_cons.mpr ⟨trivial, (List.forall_mem_cons.mp (List.forall_mem_cons.mp h).2).2⟩) (fun hx hb hL kk => lv_ishl hx hb hd kk)
theorem aw_ishr {x y : Int32} (hd : decode (m_c M) pc = .ok (.ishr, 1)) (k : aw Γ M (pc + 1) ls (aI (x >>> (y &&& 31)) :: st) μ Q) : aw Γ M pc ls (aI y :: aI x :: st) μ Q := aw_s k (fun _ h => List.forall_mem_cons.mpr ⟨trivial, (List.forall_mem_cons.mp (List.forall_mem_cons.mp h).2).2⟩) (fun hx hb hL kk => lv_ishr hx hb hd kk)
theorem aw_iushr {x y : Int32} (hd : decode (m_c M) pc = .ok (.iushr, 1)) (k : aw Γ M (pc + 1) ls (aI ((x.toUInt32 >>> (y.toUInt32 &&& Int32.toUInt32 31)).toInt32) :: st) μ Q) : aw Γ M pc ls (aI y :: aI x :: st) μ Q := aw_s k (fun _ h => List.forall_mem_cons.mpr ⟨trivial, (List.forall_mem_cons.mp (List.forall_mem_cons.mp h).2).2⟩) (fun hx hb hL kk => lv_iushr hx hb hd rfl kk)
theorem aw_idiv {x y : Int32} (hd : decode (m_c M) pc = .ok (.idiv, 1)) (hne : ¬ y = 0) (k : aw Γ M (pc + 1) ls (aI (x / y) :: st) μ Q) : aw Γ M pc ls (aI y :: aI x :: st) μ Q := aw_s k (fun _ h => List.forall_mem_cons.mpr ⟨trivial, (List.forall_mem_cons.mp (List.forall_mem_cons.mp h).2).2⟩) (fun hx hb hL kk => lv_idiv hx hb hd hne kk)
theorem aw_irem {x y : Int32} (hd : decode (m_c M) pc = .ok (.irem, 1)) (hne : ¬ y = 0) (k : aw Γ M (pc + 1) ls (aI (x - x / y * y) :: st) μ Q) : aw Γ M pc ls (aI y :: aI x :: st) μ Q := aw_s k (fun _ h => List.forall_mem_cons.mpr ⟨trivial, (List.forall_mem_cons.mp (List.forall_mem_cons.mp h).2).2⟩) (fun hx hb hL kk => lv_irem hx hb hd hne kk)
theorem aw_ladd {x y : Int64} (hd : decode (m_c M) pc = .ok (.ladd, 1)) (k : aw Γ M (pc + 1) ls (aL (x + y) :: st) μ Q) : aw Γ M pc ls (aL y :: aL x :: st) μ Q := aw_s k (fun _ h => List.forall_mem_cons.mpr ⟨trivial, (List.forall_mem_cons.mp (List.forall_mem_cons.mp h).2).2⟩) (fun hx hb hL kk => lv_ladd hx hb hd kk)
theorem aw_lsub {x y : Int64} (hd : decode (m_c M) pc = .ok (.lsub, 1)) (k : aw Γ M (pc + 1) ls (aL (x - y) :: st) μ Q) : aw Γ M pc ls (aL y :: aL x :: st) μ Q := aw_s k (fun _ h => List.forall_mem_cons.mpr ⟨trivial, (List.forall_mem_cons.mp (List.forall_mem_cons.mp h).2).2⟩) (fun hx hb hL kk => lv_lsub hx hb hd kk)
theorem aw_lmul {x y : Int64} (hd : decode (m_c M) pc = .ok (.lmul, 1)) (k : aw Γ M (pc + 1) ls (aL (x * y) :: st) μ Q) : aw Γ M pc ls (aL y :: aL x :: st) μ Q := aw_s k (fun _ h => List.forall_mem_cons.mpr ⟨trivial, (List.forall_mem_cons.mp (List.forall_mem_cons.mp h).2).2⟩) (fun hx hb hL kk => lv_lmul hx hb hd kk)
theorem aw_lor {x y : Int64} (hd : decode (m_c M) pc = .ok (.lor, 1)) (k : aw Γ M (pc + 1) ls (aL (x ||| y) :: st) μ Q) : aw Γ M pc ls (aL y :: aL x :: st) μ Q := aw_s k (fun _ h => List.forall_mem_cons.mpr ⟨trivial, (List.forall_mem_cons.mp (List.forall_mem_cons.mp h).2).2⟩) (fun hx hb hL kk => lv_lor hx hb hd kk)
theorem aw_lshl {x : Int64} {y : Int32} (hd : decode (m_c M) pc = .ok (.lshl, 1)) (k : aw Γ M (pc + 1) ls (aL (x <<< (y.toInt64 &&& 63)) :: st) μ Q) : aw Γ M pc ls (aI y :: aL x :: st) μ Q := aw_s k (fun _ h => List.forall_mem_cons.mpr ⟨trivial, (List.forall_mem_cons.mp (List.forall_mem_cons.mp h).2).2⟩) (fun hx hb hL kk => lv_lshl hx hb hd rfl kk)
theorem aw_lcmp {x y : Int64} (hd : decode (m_c M) pc = .ok (.lcmp, 1)) (k : aw Γ M (pc + 1) ls (aI (lg_cmp x y) :: st) μ Q) : aw Γ M pc ls (aL y :: aL x :: st) μ Q := aw_s k (fun _ h => List.forall_mem_cons.mpr ⟨trivial, (List.forall_mem_cons.mp (List.forall_mem_cons.mp h).2).2⟩) (fun hx hb hL kk => W.lcmp hx hb hd kk)
theorem aw_i2l {x : Int32} (hd : decode (m_c M) pc = .ok (.i2l, 1)) (k : aw Γ M (pc + 1) ls (aL x.toInt64 :: st) μ Q) : aw Γ M pc ls (aI x :: st) μ Q := aw_s k (fun _ h => List.forall_mem_cons.mpr ⟨trivial, (List.forall_mem_cons.mp h).2⟩) (fun hx hb hL kk => lv_i2l hx hb hd rfl kk)
theorem aw_l2i {x : Int64} (hd : decode (m_c M) pc = .ok (.l2i, 1)) (k : aw Γ M (pc + 1) ls (aI x.toInt32 :: st) μ Q) : aw Γ M pc ls (aL x :: st) μ Q := aw_s k (fun _ h => List.forall_mem_cons.mpr ⟨trivial, (List.forall_mem_cons.mp h).2⟩) (fun hx hb hL kk => lv_l2i hx hb hd rfl kk)
theorem aw_i2b {x : Int32} (hd : decode (m_c M) pc = .ok (.i2b, 1)) (k : aw Γ M (pc + 1) ls (aI x.toInt8.toInt32 :: st) μ Q) : aw Γ M pc ls (aI x :: st) μ Q := aw_s k (fun _ h => List.forall_mem_cons.mpr ⟨trivial, (List.forall_mem_cons.mp h).2⟩) (fun hx hb hL kk => lv_i2b hx hb hd rfl kk)
theorem aw_i2c {x : Int32} (hd : decode (m_c M) pc = .ok (.i2c, 1)) (k : aw Γ M (pc + 1) ls (aI (x.toUInt32 % 65536).toInt32 :: st) μ Q) : aw Γ M pc ls (aI x :: st) μ Q := aw_s k (fun _ h => List.forall_mem_cons.mpr ⟨trivial, (List.forall_mem_cons.mp h).2⟩) (fun hx hb hL kk => lv_i2c hx hb hd rfl kk)
theorem aw_dup {v : aV} (hd : decode (m_c M) pc = .ok (.dup, 1)) (h1 : ∀ ad, (cv ad v).category = 1) (k : aw Γ M (pc + 1) ls (v :: v :: st) μ Q) : aw Γ M pc ls (v :: st) μ Q := aw_s k (fun _ h => List.forall_mem_cons.mpr ⟨(List.forall_mem_cons.mp h).1, h⟩) (fun hx hb hL kk => lv_dup hx hb hd (h1 _) kk)
theorem aw_dup2 {v w : aV} (hd : decode (m_c M) pc = .ok (.dup2, 1)) (h1 : ∀ ad, (cv ad v).category = 1) (h2 : ∀ ad, (cv ad w).category = 1) (k : aw Γ M (pc + 1) ls (v :: w :: v :: w :: st) μ Q) : aw Γ M pc ls (v :: w :: st) μ Q := aw_s k (fun _ h => List.forall_mem_cons.mpr ⟨(List.forall_mem_cons.mp h).1, List.forall_mem_cons.mpr ⟨(List.forall_mem_cons.mp (List.forall_mem_cons.mp h).2).1, h⟩⟩) (fun hx hb hL kk => lv_dup2_11 hx hb hd (h1 _) (h2 _) kk)
theorem aw_goto {off : Int} {tgt : Nat} (hd : decode (m_c M) pc = .ok (.goto off, 3)) (ht : (pc : Int) + off = (tgt : Int)) (k : aw Γ M tgt ls st μ Q) : aw Γ M pc ls st μ Q := aw_s k (fun _ h => h) (fun hx hb hL kk => lv_goto hx hb hd ht kk)
theorem aw_istore_n {n : Fin 4} {x : Int32} (hd : decode (m_c M) pc = .ok (.istore_n n, 1)) (hi : (n : Nat) < m_L M) (hn : lo_nl ls (n : Nat) = true) (he : ls.set (n : Nat) (aI x) = ls') (k : aw Γ M (pc + 1) ls' st μ Q) : aw Γ M pc ls (aI x :: st) μ Q := aw_l k hn he (fun _ _ => trivial) (fun h => (List.forall_mem_cons.mp h).2) (fun hx hb hL kk => lv_istore_n hx hb hd rfl hL hi rfl kk)
theorem aw_istore {n : Nat} {x : Int32} (hd : decode (m_c M) pc = .ok (.istore n, 2)) (hi : n < m_L M) (hn : lo_nl ls n = true) (he : ls.set n (aI x) = ls') (k : aw Γ M (pc + 2) ls' st μ Q) : aw Γ M pc ls (aI x :: st) μ Q := aw_l k hn he (fun _ _ => trivial) (fun h => (List.forall_mem_cons.mp h).2) (fun hx hb hL kk => lv_istore hx hb hd hL hi rfl kk)
theorem aw_astore_n {n : Fin 4} {K i : Nat} (hd : decode (m_c M) pc = .ok (.astore_n n, 1)) (hi : (n : Nat) < m_L M) (hn : lo_nl ls (n : Nat) = true) (he : ls.set (n : Nat) (aR K i) = ls') (k : aw Γ M (pc + 1) ls' st μ Q) : aw Γ M pc ls (aR K i :: st) μ Q := aw_l k hn he (fun h _ => (List.forall_mem_cons.mp h).1) (fun h => (List.forall_mem_cons.mp h).2) (fun hx hb hL kk => lv_astore_n hx hb hd rfl hL hi rfl kk)
theorem aw_astore_nQ {n : Fin 4} {K : Nat} {o : Option Nat} (hd : decode (m_c M) pc = .ok (.astore_n n, 1)) (hi : (n : Nat) < m_L M) (hn : lo_nl ls (n : Nat) = true) (he : ls.set (n : Nat) (aQ K o) = ls') (k : aw Γ M (pc + 1) ls' st μ Q) : aw Γ M pc ls (aQ K o :: st) μ Q := by
  cases o with
  | none => exact aw_l k hn he (fun _ _ => trivial) (fun h => (List.forall_mem_cons.mp h).2) (fun hx hb hL kk => lv_astore_nN hx hb hd rfl hL hi rfl kk)
  | some i => exact aw_astore_n hd hi hn he k
theorem aw_astore {n : Nat} {K i : Nat} (hd : decode (m_c M) pc = .ok (.astore n, 2)) (hi : n < m_L M) (hn : lo_nl ls n = true) (he : ls.set n (aR K i) = ls') (k : aw Γ M (pc + 2) ls' st μ Q) : aw Γ M pc ls (aR K i :: st) μ Q := aw_l k hn he (fun h _ => (List.forall_mem_cons.mp h).1) (fun h => (List.forall_mem_cons.mp h).2) (fun hx hb hL kk => lv_astore hx hb hd hL hi rfl kk)
theorem aw_astoreQ {n : Nat} {K : Nat} {o : Option Nat} (hd : decode (m_c M) pc = .ok (.astore n, 2)) (hi : n < m_L M) (hn : lo_nl ls n = true) (he : ls.set n (aQ K o) = ls') (k : aw Γ M (pc + 2) ls' st μ Q) : aw Γ M pc ls (aQ K o :: st) μ Q := by
  cases o with
  | none => exact aw_l k hn he (fun _ _ => trivial) (fun h => (List.forall_mem_cons.mp h).2) (fun hx hb hL kk => lv_astoreN hx hb hd hL hi rfl kk)
  | some i => exact aw_astore hd hi hn he k
theorem aw_lstore_n {n : Fin 4} {x : Int64} (hd : decode (m_c M) pc = .ok (.lstore_n n, 1)) (hi : (n : Nat) + 1 < m_L M) (hn : lo_nl ls (n : Nat) = true) (he : (ls.set (n : Nat) (aL x)).set ((n : Nat) + 1) aX = ls') (k : aw Γ M (pc + 1) ls' st μ Q) : aw Γ M pc ls (aL x :: st) μ Q := by
  intro X hB hR H locs arr hH hS hL hv hw
  have hk := fun arr' (hL' : lv_has arr' (m_L M) (lo_l (g_ad Γ) ls')) => k X hB hR H locs arr' hH hS hL' (liv_set (liv_set hv (show liv (aL x) from trivial) rfl) (show liv aX from trivial) he) (List.forall_mem_cons.mp hw).2
  obtain ⟨p, e, R, s, m, args, below, meth, c, cells, slots, QQ⟩ := X
  obtain ⟨hx, hb, -⟩ := hB
  exact lv_lstore_n hx hb hd rfl hL hi rfl (fun arr' h' => hk arr' (lo_setL h' hn he))
theorem aw_iinc {n : Nat} {d : Int} {x v : Int32} (hd : decode (m_c M) pc = .ok (.iinc n d, 3)) (hl : ls[n]? = some (aI x)) (hv : x + Int32.ofInt d = v) (hi : n < m_L M) (hn : lo_nl ls n = true) (he : ls.set n (aI v) = ls') (k : aw Γ M (pc + 3) ls' st μ Q) : aw Γ M pc ls st μ Q := aw_l k hn he (fun _ _ => trivial) (fun h => h) (fun hx hb hL kk => by
  obtain ⟨j, hj⟩ := List.getElem?_of_mem (lo_mem.mpr ⟨aI x, hl, by simp, rfl⟩ : (n, cv (g_ad Γ) (aI x)) ∈ lo_l (g_ad Γ) ls)
  exact lv_iinc hx hb hd hL hj hv hi rfl kk)
theorem aw_icmp_eq {x y : Int32} {off : Int} {tgt : Nat} (hd : decode (m_c M) pc = .ok (.if_icmp .eq off, 3)) (ht : (pc : Int) + off = (tgt : Int)) (kt : x = y → aw Γ M tgt ls st μ Q) (kf : ¬ x = y → aw Γ M (pc + 3) ls st μ Q) : aw Γ M pc ls (aI y :: aI x :: st) μ Q := by
  intro X hB hR H locs arr hH hS hL hv hw
  have hk := fun c => kt c X hB hR H locs arr hH hS hL hv (List.forall_mem_cons.mp (List.forall_mem_cons.mp hw).2).2
  have hj := fun c => kf c X hB hR H locs arr hH hS hL hv (List.forall_mem_cons.mp (List.forall_mem_cons.mp hw).2).2
  obtain ⟨p, e, R, s, m, args, below, meth, c, cells, slots, QQ⟩ := X
  obtain ⟨hx, hb, -⟩ := hB
  exact lv_icmp_eq hx hb hd ht hk hj
theorem aw_if_eq {x : Int32} {off : Int} {tgt : Nat} (hd : decode (m_c M) pc = .ok (.ifCond .eq off, 3)) (ht : (pc : Int) + off = (tgt : Int)) (kt : x = 0 → aw Γ M tgt ls st μ Q) (kf : ¬ x = 0 → aw Γ M (pc + 3) ls st μ Q) : aw Γ M pc ls (aI x :: st) μ Q := by
  intro X hB hR H locs arr hH hS hL hv hw
  have hk := fun c => kt c X hB hR H locs arr hH hS hL hv (List.forall_mem_cons.mp hw).2
  have hj := fun c => kf c X hB hR H locs arr hH hS hL hv (List.forall_mem_cons.mp hw).2
  obtain ⟨p, e, R, s, m, args, below, meth, c, cells, slots, QQ⟩ := X
  obtain ⟨hx, hb, -⟩ := hB
  exact lv_if_eq hx hb hd ht hk hj
theorem aw_icmp_ne {x y : Int32} {off : Int} {tgt : Nat} (hd : decode (m_c M) pc = .ok (.if_icmp .ne off, 3)) (ht : (pc : Int) + off = (tgt : Int)) (kt : ¬ x = y → aw Γ M tgt ls st μ Q) (kf : x = y → aw Γ M (pc + 3) ls st μ Q) : aw Γ M pc ls (aI y :: aI x :: st) μ Q := by
  intro X hB hR H locs arr hH hS hL hv hw
  have hk := fun c => kt c X hB hR H locs arr hH hS hL hv (List.forall_mem_cons.mp (List.forall_mem_cons.mp hw).2).2
  have hj := fun c => kf c X hB hR H locs arr hH hS hL hv (List.forall_mem_cons.mp (List.forall_mem_cons.mp hw).2).2
  obtain ⟨p, e, R, s, m, args, below, meth, c, cells, slots, QQ⟩ := X
  obtain ⟨hx, hb, -⟩ := hB
  exact lv_icmp_ne hx hb hd ht hk hj
theorem aw_if_ne {x : Int32} {off : Int} {tgt : Nat} (hd : decode (m_c M) pc = .ok (.ifCond .ne off, 3)) (ht : (pc : Int) + off = (tgt : Int)) (kt : ¬ x = 0 → aw Γ M tgt ls st μ Q) (kf : x = 0 → aw Γ M (pc + 3) ls st μ Q) : aw Γ M pc ls (aI x :: st) μ Q := by
  intro X hB hR H locs arr hH hS hL hv hw
  have hk := fun c => kt c X hB hR H locs arr hH hS hL hv (List.forall_mem_cons.mp hw).2
  have hj := fun c => kf c X hB hR H locs arr hH hS hL hv (List.forall_mem_cons.mp hw).2
  obtain ⟨p, e, R, s, m, args, below, meth, c, cells, slots, QQ⟩ := X
  obtain ⟨hx, hb, -⟩ := hB
  exact lv_if_ne hx hb hd ht hk hj
theorem aw_icmp_lt {x y : Int32} {off : Int} {tgt : Nat} (hd : decode (m_c M) pc = .ok (.if_icmp .lt off, 3)) (ht : (pc : Int) + off = (tgt : Int)) (kt : x < y → aw Γ M tgt ls st μ Q) (kf : ¬ x < y → aw Γ M (pc + 3) ls st μ Q) : aw Γ M pc ls (aI y :: aI x :: st) μ Q := by
  intro X hB hR H locs arr hH hS hL hv hw
  have hk := fun c => kt c X hB hR H locs arr hH hS hL hv (List.forall_mem_cons.mp (List.forall_mem_cons.mp hw).2).2
  have hj := fun c => kf c X hB hR H locs arr hH hS hL hv (List.forall_mem_cons.mp (List.forall_mem_cons.mp hw).2).2
  obtain ⟨p, e, R, s, m, args, below, meth, c, cells, slots, QQ⟩ := X
  obtain ⟨hx, hb, -⟩ := hB
  exact lv_icmp_lt hx hb hd ht hk hj
theorem aw_if_lt {x : Int32} {off : Int} {tgt : Nat} (hd : decode (m_c M) pc = .ok (.ifCond .lt off, 3)) (ht : (pc : Int) + off = (tgt : Int)) (kt : x < 0 → aw Γ M tgt ls st μ Q) (kf : ¬ x < 0 → aw Γ M (pc + 3) ls st μ Q) : aw Γ M pc ls (aI x :: st) μ Q := by
  intro X hB hR H locs arr hH hS hL hv hw
  have hk := fun c => kt c X hB hR H locs arr hH hS hL hv (List.forall_mem_cons.mp hw).2
  have hj := fun c => kf c X hB hR H locs arr hH hS hL hv (List.forall_mem_cons.mp hw).2
  obtain ⟨p, e, R, s, m, args, below, meth, c, cells, slots, QQ⟩ := X
  obtain ⟨hx, hb, -⟩ := hB
  exact lv_if_lt hx hb hd ht hk hj
theorem aw_icmp_ge {x y : Int32} {off : Int} {tgt : Nat} (hd : decode (m_c M) pc = .ok (.if_icmp .ge off, 3)) (ht : (pc : Int) + off = (tgt : Int)) (kt : y ≤ x → aw Γ M tgt ls st μ Q) (kf : ¬ y ≤ x → aw Γ M (pc + 3) ls st μ Q) : aw Γ M pc ls (aI y :: aI x :: st) μ Q := by
  intro X hB hR H locs arr hH hS hL hv hw
  have hk := fun c => kt c X hB hR H locs arr hH hS hL hv (List.forall_mem_cons.mp (List.forall_mem_cons.mp hw).2).2
  have hj := fun c => kf c X hB hR H locs arr hH hS hL hv (List.forall_mem_cons.mp (List.forall_mem_cons.mp hw).2).2
  obtain ⟨p, e, R, s, m, args, below, meth, c, cells, slots, QQ⟩ := X
  obtain ⟨hx, hb, -⟩ := hB
  exact lv_icmp_ge hx hb hd ht hk hj
theorem aw_if_ge {x : Int32} {off : Int} {tgt : Nat} (hd : decode (m_c M) pc = .ok (.ifCond .ge off, 3)) (ht : (pc : Int) + off = (tgt : Int)) (kt : 0 ≤ x → aw Γ M tgt ls st μ Q) (kf : ¬ 0 ≤ x → aw Γ M (pc + 3) ls st μ Q) : aw Γ M pc ls (aI x :: st) μ Q := by
  intro X hB hR H locs arr hH hS hL hv hw
  have hk := fun c => kt c X hB hR H locs arr hH hS hL hv (List.forall_mem_cons.mp hw).2
  have hj := fun c => kf c X hB hR H locs arr hH hS hL hv (List.forall_mem_cons.mp hw).2
  obtain ⟨p, e, R, s, m, args, below, meth, c, cells, slots, QQ⟩ := X
  obtain ⟨hx, hb, -⟩ := hB
  exact lv_if_ge hx hb hd ht hk hj
theorem aw_icmp_gt {x y : Int32} {off : Int} {tgt : Nat} (hd : decode (m_c M) pc = .ok (.if_icmp .gt off, 3)) (ht : (pc : Int) + off = (tgt : Int)) (kt : y < x → aw Γ M tgt ls st μ Q) (kf : ¬ y < x → aw Γ M (pc + 3) ls st μ Q) : aw Γ M pc ls (aI y :: aI x :: st) μ Q := by
  intro X hB hR H locs arr hH hS hL hv hw
  have hk := fun c => kt c X hB hR H locs arr hH hS hL hv (List.forall_mem_cons.mp (List.forall_mem_cons.mp hw).2).2
  have hj := fun c => kf c X hB hR H locs arr hH hS hL hv (List.forall_mem_cons.mp (List.forall_mem_cons.mp hw).2).2
  obtain ⟨p, e, R, s, m, args, below, meth, c, cells, slots, QQ⟩ := X
  obtain ⟨hx, hb, -⟩ := hB
  exact lv_icmp_gt hx hb hd ht hk hj
theorem aw_if_gt {x : Int32} {off : Int} {tgt : Nat} (hd : decode (m_c M) pc = .ok (.ifCond .gt off, 3)) (ht : (pc : Int) + off = (tgt : Int)) (kt : 0 < x → aw Γ M tgt ls st μ Q) (kf : ¬ 0 < x → aw Γ M (pc + 3) ls st μ Q) : aw Γ M pc ls (aI x :: st) μ Q := by
  intro X hB hR H locs arr hH hS hL hv hw
  have hk := fun c => kt c X hB hR H locs arr hH hS hL hv (List.forall_mem_cons.mp hw).2
  have hj := fun c => kf c X hB hR H locs arr hH hS hL hv (List.forall_mem_cons.mp hw).2
  obtain ⟨p, e, R, s, m, args, below, meth, c, cells, slots, QQ⟩ := X
  obtain ⟨hx, hb, -⟩ := hB
  exact lv_if_gt hx hb hd ht hk hj
theorem aw_icmp_le {x y : Int32} {off : Int} {tgt : Nat} (hd : decode (m_c M) pc = .ok (.if_icmp .le off, 3)) (ht : (pc : Int) + off = (tgt : Int)) (kt : x ≤ y → aw Γ M tgt ls st μ Q) (kf : ¬ x ≤ y → aw Γ M (pc + 3) ls st μ Q) : aw Γ M pc ls (aI y :: aI x :: st) μ Q := by
  intro X hB hR H locs arr hH hS hL hv hw
  have hk := fun c => kt c X hB hR H locs arr hH hS hL hv (List.forall_mem_cons.mp (List.forall_mem_cons.mp hw).2).2
  have hj := fun c => kf c X hB hR H locs arr hH hS hL hv (List.forall_mem_cons.mp (List.forall_mem_cons.mp hw).2).2
  obtain ⟨p, e, R, s, m, args, below, meth, c, cells, slots, QQ⟩ := X
  obtain ⟨hx, hb, -⟩ := hB
  exact lv_icmp_le hx hb hd ht hk hj
theorem aw_if_le {x : Int32} {off : Int} {tgt : Nat} (hd : decode (m_c M) pc = .ok (.ifCond .le off, 3)) (ht : (pc : Int) + off = (tgt : Int)) (kt : x ≤ 0 → aw Γ M tgt ls st μ Q) (kf : ¬ x ≤ 0 → aw Γ M (pc + 3) ls st μ Q) : aw Γ M pc ls (aI x :: st) μ Q := by
  intro X hB hR H locs arr hH hS hL hv hw
  have hk := fun c => kt c X hB hR H locs arr hH hS hL hv (List.forall_mem_cons.mp hw).2
  have hj := fun c => kf c X hB hR H locs arr hH hS hL hv (List.forall_mem_cons.mp hw).2
  obtain ⟨p, e, R, s, m, args, below, meth, c, cells, slots, QQ⟩ := X
  obtain ⟨hx, hb, -⟩ := hB
  exact lv_if_le hx hb hd ht hk hj
theorem aw_ifnull {K : Nat} {o : Option Nat} {off : Int} {tgt : Nat} (hd : decode (m_c M) pc = .ok (.ifnull off, 3)) (ht : (pc : Int) + off = (tgt : Int)) (kt : o = none → aw Γ M tgt ls st μ Q) (kf : ∀ i, o = some i → i < kn K → aw Γ M (pc + 3) ls st μ Q) : aw Γ M pc ls (aQ K o :: st) μ Q := by
  intro X hB hR H locs arr hH hS hL hv hw
  have hl := (List.forall_mem_cons.mp hw).1
  have hw := (List.forall_mem_cons.mp hw).2
  have hk := fun c => kt c X hB hR H locs arr hH hS hL hv hw
  have hj := fun i c h => kf i c h X hB hR H locs arr hH hS hL hv hw
  obtain ⟨p, e, R, s, m, args, below, meth, c, cells, slots, QQ⟩ := X
  obtain ⟨hx, hb, -⟩ := hB
  cases o with
  | none => exact lv_ifnullN hx hb hd ht (hk rfl)
  | some i => exact lv_ifnull hx hb hd (hj i rfl hl)
theorem aw_ifnonnull {K : Nat} {o : Option Nat} {off : Int} {tgt : Nat} (hd : decode (m_c M) pc = .ok (.ifnonnull off, 3)) (ht : (pc : Int) + off = (tgt : Int)) (kt : ∀ i, o = some i → i < kn K → aw Γ M tgt ls st μ Q) (kf : o = none → aw Γ M (pc + 3) ls st μ Q) : aw Γ M pc ls (aQ K o :: st) μ Q := by
  intro X hB hR H locs arr hH hS hL hv hw
  have hl := (List.forall_mem_cons.mp hw).1
  have hw := (List.forall_mem_cons.mp hw).2
  have hk := fun c => kf c X hB hR H locs arr hH hS hL hv hw
  have hj := fun i c h => kt i c h X hB hR H locs arr hH hS hL hv hw
  obtain ⟨p, e, R, s, m, args, below, meth, c, cells, slots, QQ⟩ := X
  obtain ⟨hx, hb, -⟩ := hB
  cases o with
  | none => exact lv_ifnonnullN hx hb hd (hk rfl)
  | some i => exact lv_ifnonnull hx hb hd ht (hj i rfl hl)
theorem aw_tableIn {dflt lo hi : Int} {offs : Array Int} {len : Nat} {x : Int32} {off : Int} {tgt : Nat} (hd : decode (m_c M) pc = .ok (.tableswitch dflt lo hi offs, len)) (h1 : ¬ x.toInt < lo) (h2 : ¬ hi < x.toInt) (ho : offs[(x.toInt - lo).toNat]? = some off) (ht : (pc : Int) + off = (tgt : Int)) (k : aw Γ M tgt ls st μ Q) : aw Γ M pc ls (aI x :: st) μ Q := aw_s k (fun _ h => (List.forall_mem_cons.mp h).2) (fun hx hb hL kk => lv_tableIn hx hb hd h1 h2 ho ht kk)
theorem aw_tableOut {dflt lo hi : Int} {offs : Array Int} {len : Nat} {x : Int32} {tgt : Nat} (hd : decode (m_c M) pc = .ok (.tableswitch dflt lo hi offs, len)) (h : x.toInt < lo ∨ hi < x.toInt) (ht : (pc : Int) + dflt = (tgt : Int)) (k : aw Γ M tgt ls st μ Q) : aw Γ M pc ls (aI x :: st) μ Q := aw_s k (fun _ h => (List.forall_mem_cons.mp h).2) (fun hx hb hL kk => lv_tableOut hx hb hd h ht kk)
theorem aw_lookup {dflt : Int} {ps : Array (Int × Int)} {len : Nat} {x : Int32} {off : Int} {tgt : Nat} (hd : decode (m_c M) pc = .ok (.lookupswitch dflt ps, len)) (hp : (ps.toList.zip (ps.toList.drop 1)).all (fun (a, next) => a.1 < next.1) = true) (ho : Op.lookupswitch.offset ps.toList dflt x.toInt = off) (ht : (pc : Int) + off = (tgt : Int)) (k : aw Γ M tgt ls st μ Q) : aw Γ M pc ls (aI x :: st) μ Q := aw_s k (fun _ h => (List.forall_mem_cons.mp h).2) (fun hx hb hL kk => lv_lookup hx hb hd hp ho ht kk)
end AW
