/-! the context of a run: the launch, the classes' numbers and slots, the arrays' classes, the addresses, the heap at the law's start, the heap's size, the script -/
abbrev cx_T : Type := Launch × (Nat → ClassId) × (Nat → Nat → Nat) × (Nat → ClassId) × (Nat → Nat → Nat) × Heap × Nat × (Nat × Nat × (Nat → Int32))
abbrev g_l (Γ : cx_T) : Launch := Γ.1
abbrev g_dC (Γ : cx_T) : Nat → ClassId := Γ.2.1
abbrev g_dI (Γ : cx_T) : Nat → Nat → Nat := Γ.2.2.1
abbrev g_cA (Γ : cx_T) : Nat → ClassId := Γ.2.2.2.1
abbrev g_ad (Γ : cx_T) : Nat → Nat → Nat := Γ.2.2.2.2.1
abbrev g_H0 (Γ : cx_T) : Heap := Γ.2.2.2.2.2.1
abbrev g_sz (Γ : cx_T) : Nat := Γ.2.2.2.2.2.2.1
abbrev g_b (Γ : cx_T) : Nat := Γ.2.2.2.2.2.2.2.1
abbrev g_L (Γ : cx_T) : Nat := Γ.2.2.2.2.2.2.2.2.1
abbrev g_xs (Γ : cx_T) : Nat → Int32 := Γ.2.2.2.2.2.2.2.2.2
def g_A (Γ : cx_T) : Nat → Prop := fun q => (g_H0 Γ).size ≤ q
def cv (ad : Nat → Nat → Nat) (v : aV) : Value := match v with
  | .inl x => .int x
  | .inr (.inl x) => .long x
  | .inr (.inr (some (some q))) => .ref (ad q.1 q.2)
  | .inr (.inr _) => .null
/-- a method: its name, its code, its locals, what it answers, frames and words of room -/
abbrev mt_T : Type := MethodName × ByteArray × Nat × Option FieldType × Nat × Nat
abbrev m_y (M : mt_T) : MethodName := M.1
abbrev m_c (M : mt_T) : ByteArray := M.2.1
abbrev m_L (M : mt_T) : Nat := M.2.2.1
abbrev m_r (M : mt_T) : Option FieldType := M.2.2.2.1
abbrev m_f (M : mt_T) : Nat := M.2.2.2.2.1
abbrev m_w (M : mt_T) : Nat := M.2.2.2.2.2
def is_nl (w : Cond) : Bool := match w with
  | .methodLinkNest _ _ _ _ => true
  | _ => false
def tb_g : List Cond := lw_tbl.filter goodWord
def tb_n : List Cond := lw_tbl.filter is_nl
theorem tb_gm {w : Cond} (n : Nat) (h : lw_tbl[n]? = some w) (hg : goodWord w = true) : w ∈ tb_g := List.mem_filter.mpr ⟨List.mem_of_getElem? h, hg⟩
theorem tb_nm {w : Cond} (n : Nat) (h : lw_tbl[n]? = some w) (hg : is_nl w = true) : w ∈ tb_n := List.mem_filter.mpr ⟨List.mem_of_getElem? h, hg⟩
/-- the texts: cell gain mark data sum swap add xor crc -/
def lenS : List Nat := [4, 4, 4, 4, 3, 4, 3, 3, 3]
def bytS : List (List Int32) := [[99, 101, 108, 108], [103, 97, 105, 110], [109, 97, 114, 107], [100, 97, 116, 97], [115, 117, 109], [115, 119, 97, 112], [97, 100, 100], [120, 111, 114], [99, 114, 99]]
def st_tab : List (String × Nat × String × Nat) := [("ClickingDisk$FormatText", 55, "cell", 0), ("ClickingDisk$FormatText", 61, "gain", 1), ("ClickingDisk$FormatText", 63, "mark", 2), ("ClickingDisk$FormatText", 65, "data", 3), ("ClickingDisk$FormatText", 67, "sum", 4), ("ClickingDisk$FormatText", 69, "swap", 5), ("ClickingDisk$FormatText", 96, "add", 6), ("ClickingDisk$FormatText", 101, "xor", 7), ("ClickingDisk$FormatText", 103, "crc", 8), ("ClickingDiskModel", 146, "cell", 0), ("ClickingDiskModel", 148, "gain", 1), ("ClickingDiskModel", 150, "mark", 2), ("ClickingDiskModel", 152, "data", 3), ("ClickingDiskModel", 154, "sum", 4), ("ClickingDiskModel", 156, "swap", 5), ("ClickingDiskModel", 132, "crc", 8), ("ClickingDiskModel", 138, "add", 6), ("ClickingDiskModel", 140, "xor", 7)]
def g_ok (Γ : cx_T) : Prop := (∀ K i K' i', kd K ≠ none → kd K' ≠ none → i < kn K → i' < kn K' → g_ad Γ K i = g_ad Γ K' i' → K = K' ∧ i = i') ∧ (∀ K i, kd K ≠ none → i < kn K → (g_H0 Γ).size ≤ g_ad Γ K i)
def vm_OK (Γ : cx_T) (U : State) : Prop := g_ok Γ ∧ (∀ w ∈ tb_g, ∀ a, w.before a U = true) ∧ (∀ w ∈ tb_n, va_Nw w U) ∧ (∀ (c : Nat) (q : vw_C), vwCl[c]? = some q → u_Kn U q.1 q.2.1 q.2.2 (g_dC Γ c) (g_dI Γ c)) ∧ (∀ (K : Nat) (ty : FieldType) (n : Nat), kd K = some (.inr (ty, n)) → ArrOfT U (g_cA Γ K) ty ∧ va_RA U (g_cA Γ K) ty) ∧ vk_S 9 lenS bytS (g_ad Γ 63) (g_ad Γ 64) (g_A Γ) U (g_H0 Γ) ∧ (∀ q ∈ st_tab, vk_R q.1 q.2.1 q.2.2.1 (g_ad Γ 63 q.2.2.2) U) ∧ (va_Z "java/lang/String" "COMPACT_STRINGS" "Z" (.int 1) (g_A Γ) U (g_H0 Γ) ∧ (va_Z "jdk/internal/util/Preconditions" "SIOOBE_FORMATTER" "Ljava/util/function/BiFunction;" .null (g_A Γ) U (g_H0 Γ) ∨ va_Z "jdk/internal/util/Preconditions" "SIOOBE_FORMATTER" "Ljava/util/function/BiFunction;" (.ref (g_ad Γ 66 0)) (g_A Γ) U (g_H0 Γ))) ∧ va_X (g_b Γ) (g_L Γ) (g_xs Γ) U (g_H0 Γ) ∧ g_b Γ < (g_H0 Γ).size
theorem vm_warm {Γ : cx_T} {s U : State} (hW : s.WarmedH U.vm) (h : vm_OK Γ s) : vm_OK Γ U := by
  obtain ⟨h0, h1, h2, h3, h4, h5, h6, h7, h8, h9⟩ := h
  refine ⟨h0, fun w hw a => word_at hW (good_of_word (List.mem_filter.mp hw).2) (h1 w hw #[]), fun w hw => ?_, fun c q hq => u_Kn_moved hW.alike (h3 c q hq), fun K ty n hk => ⟨arrOfT_moved hW.alike (h4 K ty n hk).1, (h4 K ty n hk).2.moved hW.alike⟩, h5.moved hW.alike, fun q hq => (h6 q hq).warm hW, ⟨h7.1.moved hW.alike, h7.2.imp (fun q => q.moved hW.alike) (fun q => q.moved hW.alike)⟩, h8.moved hW.alike, h9⟩
  have h := h2 w hw
  have hn := (List.mem_filter.mp hw).2
  unfold is_nl at hn
  split at hn
  · exact va_Nw.warmM hW h
  · cases hn
/-- a cell of a kind -/
def rp_c (Γ : cx_T) (μ : mH) (K i : Nat) (H : Heap) : Prop := match kd K with
  | some (.inl ci) => ∃ r : vw_C, vwCl[ci]? = some r ∧ t_OB (g_ad Γ K i) (g_dC Γ ci) r.2.2 (g_dI Γ ci) H (fun s => cv (g_ad Γ) (look μ K i s))
  | some (.inr (_, n)) => H[g_ad Γ K i]? = some (arrV (g_cA Γ K) n (fun j => cv (g_ad Γ) (look μ K i j)))
  | none => True
def rp_H (Γ : cx_T) (μ : mH) (H : Heap) : Prop := H.size = g_sz Γ ∧ ∀ K i, i < kn K → rp_c Γ μ K i H
theorem rp_obj {Γ : cx_T} {μ : mH} {H : Heap} (h : rp_H Γ μ H) {K i ci : Nat} (hi : i < kn K) (hk : kd K = some (.inl ci)) : ∃ r : vw_C, vwCl[ci]? = some r ∧ t_OB (g_ad Γ K i) (g_dC Γ ci) r.2.2 (g_dI Γ ci) H (fun s => cv (g_ad Γ) (look μ K i s)) := by
  have := h.2 K i hi
  unfold rp_c at this
  rw [hk] at this
  exact this
theorem rp_arr {Γ : cx_T} {μ : mH} {H : Heap} (h : rp_H Γ μ H) {K i n : Nat} {ty : FieldType} (hi : i < kn K) (hk : kd K = some (.inr (ty, n))) : H[g_ad Γ K i]? = some (arrV (g_cA Γ K) n (fun j => cv (g_ad Γ) (look μ K i j))) := by
  have := h.2 K i hi
  unfold rp_c at this
  rw [hk] at this
  exact this
/-- one cell has changed -/
theorem rp_set {Γ : cx_T} {μ μ' : mH} {H H' : Heap} (hG : g_ok Γ) (h : rp_H Γ μ H) {K i : Nat} (hi : i < kn K) (hk : kd K ≠ none) (hz : H'.size = H.size) (oq : ∀ q : Nat, q ≠ g_ad Γ K i → H'[q]? = H[q]?) (hc : rp_c Γ μ' K i H') (hl : ∀ K' i' s', ¬ (K' = K ∧ i' = i) → look μ' K' i' s' = look μ K' i' s') : rp_H Γ μ' H' := by
  refine ⟨hz.trans h.1, fun K' i' hi' => ?_⟩
  by_cases he : K' = K ∧ i' = i
  · obtain ⟨rfl, rfl⟩ := he
    exact hc
  · have h0 := h.2 K' i' hi'
    unfold rp_c at h0 ⊢
    have e : ∀ s, look μ' K' i' s = look μ K' i' s := fun s => hl K' i' s he
    cases hk' : kd K' with
    | none => trivial
    | some y =>
      have hne : g_ad Γ K' i' ≠ g_ad Γ K i := fun q => he (hG.1 K' i' K i (by rw [hk']; simp) hk hi' hi q)
      rw [hk'] at h0
      cases y with
      | inl ci =>
        obtain ⟨r, h1, h2⟩ := h0
        refine ⟨r, h1, ?_⟩
        simp only [e]
        exact h2.kept (oq _ hne)
      | inr y =>
        show H'[g_ad Γ K' i']? = _
        rw [oq _ hne]
        simp only [e]
        exact h0
/-- the machine's own things in a method's body -/
abbrev mx_T : Type := Program × Env × Room × State × MethodId × Array Value × List Frame × Method × Code × Nat × Nat × (State → Prop)
def in_B (Γ : cx_T) (M : mt_T) (X : mx_T) : Prop := match X with
  | (p, _, R, s, m, _, _, meth, c, cells, slots, _) => p.tables.exec = Jvm.exec ∧ c.code = m_c M ∧ c.maxLocals = m_L M ∧ s.vm.findClass (m_y M).cls = some m.cls ∧ vm_OK Γ s ∧ m_f M ≤ R.frames ∧ m_w M ≤ R.locals ∧ cells ≤ R.cells ∧ slots ≤ R.slots ∧ va_S (g_A Γ) (g_H0 Γ) s.heap [] ∧ s.heap.size ≤ g_sz Γ ∧ meth.sig.returnType = m_r M
def wx (Γ : cx_T) (X : mx_T) (H : Heap) (locs : List Loc) (pc : Nat) (arr : Array Slot) (st : List Value) : Prop := match X with
  | (p, e, R, s, m, args, below, meth, c, cells, slots, QQ) => W p (g_l Γ) e R s m args below meth c H locs cells slots QQ (F0 m pc arr st)
/-- what a return owes -/
def rt_W (Γ : cx_T) (M : mt_T) (X : mx_T) (r : aV) (μ : mH) : Prop := ∀ (H : Heap) (locs : List Loc) (pc : Nat) (arr : Array Slot), rp_H Γ μ H → va_S (g_A Γ) (g_H0 Γ) H locs →
  (decode (m_c M) pc = .ok (.ireturn, 1) → ∀ (x : Int32) (ty : FieldType), r = aI x → m_r M = some ty → narrow ty (.int x) = .int x → wx Γ X H locs pc arr [.int x]) ∧
  (decode (m_c M) pc = .ok (.lreturn, 1) → ∀ (x : Int64), r = aL x → m_r M = some .long → wx Γ X H locs pc arr [.long x]) ∧
  (decode (m_c M) pc = .ok (.areturn, 1) → ∀ (o : Option (Nat × Nat)), r = .inr (.inr (some o)) → m_r M = some (.array .int) → wx Γ X H locs pc arr [cv (g_ad Γ) r]) ∧
  (decode (m_c M) pc = .ok (.return_, 1) → r = aX → m_r M = none → wx Γ X H locs pc arr [])
def rt_ok (Γ : cx_T) (M : mt_T) (X : mx_T) (Q : aV → mH → Prop) : Prop := ∀ r μ, liv r → Q r μ → rt_W Γ M X r μ
/-- the locals that are known -/
def lo_l (ad : Nat → Nat → Nat) (ls : List aV) : List (Nat × Value) := (List.range ls.length).filterMap fun i => (ls[i]?).bind fun v => if v = aX then none else some (i, cv ad v)
/-- THE JUDGEMENT: from this place of the method, with these locals, this stack and this heap, it comes to an end with Q -/
def aw (Γ : cx_T) (M : mt_T) (pc : Nat) (ls st : List aV) (μ : mH) (Q : aV → mH → Prop) : Prop := ∀ X : mx_T, in_B Γ M X → rt_ok Γ M X Q → ∀ (H : Heap) (locs : List Loc) (arr : Array Slot), rp_H Γ μ H → va_S (g_A Γ) (g_H0 Γ) H locs → lv_has arr (m_L M) (lo_l (g_ad Γ) ls) → (∀ v ∈ ls, liv v) → (∀ v ∈ st, liv v) → wx Γ X H locs pc arr (st.map (cv (g_ad Γ)))
/-- and of a whole call -/
def cw_P (Γ : cx_T) (vs : List aV) (μ : mH) : Array Value → State → Prop := fun v U => v = (vs.map (cv (g_ad Γ))).toArray ∧ (∀ v ∈ vs, liv v) ∧ rp_H Γ μ U.heap ∧ va_S (g_A Γ) (g_H0 Γ) U.heap [] ∧ vm_OK Γ U
def cw_o (Γ : cx_T) (M : mt_T) (r : aV) : Outcome := match m_r M with
  | none => .returned none
  | some _ => .returned (some (cv (g_ad Γ) r))
def cw_Q (Γ : cx_T) (M : mt_T) (Q : aV → mH → Prop) : Array Value → State → Outcome → State → Prop := fun _ _ oc t => ∃ r μ, oc = cw_o Γ M r ∧ liv r ∧ rp_H Γ μ t.heap ∧ va_S (g_A Γ) (g_H0 Γ) t.heap [] ∧ Q r μ
def cw (Γ : cx_T) (M : mt_T) (vs : List aV) (μ : mH) (Q : aV → mH → Prop) : Prop := Met (g_l Γ) (m_y M) [.code (m_y M) (m_c M) (m_L M) (m_r M)] { frames := m_f M, cells := 0, slots := 0, locals := m_w M } (cw_P Γ vs μ) (cw_Q Γ M Q) 0 0 (g_A Γ)
theorem cw_mono {Γ : cx_T} {M : mt_T} {vs : List aV} {μ : mH} {Q Q' : aV → mH → Prop} (h : cw Γ M vs μ Q) (hQ : ∀ r μ', Q r μ' → Q' r μ') : cw Γ M vs μ Q' := by
  intro p e ha hc hk s m args below hf hap hP hT
  obtain ⟨k, o, h1, h2, h3, ⟨r, μ', q1, q2, q3, q4, q5⟩, h5⟩ := h p e ha hc hk s m args below hf hap hP hT
  exact ⟨k, o, h1, h2, h3, ⟨r, μ', q1, q2, q3, q4, hQ r μ' q5⟩, h5⟩
