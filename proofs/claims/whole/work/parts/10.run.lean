/-! a run of the pure machine is a run of the machine -/
section EMR
variable {p : Program} {l : Launch} {e : Env} {R : Room} {s : State} {m : MethodId} {args : Array Value} {below : List Frame} {meth : Method} {c : Code} {Q : State → Prop}
variable {D : va_G} {dA : Nat → ClassId} {ad : em_A} {base L : Nat} {xs : Nat → Int32} {c0 s0 ix pc : Nat} {lc lc' : em_L} {st st' : List Value} {M M' : em_M} {pc' : Nat} {H : Heap}
theorem em_stp_ok (C : em_Cx D dA ad base L xs c0 p s m meth c ix) (hf : 1 ≤ R.frames) (hl : 48 ≤ R.locals) (hc : c0 ≤ M.1.length) (hs : s0 ≤ em_sl M) (hRc : M'.1.length - c0 ≤ R.cells) (hRs : em_sl M' - s0 ≤ R.slots) (h : em_stp (L, xs) ix pc lc st M = some (.inl (pc', lc', st', M'))) (kk : em_K p l e R s m args below meth c Q D dA ad base L xs c0 s0 M' pc' lc' st') : em_K p l e R s m args below meth c Q D dA ad base L xs c0 s0 M pc lc st := by
  unfold em_stp at h
  split at h
  · cases h
  · rename_i i nx hi
    obtain ⟨j, len, hd, hn, rfl, hlok⟩ := em_dec hi
    subst hn
    cases j with
    | iadd => have hq : len = 1 := Nat.eq_of_beq_eq_true hlok; subst hq; exact em_k_iadd C hd h kk
    | isub => have hq : len = 1 := Nat.eq_of_beq_eq_true hlok; subst hq; exact em_k_isub C hd h kk
    | imul => have hq : len = 1 := Nat.eq_of_beq_eq_true hlok; subst hq; exact em_k_imul C hd h kk
    | iand => have hq : len = 1 := Nat.eq_of_beq_eq_true hlok; subst hq; exact em_k_iand C hd h kk
    | ior => have hq : len = 1 := Nat.eq_of_beq_eq_true hlok; subst hq; exact em_k_ior C hd h kk
    | ixor => have hq : len = 1 := Nat.eq_of_beq_eq_true hlok; subst hq; exact em_k_ixor C hd h kk
    | ishl => have hq : len = 1 := Nat.eq_of_beq_eq_true hlok; subst hq; exact em_k_ishl C hd h kk
    | ishr => have hq : len = 1 := Nat.eq_of_beq_eq_true hlok; subst hq; exact em_k_ishr C hd h kk
    | iushr => have hq : len = 1 := Nat.eq_of_beq_eq_true hlok; subst hq; exact em_k_iushr C hd h kk
    | ladd => have hq : len = 1 := Nat.eq_of_beq_eq_true hlok; subst hq; exact em_k_ladd C hd h kk
    | lsub => have hq : len = 1 := Nat.eq_of_beq_eq_true hlok; subst hq; exact em_k_lsub C hd h kk
    | lmul => have hq : len = 1 := Nat.eq_of_beq_eq_true hlok; subst hq; exact em_k_lmul C hd h kk
    | lcmp => have hq : len = 1 := Nat.eq_of_beq_eq_true hlok; subst hq; exact em_k_lcmp C hd h kk
    | ineg => have hq : len = 1 := Nat.eq_of_beq_eq_true hlok; subst hq; exact em_k_ineg C hd h kk
    | i2l => have hq : len = 1 := Nat.eq_of_beq_eq_true hlok; subst hq; exact em_k_i2l C hd h kk
    | i2b => have hq : len = 1 := Nat.eq_of_beq_eq_true hlok; subst hq; exact em_k_i2b C hd h kk
    | i2c => have hq : len = 1 := Nat.eq_of_beq_eq_true hlok; subst hq; exact em_k_i2c C hd h kk
    | l2i => have hq : len = 1 := Nat.eq_of_beq_eq_true hlok; subst hq; exact em_k_l2i C hd h kk
    | idiv => have hq : len = 1 := Nat.eq_of_beq_eq_true hlok; subst hq; exact em_k_idiv C hd h kk
    | irem => have hq : len = 1 := Nat.eq_of_beq_eq_true hlok; subst hq; exact em_k_irem C hd h kk
    | pop => have hq : len = 1 := Nat.eq_of_beq_eq_true hlok; subst hq; exact em_k_pop C hd h kk
    | dup => have hq : len = 1 := Nat.eq_of_beq_eq_true hlok; subst hq; exact em_k_dup C hd h kk
    | dup2 => have hq : len = 1 := Nat.eq_of_beq_eq_true hlok; subst hq; exact em_k_dup2 C hd h kk
    | iaload => have hq : len = 1 := Nat.eq_of_beq_eq_true hlok; subst hq; exact em_k_iaload C hd h kk
    | baload => have hq : len = 1 := Nat.eq_of_beq_eq_true hlok; subst hq; exact em_k_baload C hd h kk
    | laload => have hq : len = 1 := Nat.eq_of_beq_eq_true hlok; subst hq; exact em_k_laload C hd h kk
    | aaload => have hq : len = 1 := Nat.eq_of_beq_eq_true hlok; subst hq; exact em_k_aaload C hd h kk
    | iastore => have hq : len = 1 := Nat.eq_of_beq_eq_true hlok; subst hq; exact em_k_iastore C hd h kk
    | bastore => have hq : len = 1 := Nat.eq_of_beq_eq_true hlok; subst hq; exact em_k_bastore C hd h kk
    | lastore => have hq : len = 1 := Nat.eq_of_beq_eq_true hlok; subst hq; exact em_k_lastore C hd h kk
    | aastore => have hq : len = 1 := Nat.eq_of_beq_eq_true hlok; subst hq; exact em_k_aastore C hd h kk
    | arraylength => have hq : len = 1 := Nat.eq_of_beq_eq_true hlok; subst hq; exact em_k_arraylength C hd h kk
    | iconst n => have hq : len = 1 := Nat.eq_of_beq_eq_true hlok; subst hq; exact em_k_iconst C hd h kk
    | lconst n => have hq : len = 1 := Nat.eq_of_beq_eq_true hlok; subst hq; exact em_k_lconst C hd h kk
    | iload_n k => have hq : len = 1 := Nat.eq_of_beq_eq_true hlok; subst hq; exact em_k_iload_n C hd h kk
    | iload k => have hq : len = 2 := Nat.eq_of_beq_eq_true hlok; subst hq; exact em_k_iload C hd h kk
    | istore_n k => have hq : len = 1 := Nat.eq_of_beq_eq_true hlok; subst hq; exact em_k_istore_n C hd h kk
    | istore k => have hq : len = 2 := Nat.eq_of_beq_eq_true hlok; subst hq; exact em_k_istore C hd h kk
    | aload_n k => have hq : len = 1 := Nat.eq_of_beq_eq_true hlok; subst hq; exact em_k_aload_n C hd h kk
    | aload k => have hq : len = 2 := Nat.eq_of_beq_eq_true hlok; subst hq; exact em_k_aload C hd h kk
    | astore_n k => have hq : len = 1 := Nat.eq_of_beq_eq_true hlok; subst hq; exact em_k_astore_n C hd h kk
    | astore k => have hq : len = 2 := Nat.eq_of_beq_eq_true hlok; subst hq; exact em_k_astore C hd h kk
    | lload_n k => have hq : len = 1 := Nat.eq_of_beq_eq_true hlok; subst hq; exact em_k_lload_n C hd h kk
    | lload k => have hq : len = 2 := Nat.eq_of_beq_eq_true hlok; subst hq; exact em_k_lload C hd h kk
    | lstore_n k => have hq : len = 1 := Nat.eq_of_beq_eq_true hlok; subst hq; exact em_k_lstore_n C hd h kk
    | lstore k => have hq : len = 2 := Nat.eq_of_beq_eq_true hlok; subst hq; exact em_k_lstore C hd h kk
    | bipush n => 
      have hq2 : Nat.beq len 2 = true ∧ _ := Bool.and_eq_true_iff.mp hlok
      obtain ⟨hq, hx⟩ := hq2
      have hq : len = 2 := Nat.eq_of_beq_eq_true hq
      subst hq
      have hx := of_decide_eq_true hx
      exact em_k_bipush C hd hx h kk
    | sipush n => 
      have hq2 : Nat.beq len 3 = true ∧ _ := Bool.and_eq_true_iff.mp hlok
      obtain ⟨hq, hx⟩ := hq2
      have hq : len = 3 := Nat.eq_of_beq_eq_true hq
      subst hq
      have hx := of_decide_eq_true hx
      exact em_k_sipush C hd hx h kk
    | goto t => 
      have hq2 : Nat.beq len 3 = true ∧ _ := Bool.and_eq_true_iff.mp hlok
      obtain ⟨hq, hx⟩ := hq2
      have hq : len = 3 := Nat.eq_of_beq_eq_true hq
      subst hq
      have hx := of_decide_eq_true hx
      exact em_k_goto C hd hx h kk
    | ifCond cd t => 
      have hq2 : Nat.beq len 3 = true ∧ _ := Bool.and_eq_true_iff.mp hlok
      obtain ⟨hq, hx⟩ := hq2
      have hq : len = 3 := Nat.eq_of_beq_eq_true hq
      subst hq
      have hx := of_decide_eq_true hx
      cases cd with
      | eq => exact em_k_if_eq C hd hx h kk
      | ne => exact em_k_if_ne C hd hx h kk
      | lt => exact em_k_if_lt C hd hx h kk
      | ge => exact em_k_if_ge C hd hx h kk
      | gt => exact em_k_if_gt C hd hx h kk
      | le => exact em_k_if_le C hd hx h kk
    | if_icmp cd t => 
      have hq2 : Nat.beq len 3 = true ∧ _ := Bool.and_eq_true_iff.mp hlok
      obtain ⟨hq, hx⟩ := hq2
      have hq : len = 3 := Nat.eq_of_beq_eq_true hq
      subst hq
      have hx := of_decide_eq_true hx
      cases cd with
      | eq => exact em_k_icmp_eq C hd hx h kk
      | ne => exact em_k_icmp_ne C hd hx h kk
      | lt => exact em_k_icmp_lt C hd hx h kk
      | ge => exact em_k_icmp_ge C hd hx h kk
      | gt => exact em_k_icmp_gt C hd hx h kk
      | le => exact em_k_icmp_le C hd hx h kk
    | ldc k => 
      have hq : len = 2 := Nat.eq_of_beq_eq_true hlok
      subst hq
      cases hcs : em_cst (em_own ix) k with
      | none =>
        have e1 : em_nrm (em_own ix) pc (.ldc k) = .ldc k := by unfold em_nrm; dsimp only; rw [hcs]
        rw [e1] at h
        exact em_k_ldcS C hd h kk
      | some q =>
        obtain ⟨v, w⟩ := q
        have e1 : em_nrm (em_own ix) pc (.ldc k) = .iconst v := by unfold em_nrm; dsimp only; rw [hcs]
        rw [e1] at h
        exact em_k_ldc C hd hcs h kk
    | ldc_w k => 
      have hq : len = 3 := Nat.eq_of_beq_eq_true hlok
      subst hq
      cases hcs : em_cst (em_own ix) k with
      | none =>
        have e1 : em_nrm (em_own ix) pc (.ldc_w k) = .ldc_w k := by unfold em_nrm; dsimp only; rw [hcs]
        rw [e1] at h
        have h : (none : Option em_C) = some _ := h
        cases h
      | some q =>
        obtain ⟨v, w⟩ := q
        have e1 : em_nrm (em_own ix) pc (.ldc_w k) = .iconst v := by unfold em_nrm; dsimp only; rw [hcs]
        rw [e1] at h
        exact em_k_ldc_w C hd hcs h kk
    | getstatic k => have hq : len = 3 := Nat.eq_of_beq_eq_true hlok; subst hq; exact em_k_getstatic C hd h kk
    | ldc2_w k => have hq : len = 3 := Nat.eq_of_beq_eq_true hlok; subst hq; exact em_k_ldc2_w C hd h kk
    | iinc k n => have hq : len = 3 := Nat.eq_of_beq_eq_true hlok; subst hq; exact em_k_iinc C hd h kk
    | getfield k => have hq : len = 3 := Nat.eq_of_beq_eq_true hlok; subst hq; exact em_k_getfield C hd h kk
    | putfield k => have hq : len = 3 := Nat.eq_of_beq_eq_true hlok; subst hq; exact em_k_putfield C hd h kk
    | newarray t => have hq : len = 2 := Nat.eq_of_beq_eq_true hlok; subst hq; exact em_k_newarray C hc hs hRc hRs hd h kk
    | anewarray k => have hq : len = 3 := Nat.eq_of_beq_eq_true hlok; subst hq; exact em_k_anewarray C hc hs hRc hRs hd h kk
    | new k => have hq : len = 3 := Nat.eq_of_beq_eq_true hlok; subst hq; exact em_k_new C hc hs hRc hRs hd h kk
    | invokestatic k => have hq : len = 3 := Nat.eq_of_beq_eq_true hlok; subst hq; exact em_k_static C hf hl hRc hRs hd h kk
    | invokespecial k => have hq : len = 3 := Nat.eq_of_beq_eq_true hlok; subst hq; exact em_k_special C hf hl hd h kk
    | invokevirtual k =>
      exfalso
      have h : em_do (L, xs) ix (.invokevirtual k) (pc + len) lc st M = some _ := h
      unfold em_do at h
      dsimp only at h
      split at h
      · split at h
        · unfold em_inv at h
          split at h <;> cases h
        · cases h
      · cases h
    | tableswitch d lo hi offs =>
      have hq2 := Bool.and_eq_true_iff.mp hlok
      exact em_k_table C hd (of_decide_eq_true hq2.1) (fun q hq => of_decide_eq_true (List.all_eq_true.mp hq2.2 q hq)) h kk
    | lookupswitch d ps =>
      have hq2 := Bool.and_eq_true_iff.mp hlok
      have hq3 := Bool.and_eq_true_iff.mp hq2.1
      exact em_k_lookup C hd hq3.1 (of_decide_eq_true hq3.2) (fun q hq => of_decide_eq_true (List.all_eq_true.mp hq2.2 q hq)) h kk
    | ireturn =>
      exfalso
      have h : em_do (L, xs) ix .ireturn (pc + len) lc st M = some _ := h
      unfold em_do at h
      dsimp only at h
      split at h
      · split at h <;> cases h
      · cases h
    | lreturn =>
      exfalso
      have h : em_do (L, xs) ix .lreturn (pc + len) lc st M = some _ := h
      unfold em_do at h
      dsimp only at h
      split at h
      · split at h <;> cases h
      · cases h
    | areturn =>
      exfalso
      have h : em_do (L, xs) ix .areturn (pc + len) lc st M = some _ := h
      unfold em_do at h
      dsimp only at h
      split at h
      · split at h <;> cases h
      · cases h
    | return_ =>
      exfalso
      have h : em_do (L, xs) ix .return_ (pc + len) lc st M = some _ := h
      unfold em_do at h
      dsimp only at h
      split at h
      · split at h <;> cases h
      · cases h
    | _ =>
      have h : (none : Option em_C) = some _ := h
      cases h
theorem em_do_ext {i : Instr} {nx : Nat} (h : em_do (L, xs) ix i nx lc st M = some (.inl (pc', lc', st', M'))) : ∃ x, M'.1 = M.1 ++ x := by
  have one : ∀ a, em_one M M' a → ∃ x, M'.1 = M.1 ++ x := fun a ho => ⟨[], by rw [ho.1, List.append_nil]⟩
  have same : M' = M → ∃ x, M'.1 = M.1 ++ x := fun hm => ⟨[], by rw [hm, List.append_nil]⟩
  cases i with
  | putfield k =>
    unfold em_do at h
    dsimp only at h
    split at h
    · split at h
      · split at h
        · split at h
          · rename_i hp
            cases h
            exact one _ (em_put_one hp)
          · cases h
        · cases h
      · cases h
    · cases h
  | _ =>
    simp only [em_do, em_b2, em_b1, em_l2, em_inv, em_acp, em_mm] at h
    repeat' split at h
    all_goals first | (cases h; done) | (cases h; exact same rfl) | (cases h; exact one _ (em_one_I ..)) | (cases h; exact one _ (em_one_J ..)) | (cases h; exact one _ (em_one_R ..)) | (cases h; exact one _ (em_one_C ..)) | (cases h; exact ⟨[_], rfl⟩)
theorem em_ext_le (h : ∃ x, M'.1 = M.1 ++ x) : M.1.length ≤ M'.1.length ∧ em_sl M ≤ em_sl M' := by
  obtain ⟨x, hx⟩ := h
  unfold em_sl
  rw [hx]
  simp
theorem em_stp_ext (h : em_stp (L, xs) ix pc lc st M = some (.inl (pc', lc', st', M'))) : M.1.length ≤ M'.1.length ∧ em_sl M ≤ em_sl M' := by
  unfold em_stp at h
  split at h
  · cases h
  · exact em_ext_le (em_do_ext h)
theorem em_run_ext : ∀ (n : Nat) (sc : Nat × (Nat → Int32)) (d ix pc : Nat) (lc : em_L) (st : List Value) (M : em_M) (r : Option Value) (M' : em_M), em_run sc n d ix pc lc st M = some (r, M') → M.1.length ≤ M'.1.length ∧ em_sl M ≤ em_sl M' := by
  intro n
  induction n with
  | zero => intro sc d ix pc lc st M r M' h; cases h
  | succ n ih =>
    intro sc d ix pc lc st M r M' h
    rw [em_run] at h
    split at h
    · cases h
    · rename_i hs
      have h1 := em_stp_ext (L := sc.1) (xs := sc.2) hs
      have h2 := ih _ _ _ _ _ _ _ _ _ h
      exact ⟨Nat.le_trans h1.1 h2.1, Nat.le_trans h1.2 h2.2⟩
    · split at h
      · cases h
      · split at h
        · cases h
        · rename_i hr
          have h1 := ih _ _ _ _ _ _ _ _ _ hr
          have h2 := ih _ _ _ _ _ _ _ _ _ h
          exact ⟨Nat.le_trans h1.1 h2.1, Nat.le_trans h1.2 h2.2⟩
    · cases h
      exact ⟨Nat.le_refl _, Nat.le_refl _⟩
/-- how large the heap is -/
theorem em_hsz {g : JFrame} {locs : List Loc} {slots : Nat} (C : em_Cx D dA ad base L xs c0 p s m meth c ix) (hc : c0 ≤ M.1.length) (hW : em_Wd D dA ad base M H) (hS : va_S (fun q => base ≤ q) s.heap H locs) (k : H.size + 1 = base + M.1.length → W p l e R s m args below meth c H locs (M.1.length - c0) slots Q g) : W p l e R s m args below meth c H locs (M.1.length - c0) slots Q g := by
  intro T hT X
  have h1 := X.heapSize
  rw [hT] at h1
  have hz := C.hsz
  have h2 : base + M.1.length ≤ H.size + 1 := by
    rcases Nat.lt_or_ge c0 M.1.length with h | h
    · have h2 : M.1[M.1.length - 2 + 1]? = some (M.1[M.1.length - 2 + 1]'(by omega)) := List.getElem?_eq_getElem _
      have h3 := (hW.1 _ _ (em_ws_at (ad := ad) (dA := dA) (base := base) h2)).lt
      dsimp only at h3
      omega
    · have := hS.1
      omega
  exact k (by omega) T hT X
theorem em_goon {rest : List Value} {rv : Option Value} {P : Heap → Prop} {mc ms cells slots : Nat} {locs : List Loc} {ls : Array Slot} {st0 : List Value} (hr : va_Run p l e R s m args below meth c H locs cells slots mc ms (F0 m pc ls st0) rest (fun st oc t => oc = .returned rv ∧ P t.heap ∧ va_F (fun q => base ≤ q) st t) (fun q => base ≤ q)) (hS : va_S (fun q => base ≤ q) s.heap H locs)
    (kk : ∀ (H1 : Heap) (locs1 : List Loc), P H1 → va_S (fun q => base ≤ q) s.heap H1 locs1 → W p l e R s m args below meth c H1 locs1 (cells + mc) (slots + ms) Q (F0 m (pc + 3) ls (rv.toList ++ rest))) : W p l e R s m args below meth c H locs cells slots Q (F0 m pc ls st0) := by
  intro T hT X
  obtain ⟨v, st₀, t, T', Ls, h0, X', hL, e1, e2, ⟨hv, hp, hz, hk⟩, stp⟩ := hr T hT X
  cases hv
  rw [h0] at hz hk
  obtain ⟨t2, a1, b1⟩ := kk T'.heap (locs ++ Ls) (by rw [e1]; exact hp)
    ⟨Nat.le_trans hS.1 (by rw [e1]; exact hz), fun q h1 h2 => by rw [e1, hk q (Nat.lt_of_lt_of_le h1 hS.1) h2]; exact hS.2.1 q h1 h2, fun q hq => by
      rcases List.mem_append.mp hq with h | h
      · exact hS.2.2 q h
      · exact hL q h⟩ T' rfl X'
  exact ⟨t2, stp t2 a1, b1⟩
end EMR
theorem em_yfacts {y : Nat} (h : y < em_n) (hl : y ≠ em_law) : (∀ w ∈ Cond.code (em_nm y) (em_cd y) (em_mx y) (em_rt y) :: em_yws y, w ∈ lw_tbl ∧ em_okw w = true) ∧ (em_nm y).cls = em_rn (em_own y) ∧ ((em_nm y).cls ≠ "java/lang/invoke/MethodHandle" ∧ (em_nm y).cls ≠ "java/lang/invoke/VarHandle" ∧ (parseMethodDescriptor (em_nm y).desc).map (fun d => d.parameters.length) = some (em_na y)) ∧ Jvm.plainName (em_nm y).cls = true ∧ em_mx y ≤ 20 ∧ (em_yk y = 2 → (em_nm y).name = "<init>" ∧ em_rt y = none) ∧ (em_isi y = true → (em_nm y).name = "<init>") := by
  have h1 := em_yall h
  unfold em_yok at h1
  rw [Bool.or_eq_true] at h1
  rcases h1 with h1 | h1
  · exact absurd (Nat.eq_of_beq_eq_true h1) hl
  · simp only [Bool.and_eq_true, decide_eq_true_eq] at h1
    obtain ⟨⟨⟨⟨⟨⟨⟨⟨⟨a1, a2⟩, a3⟩, a4⟩, a5⟩, a6⟩, a7⟩, a8⟩, a9⟩, a10⟩ := h1
    refine ⟨fun w hw => (List.mem_cons.mp hw).elim (fun q => by rw [q]; exact ⟨em_cw h hl, rfl⟩) (em_wds_in a1 w), a2, ⟨a3, a4, a5⟩, a6, Nat.le_of_ble_eq_true a7, fun q => ?_, fun q => ?_⟩
    · rw [q] at a9
      have a9 : (decide ((em_nm y).name = "<init>") && decide (em_rt y = none)) = true := a9
      rw [Bool.and_eq_true, decide_eq_true_eq, decide_eq_true_eq] at a9
      exact a9
    · rw [q] at a10
      exact of_decide_eq_true a10
theorem em_yws_ini {y : Nat} : Cond.initialized (em_nm y).cls ∈ em_yws y := by
  unfold em_yws
  split <;> exact List.mem_cons_self

