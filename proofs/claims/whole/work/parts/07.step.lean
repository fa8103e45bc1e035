/-! each instruction of the pure machine is one of the machine -/
def em_K (p : Program) (l : Launch) (e : Env) (R : Room) (s : State) (m : MethodId) (args : Array Value) (below : List Frame) (meth : Method) (c : Code) (Q : State → Prop) (D : va_G) (dA : Nat → ClassId) (ad : em_A) (base L : Nat) (xs : Nat → Int32) (c0 s0 : Nat) (M : em_M) (pc : Nat) (lc : em_L) (st : List Value) : Prop :=
  ∀ (ls : Array Slot) (H : Heap) (locs : List Loc), em_Lr ad ls lc → em_Wd D dA ad base M H → va_S (fun q => base ≤ q) s.heap H locs → W p l e R s m args below meth c H locs (M.1.length - c0) (em_sl M - s0) Q (F0 m pc ls (st.map (em_cv ad)))
section EMK
variable {p : Program} {l : Launch} {e : Env} {R : Room} {s : State} {m : MethodId} {args : Array Value} {below : List Frame} {meth : Method} {c : Code} {Q : State → Prop}
variable {D : va_G} {dA : Nat → ClassId} {ad : em_A} {base L : Nat} {xs : Nat → Int32} {c0 s0 ix pc : Nat} {lc lc' : em_L} {st st' : List Value} {M M' : em_M} {pc' : Nat}
theorem em_k_iadd (C : em_Cx D dA ad base L xs c0 p s m meth c ix) (hd : decode (em_cd ix) pc = .ok (.iadd, 1)) (h : em_do (L, xs) ix (.iadd) (pc + 1) lc st M = some (.inl (pc', lc', st', M'))) (kk : em_K p l e R s m args below meth c Q D dA ad base L xs c0 s0 M' pc' lc' st') : em_K p l e R s m args below meth c Q D dA ad base L xs c0 s0 M pc lc st := by
  intro ls H locs hL hW hS
  have h : em_b2 (pc + 1) lc st M (fun x y => x + y) = some (.inl (pc', lc', st', M')) := h
  unfold em_b2 at h
  split at h
  · cases h
    exact lv_iadd C.1 C.2.1 hd (kk ls H locs hL hW hS)
  · cases h
theorem em_k_isub (C : em_Cx D dA ad base L xs c0 p s m meth c ix) (hd : decode (em_cd ix) pc = .ok (.isub, 1)) (h : em_do (L, xs) ix (.isub) (pc + 1) lc st M = some (.inl (pc', lc', st', M'))) (kk : em_K p l e R s m args below meth c Q D dA ad base L xs c0 s0 M' pc' lc' st') : em_K p l e R s m args below meth c Q D dA ad base L xs c0 s0 M pc lc st := by
  intro ls H locs hL hW hS
  have h : em_b2 (pc + 1) lc st M (fun x y => x - y) = some (.inl (pc', lc', st', M')) := h
  unfold em_b2 at h
  split at h
  · cases h
    exact lv_isub C.1 C.2.1 hd (kk ls H locs hL hW hS)
  · cases h
theorem em_k_imul (C : em_Cx D dA ad base L xs c0 p s m meth c ix) (hd : decode (em_cd ix) pc = .ok (.imul, 1)) (h : em_do (L, xs) ix (.imul) (pc + 1) lc st M = some (.inl (pc', lc', st', M'))) (kk : em_K p l e R s m args below meth c Q D dA ad base L xs c0 s0 M' pc' lc' st') : em_K p l e R s m args below meth c Q D dA ad base L xs c0 s0 M pc lc st := by
  intro ls H locs hL hW hS
  have h : em_b2 (pc + 1) lc st M (fun x y => x * y) = some (.inl (pc', lc', st', M')) := h
  unfold em_b2 at h
  split at h
  · cases h
    exact lv_imul C.1 C.2.1 hd (kk ls H locs hL hW hS)
  · cases h
theorem em_k_iand (C : em_Cx D dA ad base L xs c0 p s m meth c ix) (hd : decode (em_cd ix) pc = .ok (.iand, 1)) (h : em_do (L, xs) ix (.iand) (pc + 1) lc st M = some (.inl (pc', lc', st', M'))) (kk : em_K p l e R s m args below meth c Q D dA ad base L xs c0 s0 M' pc' lc' st') : em_K p l e R s m args below meth c Q D dA ad base L xs c0 s0 M pc lc st := by
  intro ls H locs hL hW hS
  have h : em_b2 (pc + 1) lc st M (fun x y => x &&& y) = some (.inl (pc', lc', st', M')) := h
  unfold em_b2 at h
  split at h
  · cases h
    exact lv_iand C.1 C.2.1 hd (kk ls H locs hL hW hS)
  · cases h
theorem em_k_ior (C : em_Cx D dA ad base L xs c0 p s m meth c ix) (hd : decode (em_cd ix) pc = .ok (.ior, 1)) (h : em_do (L, xs) ix (.ior) (pc + 1) lc st M = some (.inl (pc', lc', st', M'))) (kk : em_K p l e R s m args below meth c Q D dA ad base L xs c0 s0 M' pc' lc' st') : em_K p l e R s m args below meth c Q D dA ad base L xs c0 s0 M pc lc st := by
  intro ls H locs hL hW hS
  have h : em_b2 (pc + 1) lc st M (fun x y => x ||| y) = some (.inl (pc', lc', st', M')) := h
  unfold em_b2 at h
  split at h
  · cases h
    exact lv_ior C.1 C.2.1 hd (kk ls H locs hL hW hS)
  · cases h
theorem em_k_ixor (C : em_Cx D dA ad base L xs c0 p s m meth c ix) (hd : decode (em_cd ix) pc = .ok (.ixor, 1)) (h : em_do (L, xs) ix (.ixor) (pc + 1) lc st M = some (.inl (pc', lc', st', M'))) (kk : em_K p l e R s m args below meth c Q D dA ad base L xs c0 s0 M' pc' lc' st') : em_K p l e R s m args below meth c Q D dA ad base L xs c0 s0 M pc lc st := by
  intro ls H locs hL hW hS
  have h : em_b2 (pc + 1) lc st M (fun x y => x ^^^ y) = some (.inl (pc', lc', st', M')) := h
  unfold em_b2 at h
  split at h
  · cases h
    exact lv_ixor C.1 C.2.1 hd (kk ls H locs hL hW hS)
  · cases h
theorem em_k_ishl (C : em_Cx D dA ad base L xs c0 p s m meth c ix) (hd : decode (em_cd ix) pc = .ok (.ishl, 1)) (h : em_do (L, xs) ix (.ishl) (pc + 1) lc st M = some (.inl (pc', lc', st', M'))) (kk : em_K p l e R s m args below meth c Q D dA ad base L xs c0 s0 M' pc' lc' st') : em_K p l e R s m args below meth c Q D dA ad base L xs c0 s0 M pc lc st := by
  intro ls H locs hL hW hS
  have h : em_b2 (pc + 1) lc st M (fun x y => x <<< (y &&& 31)) = some (.inl (pc', lc', st', M')) := h
  unfold em_b2 at h
  split at h
  · cases h
    exact lv_ishl C.1 C.2.1 hd (kk ls H locs hL hW hS)
  · cases h
theorem em_k_ishr (C : em_Cx D dA ad base L xs c0 p s m meth c ix) (hd : decode (em_cd ix) pc = .ok (.ishr, 1)) (h : em_do (L, xs) ix (.ishr) (pc + 1) lc st M = some (.inl (pc', lc', st', M'))) (kk : em_K p l e R s m args below meth c Q D dA ad base L xs c0 s0 M' pc' lc' st') : em_K p l e R s m args below meth c Q D dA ad base L xs c0 s0 M pc lc st := by
  intro ls H locs hL hW hS
  have h : em_b2 (pc + 1) lc st M (fun x y => x >>> (y &&& 31)) = some (.inl (pc', lc', st', M')) := h
  unfold em_b2 at h
  split at h
  · cases h
    exact lv_ishr C.1 C.2.1 hd (kk ls H locs hL hW hS)
  · cases h
theorem em_k_iushr (C : em_Cx D dA ad base L xs c0 p s m meth c ix) (hd : decode (em_cd ix) pc = .ok (.iushr, 1)) (h : em_do (L, xs) ix (.iushr) (pc + 1) lc st M = some (.inl (pc', lc', st', M'))) (kk : em_K p l e R s m args below meth c Q D dA ad base L xs c0 s0 M' pc' lc' st') : em_K p l e R s m args below meth c Q D dA ad base L xs c0 s0 M pc lc st := by
  intro ls H locs hL hW hS
  have h : em_b2 (pc + 1) lc st M (fun x y => (x.toUInt32 >>> (y.toUInt32 &&& Int32.toUInt32 31)).toInt32) = some (.inl (pc', lc', st', M')) := h
  unfold em_b2 at h
  split at h
  · cases h
    exact lv_iushr C.1 C.2.1 hd rfl (kk ls H locs hL hW hS)
  · cases h
theorem em_k_ladd (C : em_Cx D dA ad base L xs c0 p s m meth c ix) (hd : decode (em_cd ix) pc = .ok (.ladd, 1)) (h : em_do (L, xs) ix (.ladd) (pc + 1) lc st M = some (.inl (pc', lc', st', M'))) (kk : em_K p l e R s m args below meth c Q D dA ad base L xs c0 s0 M' pc' lc' st') : em_K p l e R s m args below meth c Q D dA ad base L xs c0 s0 M pc lc st := by
  intro ls H locs hL hW hS
  have h : em_l2 (pc + 1) lc st M (fun x y => .long (x + y)) = some (.inl (pc', lc', st', M')) := h
  unfold em_l2 at h
  split at h
  · cases h
    exact lv_ladd C.1 C.2.1 hd (kk ls H locs hL hW hS)
  · cases h
theorem em_k_lsub (C : em_Cx D dA ad base L xs c0 p s m meth c ix) (hd : decode (em_cd ix) pc = .ok (.lsub, 1)) (h : em_do (L, xs) ix (.lsub) (pc + 1) lc st M = some (.inl (pc', lc', st', M'))) (kk : em_K p l e R s m args below meth c Q D dA ad base L xs c0 s0 M' pc' lc' st') : em_K p l e R s m args below meth c Q D dA ad base L xs c0 s0 M pc lc st := by
  intro ls H locs hL hW hS
  have h : em_l2 (pc + 1) lc st M (fun x y => .long (x - y)) = some (.inl (pc', lc', st', M')) := h
  unfold em_l2 at h
  split at h
  · cases h
    exact lv_lsub C.1 C.2.1 hd (kk ls H locs hL hW hS)
  · cases h
theorem em_k_lmul (C : em_Cx D dA ad base L xs c0 p s m meth c ix) (hd : decode (em_cd ix) pc = .ok (.lmul, 1)) (h : em_do (L, xs) ix (.lmul) (pc + 1) lc st M = some (.inl (pc', lc', st', M'))) (kk : em_K p l e R s m args below meth c Q D dA ad base L xs c0 s0 M' pc' lc' st') : em_K p l e R s m args below meth c Q D dA ad base L xs c0 s0 M pc lc st := by
  intro ls H locs hL hW hS
  have h : em_l2 (pc + 1) lc st M (fun x y => .long (x * y)) = some (.inl (pc', lc', st', M')) := h
  unfold em_l2 at h
  split at h
  · cases h
    exact lv_lmul C.1 C.2.1 hd (kk ls H locs hL hW hS)
  · cases h
theorem em_k_lcmp (C : em_Cx D dA ad base L xs c0 p s m meth c ix) (hd : decode (em_cd ix) pc = .ok (.lcmp, 1)) (h : em_do (L, xs) ix (.lcmp) (pc + 1) lc st M = some (.inl (pc', lc', st', M'))) (kk : em_K p l e R s m args below meth c Q D dA ad base L xs c0 s0 M' pc' lc' st') : em_K p l e R s m args below meth c Q D dA ad base L xs c0 s0 M pc lc st := by
  intro ls H locs hL hW hS
  have h : em_l2 (pc + 1) lc st M (fun x y => .int (lg_cmp x y)) = some (.inl (pc', lc', st', M')) := h
  unfold em_l2 at h
  split at h
  · cases h
    exact W.lcmp C.1 C.2.1 hd (kk ls H locs hL hW hS)
  · cases h
theorem em_k_ineg (C : em_Cx D dA ad base L xs c0 p s m meth c ix) (hd : decode (em_cd ix) pc = .ok (.ineg, 1)) (h : em_do (L, xs) ix (.ineg) (pc + 1) lc st M = some (.inl (pc', lc', st', M'))) (kk : em_K p l e R s m args below meth c Q D dA ad base L xs c0 s0 M' pc' lc' st') : em_K p l e R s m args below meth c Q D dA ad base L xs c0 s0 M pc lc st := by
  intro ls H locs hL hW hS
  have h : em_b1 (pc + 1) lc st M (fun x => .int (-x)) = some (.inl (pc', lc', st', M')) := h
  unfold em_b1 at h
  split at h
  · cases h
    exact lv_ineg C.1 C.2.1 hd (kk ls H locs hL hW hS)
  · cases h
theorem em_k_i2l (C : em_Cx D dA ad base L xs c0 p s m meth c ix) (hd : decode (em_cd ix) pc = .ok (.i2l, 1)) (h : em_do (L, xs) ix (.i2l) (pc + 1) lc st M = some (.inl (pc', lc', st', M'))) (kk : em_K p l e R s m args below meth c Q D dA ad base L xs c0 s0 M' pc' lc' st') : em_K p l e R s m args below meth c Q D dA ad base L xs c0 s0 M pc lc st := by
  intro ls H locs hL hW hS
  have h : em_b1 (pc + 1) lc st M (fun x => .long x.toInt64) = some (.inl (pc', lc', st', M')) := h
  unfold em_b1 at h
  split at h
  · cases h
    exact lv_i2l C.1 C.2.1 hd rfl (kk ls H locs hL hW hS)
  · cases h
theorem em_k_i2b (C : em_Cx D dA ad base L xs c0 p s m meth c ix) (hd : decode (em_cd ix) pc = .ok (.i2b, 1)) (h : em_do (L, xs) ix (.i2b) (pc + 1) lc st M = some (.inl (pc', lc', st', M'))) (kk : em_K p l e R s m args below meth c Q D dA ad base L xs c0 s0 M' pc' lc' st') : em_K p l e R s m args below meth c Q D dA ad base L xs c0 s0 M pc lc st := by
  intro ls H locs hL hW hS
  have h : em_b1 (pc + 1) lc st M (fun x => .int x.toInt8.toInt32) = some (.inl (pc', lc', st', M')) := h
  unfold em_b1 at h
  split at h
  · cases h
    exact lv_i2b C.1 C.2.1 hd rfl (kk ls H locs hL hW hS)
  · cases h
theorem em_k_i2c (C : em_Cx D dA ad base L xs c0 p s m meth c ix) (hd : decode (em_cd ix) pc = .ok (.i2c, 1)) (h : em_do (L, xs) ix (.i2c) (pc + 1) lc st M = some (.inl (pc', lc', st', M'))) (kk : em_K p l e R s m args below meth c Q D dA ad base L xs c0 s0 M' pc' lc' st') : em_K p l e R s m args below meth c Q D dA ad base L xs c0 s0 M pc lc st := by
  intro ls H locs hL hW hS
  have h : em_b1 (pc + 1) lc st M (fun x => .int (x.toUInt32 % 65536).toInt32) = some (.inl (pc', lc', st', M')) := h
  unfold em_b1 at h
  split at h
  · cases h
    exact lv_i2c C.1 C.2.1 hd rfl (kk ls H locs hL hW hS)
  · cases h
theorem em_k_l2i (C : em_Cx D dA ad base L xs c0 p s m meth c ix) (hd : decode (em_cd ix) pc = .ok (.l2i, 1)) (h : em_do (L, xs) ix (.l2i) (pc + 1) lc st M = some (.inl (pc', lc', st', M'))) (kk : em_K p l e R s m args below meth c Q D dA ad base L xs c0 s0 M' pc' lc' st') : em_K p l e R s m args below meth c Q D dA ad base L xs c0 s0 M pc lc st := by
  intro ls H locs hL hW hS
  unfold em_do at h
  dsimp only at h
  split at h
  · cases h
    exact lv_l2i C.1 C.2.1 hd rfl (kk ls H locs hL hW hS)
  · cases h
theorem em_k_idiv (C : em_Cx D dA ad base L xs c0 p s m meth c ix) (hd : decode (em_cd ix) pc = .ok (.idiv, 1)) (h : em_do (L, xs) ix (.idiv) (pc + 1) lc st M = some (.inl (pc', lc', st', M'))) (kk : em_K p l e R s m args below meth c Q D dA ad base L xs c0 s0 M' pc' lc' st') : em_K p l e R s m args below meth c Q D dA ad base L xs c0 s0 M pc lc st := by
  intro ls H locs hL hW hS
  unfold em_do at h
  dsimp only at h
  split at h
  · split at h
    · cases h
    · rename_i hy
      cases h
      exact lv_idiv C.1 C.2.1 hd hy (kk ls H locs hL hW hS)
  · cases h
theorem em_k_irem (C : em_Cx D dA ad base L xs c0 p s m meth c ix) (hd : decode (em_cd ix) pc = .ok (.irem, 1)) (h : em_do (L, xs) ix (.irem) (pc + 1) lc st M = some (.inl (pc', lc', st', M'))) (kk : em_K p l e R s m args below meth c Q D dA ad base L xs c0 s0 M' pc' lc' st') : em_K p l e R s m args below meth c Q D dA ad base L xs c0 s0 M pc lc st := by
  intro ls H locs hL hW hS
  unfold em_do at h
  dsimp only at h
  split at h
  · split at h
    · cases h
    · rename_i hy
      cases h
      exact lv_irem C.1 C.2.1 hd hy (kk ls H locs hL hW hS)
  · cases h
theorem em_k_iconst {n : Int} (C : em_Cx D dA ad base L xs c0 p s m meth c ix) (hd : decode (em_cd ix) pc = .ok (.iconst n, 1)) (h : em_do (L, xs) ix (.iconst n) (pc + 1) lc st M = some (.inl (pc', lc', st', M'))) (kk : em_K p l e R s m args below meth c Q D dA ad base L xs c0 s0 M' pc' lc' st') : em_K p l e R s m args below meth c Q D dA ad base L xs c0 s0 M pc lc st := by
  intro ls H locs hL hW hS
  cases h
  exact lv_iconst C.1 C.2.1 hd rfl (kk ls H locs hL hW hS)
theorem em_k_bipush {n : Int} (C : em_Cx D dA ad base L xs c0 p s m meth c ix) (hd : decode (em_cd ix) pc = .ok (.bipush n, 2)) (hn : (Int8.ofInt n).toInt32 = Int32.ofInt n) (h : em_do (L, xs) ix (.iconst n) (pc + 2) lc st M = some (.inl (pc', lc', st', M'))) (kk : em_K p l e R s m args below meth c Q D dA ad base L xs c0 s0 M' pc' lc' st') : em_K p l e R s m args below meth c Q D dA ad base L xs c0 s0 M pc lc st := by
  intro ls H locs hL hW hS
  cases h
  exact lv_bipush C.1 C.2.1 hd hn (kk ls H locs hL hW hS)
theorem em_k_sipush {n : Int} (C : em_Cx D dA ad base L xs c0 p s m meth c ix) (hd : decode (em_cd ix) pc = .ok (.sipush n, 3)) (hn : (Int16.ofInt n).toInt32 = Int32.ofInt n) (h : em_do (L, xs) ix (.iconst n) (pc + 3) lc st M = some (.inl (pc', lc', st', M'))) (kk : em_K p l e R s m args below meth c Q D dA ad base L xs c0 s0 M' pc' lc' st') : em_K p l e R s m args below meth c Q D dA ad base L xs c0 s0 M pc lc st := by
  intro ls H locs hL hW hS
  cases h
  exact lv_sipush C.1 C.2.1 hd hn (kk ls H locs hL hW hS)
theorem em_k_ldc {n : Int} {i q : Nat} (C : em_Cx D dA ad base L xs c0 p s m meth c ix) (hd : decode (em_cd ix) pc = .ok (.ldc i, 2)) (hn : em_cst (em_own ix) i = some (n, q)) (h : em_do (L, xs) ix (.iconst n) (pc + 2) lc st M = some (.inl (pc', lc', st', M'))) (kk : em_K p l e R s m args below meth c Q D dA ad base L xs c0 s0 M' pc' lc' st') : em_K p l e R s m args below meth c Q D dA ad base L xs c0 s0 M pc lc st := by
  intro ls H locs hL hW hS
  cases h
  exact lv_ldc C.1 C.2.1 C.2.2.2.1 (C.2.2.2.2.1 _ (em_csw hn).1 (em_csw hn).2 _) hd (kk ls H locs hL hW hS)
theorem em_k_ldc_w {n : Int} {i q : Nat} (C : em_Cx D dA ad base L xs c0 p s m meth c ix) (hd : decode (em_cd ix) pc = .ok (.ldc_w i, 3)) (hn : em_cst (em_own ix) i = some (n, q)) (h : em_do (L, xs) ix (.iconst n) (pc + 3) lc st M = some (.inl (pc', lc', st', M'))) (kk : em_K p l e R s m args below meth c Q D dA ad base L xs c0 s0 M' pc' lc' st') : em_K p l e R s m args below meth c Q D dA ad base L xs c0 s0 M pc lc st := by
  intro ls H locs hL hW hS
  cases h
  exact lv_ldcw C.1 C.2.1 C.2.2.2.1 (C.2.2.2.2.1 _ (em_csw hn).1 (em_csw hn).2 _) hd (kk ls H locs hL hW hS)
theorem em_k_ldc2_w {i : Nat} (C : em_Cx D dA ad base L xs c0 p s m meth c ix) (hd : decode (em_cd ix) pc = .ok (.ldc2_w i, 3)) (h : em_do (L, xs) ix (.ldc2_w i) (pc + 3) lc st M = some (.inl (pc', lc', st', M'))) (kk : em_K p l e R s m args below meth c Q D dA ad base L xs c0 s0 M' pc' lc' st') : em_K p l e R s m args below meth c Q D dA ad base L xs c0 s0 M pc lc st := by
  intro ls H locs hL hW hS
  unfold em_do at h
  dsimp only at h
  split at h
  · rename_i v q hn
    cases h
    exact lv_ldc2 C.1 C.2.1 C.2.2.2.1 (C.2.2.2.2.1 _ (em_clg hn).1 (em_clg hn).2 _) hd (kk ls H locs hL hW hS)
  · cases h
theorem em_k_lconst {n : Fin 2} (C : em_Cx D dA ad base L xs c0 p s m meth c ix) (hd : decode (em_cd ix) pc = .ok (.lconst n, 1)) (h : em_do (L, xs) ix (.lconst n) (pc + 1) lc st M = some (.inl (pc', lc', st', M'))) (kk : em_K p l e R s m args below meth c Q D dA ad base L xs c0 s0 M' pc' lc' st') : em_K p l e R s m args below meth c Q D dA ad base L xs c0 s0 M pc lc st := by
  intro ls H locs hL hW hS
  cases h
  exact lv_lconst C.1 C.2.1 hd rfl (kk ls H locs hL hW hS)
theorem em_k_iload_n {i : Fin 4} (C : em_Cx D dA ad base L xs c0 p s m meth c ix) (hd : decode (em_cd ix) pc = .ok (.iload_n i, 1)) (h : em_do (L, xs) ix (.iload i.val) (pc + 1) lc st M = some (.inl (pc', lc', st', M'))) (kk : em_K p l e R s m args below meth c Q D dA ad base L xs c0 s0 M' pc' lc' st') : em_K p l e R s m args below meth c Q D dA ad base L xs c0 s0 M pc lc st := by
  intro ls H locs hL hW hS
  unfold em_do at h
  dsimp only at h
  split at h
  · rename_i x hx
    cases h
    exact lv_iload_n C.1 C.2.1 hd rfl (hL.2.2 _ _ hx) (kk ls H locs hL hW hS)
  · cases h
theorem em_k_istore_n {i : Fin 4} (C : em_Cx D dA ad base L xs c0 p s m meth c ix) (hd : decode (em_cd ix) pc = .ok (.istore_n i, 1)) (h : em_do (L, xs) ix (.istore i.val) (pc + 1) lc st M = some (.inl (pc', lc', st', M'))) (kk : em_K p l e R s m args below meth c Q D dA ad base L xs c0 s0 M' pc' lc' st') : em_K p l e R s m args below meth c Q D dA ad base L xs c0 s0 M pc lc st := by
  intro ls H locs hL hW hS
  unfold em_do at h
  dsimp only at h
  split at h
  · rename_i x r
    split at h
    · rename_i hlt
      cases h
      exact lv_istore_n C.1 C.2.1 hd rfl hL.has hlt rfl (fun ls' h' => kk ls' H locs (em_Lr.st1 (v := .int x) hlt h') hW hS)
    · cases h
  · cases h
theorem em_k_iload {i : Nat} (C : em_Cx D dA ad base L xs c0 p s m meth c ix) (hd : decode (em_cd ix) pc = .ok (.iload i, 2)) (h : em_do (L, xs) ix (.iload i) (pc + 2) lc st M = some (.inl (pc', lc', st', M'))) (kk : em_K p l e R s m args below meth c Q D dA ad base L xs c0 s0 M' pc' lc' st') : em_K p l e R s m args below meth c Q D dA ad base L xs c0 s0 M pc lc st := by
  intro ls H locs hL hW hS
  unfold em_do at h
  dsimp only at h
  split at h
  · rename_i x hx
    cases h
    exact lv_iload C.1 C.2.1 hd (hL.2.2 _ _ hx) (kk ls H locs hL hW hS)
  · cases h
theorem em_k_istore {i : Nat} (C : em_Cx D dA ad base L xs c0 p s m meth c ix) (hd : decode (em_cd ix) pc = .ok (.istore i, 2)) (h : em_do (L, xs) ix (.istore i) (pc + 2) lc st M = some (.inl (pc', lc', st', M'))) (kk : em_K p l e R s m args below meth c Q D dA ad base L xs c0 s0 M' pc' lc' st') : em_K p l e R s m args below meth c Q D dA ad base L xs c0 s0 M pc lc st := by
  intro ls H locs hL hW hS
  unfold em_do at h
  dsimp only at h
  split at h
  · rename_i x r
    split at h
    · rename_i hlt
      cases h
      exact lv_istore C.1 C.2.1 hd hL.has hlt rfl (fun ls' h' => kk ls' H locs (em_Lr.st1 (v := .int x) hlt h') hW hS)
    · cases h
  · cases h
theorem em_k_aload_n {i : Fin 4} (C : em_Cx D dA ad base L xs c0 p s m meth c ix) (hd : decode (em_cd ix) pc = .ok (.aload_n i, 1)) (h : em_do (L, xs) ix (.aload i.val) (pc + 1) lc st M = some (.inl (pc', lc', st', M'))) (kk : em_K p l e R s m args below meth c Q D dA ad base L xs c0 s0 M' pc' lc' st') : em_K p l e R s m args below meth c Q D dA ad base L xs c0 s0 M pc lc st := by
  intro ls H locs hL hW hS
  unfold em_do at h
  dsimp only at h
  split at h
  · rename_i x hx
    cases h
    exact lv_aload_n C.1 C.2.1 hd rfl (hL.2.2 _ _ hx) (kk ls H locs hL hW hS)
  · rename_i x hx
    cases h
    have g := (kk ls H locs hL hW hS)
    have hx := hL.2.2 _ _ hx
    rw [List.map_cons] at g
    revert hx g
    show W p l e R s m args below meth c H locs _ _ Q (F0 m _ ls (va_rf (ad.2 x) :: _)) → _ = some (Slot.val (va_rf (ad.2 x))) → _
    cases ad.2 x with
    | none => exact fun g hx => lv_aload_nN C.1 C.2.1 hd rfl hx g
    | some q => exact fun g hx => lv_aload_n C.1 C.2.1 hd rfl hx g
  · cases h
theorem em_k_astore_n {i : Fin 4} (C : em_Cx D dA ad base L xs c0 p s m meth c ix) (hd : decode (em_cd ix) pc = .ok (.astore_n i, 1)) (h : em_do (L, xs) ix (.astore i.val) (pc + 1) lc st M = some (.inl (pc', lc', st', M'))) (kk : em_K p l e R s m args below meth c Q D dA ad base L xs c0 s0 M' pc' lc' st') : em_K p l e R s m args below meth c Q D dA ad base L xs c0 s0 M pc lc st := by
  intro ls H locs hL hW hS
  unfold em_do at h
  dsimp only at h
  split at h
  · rename_i x r
    split at h
    · rename_i hlt
      cases h
      exact lv_astore_n C.1 C.2.1 hd rfl hL.has hlt rfl (fun ls' h' => kk ls' H locs (em_Lr.st1 (v := .ref x) hlt h') hW hS)
    · cases h
  · cases h
theorem em_k_aload {i : Nat} (C : em_Cx D dA ad base L xs c0 p s m meth c ix) (hd : decode (em_cd ix) pc = .ok (.aload i, 2)) (h : em_do (L, xs) ix (.aload i) (pc + 2) lc st M = some (.inl (pc', lc', st', M'))) (kk : em_K p l e R s m args below meth c Q D dA ad base L xs c0 s0 M' pc' lc' st') : em_K p l e R s m args below meth c Q D dA ad base L xs c0 s0 M pc lc st := by
  intro ls H locs hL hW hS
  unfold em_do at h
  dsimp only at h
  split at h
  · rename_i x hx
    cases h
    exact lv_aload C.1 C.2.1 hd (hL.2.2 _ _ hx) (kk ls H locs hL hW hS)
  · rename_i x hx
    cases h
    have g := (kk ls H locs hL hW hS)
    have hx := hL.2.2 _ _ hx
    rw [List.map_cons] at g
    revert hx g
    show W p l e R s m args below meth c H locs _ _ Q (F0 m _ ls (va_rf (ad.2 x) :: _)) → _ = some (Slot.val (va_rf (ad.2 x))) → _
    cases ad.2 x with
    | none => exact fun g hx => lv_aloadN C.1 C.2.1 hd hx g
    | some q => exact fun g hx => lv_aload C.1 C.2.1 hd hx g
  · cases h
theorem em_k_astore {i : Nat} (C : em_Cx D dA ad base L xs c0 p s m meth c ix) (hd : decode (em_cd ix) pc = .ok (.astore i, 2)) (h : em_do (L, xs) ix (.astore i) (pc + 2) lc st M = some (.inl (pc', lc', st', M'))) (kk : em_K p l e R s m args below meth c Q D dA ad base L xs c0 s0 M' pc' lc' st') : em_K p l e R s m args below meth c Q D dA ad base L xs c0 s0 M pc lc st := by
  intro ls H locs hL hW hS
  unfold em_do at h
  dsimp only at h
  split at h
  · rename_i x r
    split at h
    · rename_i hlt
      cases h
      exact lv_astore C.1 C.2.1 hd hL.has hlt rfl (fun ls' h' => kk ls' H locs (em_Lr.st1 (v := .ref x) hlt h') hW hS)
    · cases h
  · cases h
theorem em_k_lload_n {i : Fin 4} (C : em_Cx D dA ad base L xs c0 p s m meth c ix) (hd : decode (em_cd ix) pc = .ok (.lload_n i, 1)) (h : em_do (L, xs) ix (.lload i.val) (pc + 1) lc st M = some (.inl (pc', lc', st', M'))) (kk : em_K p l e R s m args below meth c Q D dA ad base L xs c0 s0 M' pc' lc' st') : em_K p l e R s m args below meth c Q D dA ad base L xs c0 s0 M pc lc st := by
  intro ls H locs hL hW hS
  unfold em_do at h
  dsimp only at h
  split at h
  · rename_i x hx
    cases h
    exact lv_lload_n C.1 C.2.1 hd rfl (hL.2.2 _ _ hx) (kk ls H locs hL hW hS)
  · cases h
theorem em_k_lstore_n {i : Fin 4} (C : em_Cx D dA ad base L xs c0 p s m meth c ix) (hd : decode (em_cd ix) pc = .ok (.lstore_n i, 1)) (h : em_do (L, xs) ix (.lstore i.val) (pc + 1) lc st M = some (.inl (pc', lc', st', M'))) (kk : em_K p l e R s m args below meth c Q D dA ad base L xs c0 s0 M' pc' lc' st') : em_K p l e R s m args below meth c Q D dA ad base L xs c0 s0 M pc lc st := by
  intro ls H locs hL hW hS
  unfold em_do at h
  dsimp only at h
  split at h
  · rename_i x r
    split at h
    · rename_i hlt
      cases h
      exact lv_lstore_n C.1 C.2.1 hd rfl hL.has hlt rfl (fun ls' h' => kk ls' H locs (em_Lr.st2 (v := .long x) hlt h') hW hS)
    · cases h
  · cases h
theorem em_k_lload {i : Nat} (C : em_Cx D dA ad base L xs c0 p s m meth c ix) (hd : decode (em_cd ix) pc = .ok (.lload i, 2)) (h : em_do (L, xs) ix (.lload i) (pc + 2) lc st M = some (.inl (pc', lc', st', M'))) (kk : em_K p l e R s m args below meth c Q D dA ad base L xs c0 s0 M' pc' lc' st') : em_K p l e R s m args below meth c Q D dA ad base L xs c0 s0 M pc lc st := by
  intro ls H locs hL hW hS
  unfold em_do at h
  dsimp only at h
  split at h
  · rename_i x hx
    cases h
    exact lv_lload C.1 C.2.1 hd (hL.2.2 _ _ hx) (kk ls H locs hL hW hS)
  · cases h
theorem em_k_lstore {i : Nat} (C : em_Cx D dA ad base L xs c0 p s m meth c ix) (hd : decode (em_cd ix) pc = .ok (.lstore i, 2)) (h : em_do (L, xs) ix (.lstore i) (pc + 2) lc st M = some (.inl (pc', lc', st', M'))) (kk : em_K p l e R s m args below meth c Q D dA ad base L xs c0 s0 M' pc' lc' st') : em_K p l e R s m args below meth c Q D dA ad base L xs c0 s0 M pc lc st := by
  intro ls H locs hL hW hS
  unfold em_do at h
  dsimp only at h
  split at h
  · rename_i x r
    split at h
    · rename_i hlt
      cases h
      exact lv_lstore C.1 C.2.1 hd hL.has hlt rfl (fun ls' h' => kk ls' H locs (em_Lr.st2 (v := .long x) hlt h') hW hS)
    · cases h
  · cases h
theorem em_k_iinc {i : Nat} {n : Int} (C : em_Cx D dA ad base L xs c0 p s m meth c ix) (hd : decode (em_cd ix) pc = .ok (.iinc i n, 3)) (h : em_do (L, xs) ix (.iinc i n) (pc + 3) lc st M = some (.inl (pc', lc', st', M'))) (kk : em_K p l e R s m args below meth c Q D dA ad base L xs c0 s0 M' pc' lc' st') : em_K p l e R s m args below meth c Q D dA ad base L xs c0 s0 M pc lc st := by
  intro ls H locs hL hW hS
  unfold em_do at h
  dsimp only at h
  split at h
  · rename_i x hx
    cases h
    obtain ⟨q, hq⟩ := List.getElem?_of_mem (em_al_mem (ad := ad) hx)
    have hlt := (List.getElem?_eq_some_iff.mp hx).1
    exact lv_iinc C.1 C.2.1 hd hL.has hq rfl hlt rfl (fun ls' h' => kk ls' H locs (em_Lr.st1 (v := .int (x + Int32.ofInt n)) hlt h') hW hS)
  · cases h
theorem em_k_pop (C : em_Cx D dA ad base L xs c0 p s m meth c ix) (hd : decode (em_cd ix) pc = .ok (.pop, 1)) (h : em_do (L, xs) ix (.pop) (pc + 1) lc st M = some (.inl (pc', lc', st', M'))) (kk : em_K p l e R s m args below meth c Q D dA ad base L xs c0 s0 M' pc' lc' st') : em_K p l e R s m args below meth c Q D dA ad base L xs c0 s0 M pc lc st := by
  intro ls H locs hL hW hS
  unfold em_do at h
  dsimp only at h
  split at h
  · split at h
    · rename_i hc
      cases h
      exact lv_pop C.1 C.2.1 hd ((em_cv_cat _ _).trans hc) (kk ls H locs hL hW hS)
    · cases h
  · cases h
theorem em_k_dup (C : em_Cx D dA ad base L xs c0 p s m meth c ix) (hd : decode (em_cd ix) pc = .ok (.dup, 1)) (h : em_do (L, xs) ix (.dup) (pc + 1) lc st M = some (.inl (pc', lc', st', M'))) (kk : em_K p l e R s m args below meth c Q D dA ad base L xs c0 s0 M' pc' lc' st') : em_K p l e R s m args below meth c Q D dA ad base L xs c0 s0 M pc lc st := by
  intro ls H locs hL hW hS
  unfold em_do at h
  dsimp only at h
  split at h
  · split at h
    · rename_i hc
      cases h
      exact lv_dup C.1 C.2.1 hd ((em_cv_cat _ _).trans hc) (kk ls H locs hL hW hS)
    · cases h
  · cases h
theorem em_k_dup2 (C : em_Cx D dA ad base L xs c0 p s m meth c ix) (hd : decode (em_cd ix) pc = .ok (.dup2, 1)) (h : em_do (L, xs) ix (.dup2) (pc + 1) lc st M = some (.inl (pc', lc', st', M'))) (kk : em_K p l e R s m args below meth c Q D dA ad base L xs c0 s0 M' pc' lc' st') : em_K p l e R s m args below meth c Q D dA ad base L xs c0 s0 M pc lc st := by
  intro ls H locs hL hW hS
  unfold em_do at h
  dsimp only at h
  split at h
  · split at h
    · rename_i hc
      cases h
      exact lv_dup2_11 C.1 C.2.1 hd ((em_cv_cat _ _).trans hc.1) ((em_cv_cat _ _).trans hc.2) (kk ls H locs hL hW hS)
    · cases h
  · cases h
theorem em_k_goto {t : Int} (C : em_Cx D dA ad base L xs c0 p s m meth c ix) (hd : decode (em_cd ix) pc = .ok (.goto t, 3)) (ht : 0 ≤ (pc : Int) + t) (h : em_do (L, xs) ix (.goto (pc + t)) (pc + 3) lc st M = some (.inl (pc', lc', st', M'))) (kk : em_K p l e R s m args below meth c Q D dA ad base L xs c0 s0 M' pc' lc' st') : em_K p l e R s m args below meth c Q D dA ad base L xs c0 s0 M pc lc st := by
  intro ls H locs hL hW hS
  cases h
  exact lv_goto C.1 C.2.1 hd (Int.toNat_of_nonneg ht).symm (kk ls H locs hL hW hS)
theorem em_k_if_eq {t : Int} (C : em_Cx D dA ad base L xs c0 p s m meth c ix) (hd : decode (em_cd ix) pc = .ok (.ifCond .eq t, 3)) (ht : 0 ≤ (pc : Int) + t) (h : em_do (L, xs) ix (.ifCond .eq (pc + t)) (pc + 3) lc st M = some (.inl (pc', lc', st', M'))) (kk : em_K p l e R s m args below meth c Q D dA ad base L xs c0 s0 M' pc' lc' st') : em_K p l e R s m args below meth c Q D dA ad base L xs c0 s0 M pc lc st := by
  intro ls H locs hL hW hS
  unfold em_do at h
  dsimp only at h
  split at h
  · rename_i x r
    cases h
    have g := kk ls H locs hL hW hS
    refine lv_if_eq C.1 C.2.1 hd (Int.toNat_of_nonneg ht).symm (fun hz => ?_) (fun hz => ?_)
    · rw [show em_cz .eq x = true from decide_eq_true hz] at g
      exact g
    · rw [show em_cz .eq x = false from decide_eq_false hz] at g
      exact g
  · cases h
theorem em_k_icmp_eq {t : Int} (C : em_Cx D dA ad base L xs c0 p s m meth c ix) (hd : decode (em_cd ix) pc = .ok (.if_icmp .eq t, 3)) (ht : 0 ≤ (pc : Int) + t) (h : em_do (L, xs) ix (.if_icmp .eq (pc + t)) (pc + 3) lc st M = some (.inl (pc', lc', st', M'))) (kk : em_K p l e R s m args below meth c Q D dA ad base L xs c0 s0 M' pc' lc' st') : em_K p l e R s m args below meth c Q D dA ad base L xs c0 s0 M pc lc st := by
  intro ls H locs hL hW hS
  unfold em_do at h
  dsimp only at h
  split at h
  · rename_i y x r
    cases h
    have g := kk ls H locs hL hW hS
    refine lv_icmp_eq C.1 C.2.1 hd (Int.toNat_of_nonneg ht).symm (fun hz => ?_) (fun hz => ?_)
    · rw [show em_cc .eq x y = true from decide_eq_true hz] at g
      exact g
    · rw [show em_cc .eq x y = false from decide_eq_false hz] at g
      exact g
  · cases h
theorem em_k_if_ne {t : Int} (C : em_Cx D dA ad base L xs c0 p s m meth c ix) (hd : decode (em_cd ix) pc = .ok (.ifCond .ne t, 3)) (ht : 0 ≤ (pc : Int) + t) (h : em_do (L, xs) ix (.ifCond .ne (pc + t)) (pc + 3) lc st M = some (.inl (pc', lc', st', M'))) (kk : em_K p l e R s m args below meth c Q D dA ad base L xs c0 s0 M' pc' lc' st') : em_K p l e R s m args below meth c Q D dA ad base L xs c0 s0 M pc lc st := by
  intro ls H locs hL hW hS
  unfold em_do at h
  dsimp only at h
  split at h
  · rename_i x r
    cases h
    have g := kk ls H locs hL hW hS
    refine lv_if_ne C.1 C.2.1 hd (Int.toNat_of_nonneg ht).symm (fun hz => ?_) (fun hz => ?_)
    · rw [show em_cz .ne x = true from decide_eq_true hz] at g
      exact g
    · rw [show em_cz .ne x = false from decide_eq_false (not_not_intro hz)] at g
      exact g
  · cases h
theorem em_k_icmp_ne {t : Int} (C : em_Cx D dA ad base L xs c0 p s m meth c ix) (hd : decode (em_cd ix) pc = .ok (.if_icmp .ne t, 3)) (ht : 0 ≤ (pc : Int) + t) (h : em_do (L, xs) ix (.if_icmp .ne (pc + t)) (pc + 3) lc st M = some (.inl (pc', lc', st', M'))) (kk : em_K p l e R s m args below meth c Q D dA ad base L xs c0 s0 M' pc' lc' st') : em_K p l e R s m args below meth c Q D dA ad base L xs c0 s0 M pc lc st := by
  intro ls H locs hL hW hS
  unfold em_do at h
  dsimp only at h
  split at h
  · rename_i y x r
    cases h
    have g := kk ls H locs hL hW hS
    refine lv_icmp_ne C.1 C.2.1 hd (Int.toNat_of_nonneg ht).symm (fun hz => ?_) (fun hz => ?_)
    · rw [show em_cc .ne x y = true from decide_eq_true hz] at g
      exact g
    · rw [show em_cc .ne x y = false from decide_eq_false (not_not_intro hz)] at g
      exact g
  · cases h
theorem em_k_if_lt {t : Int} (C : em_Cx D dA ad base L xs c0 p s m meth c ix) (hd : decode (em_cd ix) pc = .ok (.ifCond .lt t, 3)) (ht : 0 ≤ (pc : Int) + t) (h : em_do (L, xs) ix (.ifCond .lt (pc + t)) (pc + 3) lc st M = some (.inl (pc', lc', st', M'))) (kk : em_K p l e R s m args below meth c Q D dA ad base L xs c0 s0 M' pc' lc' st') : em_K p l e R s m args below meth c Q D dA ad base L xs c0 s0 M pc lc st := by
  intro ls H locs hL hW hS
  unfold em_do at h
  dsimp only at h
  split at h
  · rename_i x r
    cases h
    have g := kk ls H locs hL hW hS
    refine lv_if_lt C.1 C.2.1 hd (Int.toNat_of_nonneg ht).symm (fun hz => ?_) (fun hz => ?_)
    · rw [show em_cz .lt x = true from decide_eq_true hz] at g
      exact g
    · rw [show em_cz .lt x = false from decide_eq_false hz] at g
      exact g
  · cases h
theorem em_k_icmp_lt {t : Int} (C : em_Cx D dA ad base L xs c0 p s m meth c ix) (hd : decode (em_cd ix) pc = .ok (.if_icmp .lt t, 3)) (ht : 0 ≤ (pc : Int) + t) (h : em_do (L, xs) ix (.if_icmp .lt (pc + t)) (pc + 3) lc st M = some (.inl (pc', lc', st', M'))) (kk : em_K p l e R s m args below meth c Q D dA ad base L xs c0 s0 M' pc' lc' st') : em_K p l e R s m args below meth c Q D dA ad base L xs c0 s0 M pc lc st := by
  intro ls H locs hL hW hS
  unfold em_do at h
  dsimp only at h
  split at h
  · rename_i y x r
    cases h
    have g := kk ls H locs hL hW hS
    refine lv_icmp_lt C.1 C.2.1 hd (Int.toNat_of_nonneg ht).symm (fun hz => ?_) (fun hz => ?_)
    · rw [show em_cc .lt x y = true from decide_eq_true hz] at g
      exact g
    · rw [show em_cc .lt x y = false from decide_eq_false hz] at g
      exact g
  · cases h
theorem em_k_if_ge {t : Int} (C : em_Cx D dA ad base L xs c0 p s m meth c ix) (hd : decode (em_cd ix) pc = .ok (.ifCond .ge t, 3)) (ht : 0 ≤ (pc : Int) + t) (h : em_do (L, xs) ix (.ifCond .ge (pc + t)) (pc + 3) lc st M = some (.inl (pc', lc', st', M'))) (kk : em_K p l e R s m args below meth c Q D dA ad base L xs c0 s0 M' pc' lc' st') : em_K p l e R s m args below meth c Q D dA ad base L xs c0 s0 M pc lc st := by
  intro ls H locs hL hW hS
  unfold em_do at h
  dsimp only at h
  split at h
  · rename_i x r
    cases h
    have g := kk ls H locs hL hW hS
    refine lv_if_ge C.1 C.2.1 hd (Int.toNat_of_nonneg ht).symm (fun hz => ?_) (fun hz => ?_)
    · rw [show em_cz .ge x = true from decide_eq_true hz] at g
      exact g
    · rw [show em_cz .ge x = false from decide_eq_false hz] at g
      exact g
  · cases h
theorem em_k_icmp_ge {t : Int} (C : em_Cx D dA ad base L xs c0 p s m meth c ix) (hd : decode (em_cd ix) pc = .ok (.if_icmp .ge t, 3)) (ht : 0 ≤ (pc : Int) + t) (h : em_do (L, xs) ix (.if_icmp .ge (pc + t)) (pc + 3) lc st M = some (.inl (pc', lc', st', M'))) (kk : em_K p l e R s m args below meth c Q D dA ad base L xs c0 s0 M' pc' lc' st') : em_K p l e R s m args below meth c Q D dA ad base L xs c0 s0 M pc lc st := by
  intro ls H locs hL hW hS
  unfold em_do at h
  dsimp only at h
  split at h
  · rename_i y x r
    cases h
    have g := kk ls H locs hL hW hS
    refine lv_icmp_ge C.1 C.2.1 hd (Int.toNat_of_nonneg ht).symm (fun hz => ?_) (fun hz => ?_)
    · rw [show em_cc .ge x y = true from decide_eq_true hz] at g
      exact g
    · rw [show em_cc .ge x y = false from decide_eq_false hz] at g
      exact g
  · cases h
theorem em_k_if_gt {t : Int} (C : em_Cx D dA ad base L xs c0 p s m meth c ix) (hd : decode (em_cd ix) pc = .ok (.ifCond .gt t, 3)) (ht : 0 ≤ (pc : Int) + t) (h : em_do (L, xs) ix (.ifCond .gt (pc + t)) (pc + 3) lc st M = some (.inl (pc', lc', st', M'))) (kk : em_K p l e R s m args below meth c Q D dA ad base L xs c0 s0 M' pc' lc' st') : em_K p l e R s m args below meth c Q D dA ad base L xs c0 s0 M pc lc st := by
  intro ls H locs hL hW hS
  unfold em_do at h
  dsimp only at h
  split at h
  · rename_i x r
    cases h
    have g := kk ls H locs hL hW hS
    refine lv_if_gt C.1 C.2.1 hd (Int.toNat_of_nonneg ht).symm (fun hz => ?_) (fun hz => ?_)
    · rw [show em_cz .gt x = true from decide_eq_true hz] at g
      exact g
    · rw [show em_cz .gt x = false from decide_eq_false hz] at g
      exact g
  · cases h
theorem em_k_icmp_gt {t : Int} (C : em_Cx D dA ad base L xs c0 p s m meth c ix) (hd : decode (em_cd ix) pc = .ok (.if_icmp .gt t, 3)) (ht : 0 ≤ (pc : Int) + t) (h : em_do (L, xs) ix (.if_icmp .gt (pc + t)) (pc + 3) lc st M = some (.inl (pc', lc', st', M'))) (kk : em_K p l e R s m args below meth c Q D dA ad base L xs c0 s0 M' pc' lc' st') : em_K p l e R s m args below meth c Q D dA ad base L xs c0 s0 M pc lc st := by
  intro ls H locs hL hW hS
  unfold em_do at h
  dsimp only at h
  split at h
  · rename_i y x r
    cases h
    have g := kk ls H locs hL hW hS
    refine lv_icmp_gt C.1 C.2.1 hd (Int.toNat_of_nonneg ht).symm (fun hz => ?_) (fun hz => ?_)
    · rw [show em_cc .gt x y = true from decide_eq_true hz] at g
      exact g
    · rw [show em_cc .gt x y = false from decide_eq_false hz] at g
      exact g
  · cases h
theorem em_k_if_le {t : Int} (C : em_Cx D dA ad base L xs c0 p s m meth c ix) (hd : decode (em_cd ix) pc = .ok (.ifCond .le t, 3)) (ht : 0 ≤ (pc : Int) + t) (h : em_do (L, xs) ix (.ifCond .le (pc + t)) (pc + 3) lc st M = some (.inl (pc', lc', st', M'))) (kk : em_K p l e R s m args below meth c Q D dA ad base L xs c0 s0 M' pc' lc' st') : em_K p l e R s m args below meth c Q D dA ad base L xs c0 s0 M pc lc st := by
  intro ls H locs hL hW hS
  unfold em_do at h
  dsimp only at h
  split at h
  · rename_i x r
    cases h
    have g := kk ls H locs hL hW hS
    refine lv_if_le C.1 C.2.1 hd (Int.toNat_of_nonneg ht).symm (fun hz => ?_) (fun hz => ?_)
    · rw [show em_cz .le x = true from decide_eq_true hz] at g
      exact g
    · rw [show em_cz .le x = false from decide_eq_false hz] at g
      exact g
  · cases h
theorem em_k_icmp_le {t : Int} (C : em_Cx D dA ad base L xs c0 p s m meth c ix) (hd : decode (em_cd ix) pc = .ok (.if_icmp .le t, 3)) (ht : 0 ≤ (pc : Int) + t) (h : em_do (L, xs) ix (.if_icmp .le (pc + t)) (pc + 3) lc st M = some (.inl (pc', lc', st', M'))) (kk : em_K p l e R s m args below meth c Q D dA ad base L xs c0 s0 M' pc' lc' st') : em_K p l e R s m args below meth c Q D dA ad base L xs c0 s0 M pc lc st := by
  intro ls H locs hL hW hS
  unfold em_do at h
  dsimp only at h
  split at h
  · rename_i y x r
    cases h
    have g := kk ls H locs hL hW hS
    refine lv_icmp_le C.1 C.2.1 hd (Int.toNat_of_nonneg ht).symm (fun hz => ?_) (fun hz => ?_)
    · rw [show em_cc .le x y = true from decide_eq_true hz] at g
      exact g
    · rw [show em_cc .le x y = false from decide_eq_false hz] at g
      exact g
  · cases h
theorem em_offs {pc : Nat} : ∀ (ps : List (Int × Int)) (d k : Int), (pc : Int) + Op.lookupswitch.offset ps d k = Op.lookupswitch.offset (ps.map (fun q => (q.1, (pc : Int) + q.2))) (pc + d) k
  | [], d, k => rfl
  | (a, o) :: r, d, k => by
    rw [List.map_cons, Op.lookupswitch.offset_cons, Op.lookupswitch.offset_cons]
    split
    · rfl
    · exact em_offs r d k
theorem em_offs_nn {pc : Nat} : ∀ (ps : List (Int × Int)) (d k : Int), 0 ≤ (pc : Int) + d → (∀ q ∈ ps, 0 ≤ (pc : Int) + q.2) → 0 ≤ (pc : Int) + Op.lookupswitch.offset ps d k
  | [], d, k, h, _ => h
  | (a, o) :: r, d, k, h, g => by
    rw [Op.lookupswitch.offset_cons]
    split
    · exact g (a, o) List.mem_cons_self
    · exact em_offs_nn r d k h (fun q hq => g q (List.mem_cons_of_mem _ hq))
theorem em_k_lookup {d : Int} {ps : Array (Int × Int)} {len : Nat} (C : em_Cx D dA ad base L xs c0 p s m meth c ix) (hd : decode (em_cd ix) pc = .ok (.lookupswitch d ps, len)) (hp : (ps.toList.zip (ps.toList.drop 1)).all (fun (a, next) => a.1 < next.1) = true) (h1 : 0 ≤ (pc : Int) + d) (h2 : ∀ q ∈ ps.toList, 0 ≤ (pc : Int) + q.2) (h : em_do (L, xs) ix (.lookupswitch (pc + d) (ps.map (fun q => (q.1, (pc : Int) + q.2)))) (pc + len) lc st M = some (.inl (pc', lc', st', M'))) (kk : em_K p l e R s m args below meth c Q D dA ad base L xs c0 s0 M' pc' lc' st') : em_K p l e R s m args below meth c Q D dA ad base L xs c0 s0 M pc lc st := by
  intro ls H locs hL hW hS
  unfold em_do at h
  dsimp only at h
  split at h
  · rename_i x r
    cases h
    have g := kk ls H locs hL hW hS
    rw [Array.toList_map, ← em_offs] at g
    exact lv_lookup C.1 C.2.1 hd hp rfl (Int.toNat_of_nonneg (em_offs_nn _ _ _ h1 h2)).symm g
  · cases h
theorem em_k_table {d lo hi : Int} {offs : Array Int} {len : Nat} (C : em_Cx D dA ad base L xs c0 p s m meth c ix) (hd : decode (em_cd ix) pc = .ok (.tableswitch d lo hi offs, len)) (h1 : 0 ≤ (pc : Int) + d) (h2 : ∀ q ∈ offs.toList, 0 ≤ (pc : Int) + q) (h : em_do (L, xs) ix (.tableswitch (pc + d) lo hi (offs.map (fun t => (pc : Int) + t))) (pc + len) lc st M = some (.inl (pc', lc', st', M'))) (kk : em_K p l e R s m args below meth c Q D dA ad base L xs c0 s0 M' pc' lc' st') : em_K p l e R s m args below meth c Q D dA ad base L xs c0 s0 M pc lc st := by
  intro ls H locs hL hW hS
  unfold em_do at h
  dsimp only at h
  split at h
  · rename_i x r
    split at h
    · rename_i hout
      cases h
      exact lv_tableOut C.1 C.2.1 hd hout (Int.toNat_of_nonneg h1).symm (kk ls H locs hL hW hS)
    · rename_i hin
      split at h
      · rename_i o ho
        cases h
        rw [Array.getElem?_map] at ho
        cases hq : offs[(x.toInt - lo).toNat]? with
        | none => rw [hq] at ho; cases ho
        | some o' =>
          rw [hq] at ho
          cases ho
          exact lv_tableIn C.1 C.2.1 hd (fun q => hin (Or.inl q)) (fun q => hin (Or.inr q)) hq (Int.toNat_of_nonneg (h2 o' (by rw [Array.mem_toList_iff]; exact Array.mem_of_getElem? hq))).symm (kk ls H locs hL hW hS)
      · cases h
  · cases h
end EMK
