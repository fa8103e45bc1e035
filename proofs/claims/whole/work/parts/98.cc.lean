/-! a machine over lists, for closed runs -/
abbrev cc_C : Type := Nat × Nat × List (Nat × Int32) × List (Nat × Int64) × List (Nat × Nat)
abbrev cc_M : Type := List cc_C
abbrev cc_R : Type := (Nat × em_L × List Value × cc_M) ⊕ ((Nat × Nat × List Value × List Value) ⊕ Option Value)
def cc_li : List (Nat × Int32) → Nat → Int32
  | [], _ => 0
  | q :: l, j => cond (Nat.beq j q.1) q.2 (cc_li l j)
def cc_lj : List (Nat × Int64) → Nat → Int64
  | [], _ => 0
  | q :: l, j => cond (Nat.beq j q.1) q.2 (cc_lj l j)
def cc_lr : List (Nat × Nat) → Nat → Option Nat
  | [], _ => none
  | q :: l, j => cond (Nat.beq j q.1) (some q.2) (cc_lr l j)
def cc_oi : Option cc_C → Nat → Int32
  | some c, j => cc_li c.2.2.1 j
  | none, _ => 0
def cc_oj : Option cc_C → Nat → Int64
  | some c, j => cc_lj c.2.2.2.1 j
  | none, _ => 0
def cc_or : Option cc_C → Nat → Option Nat
  | some c, j => cc_lr c.2.2.2.2 j
  | none, _ => none
def den (C : cc_M) : em_M := (C.map (fun c => (c.1, c.2.1)), fun a j => cc_oi C[a]? j, fun a j => cc_oj C[a]? j, fun a j => cc_or C[a]? j)
def cc_up (g : cc_C → cc_C) : cc_M → Nat → cc_M
  | [], _ => []
  | c :: C, 0 => g c :: C
  | c :: C, a + 1 => c :: cc_up g C a
theorem cc_up_at {g : cc_C → cc_C} {C : cc_M} {a b : Nat} : (cc_up g C a)[b]? = if b = a then (C[b]?).map g else C[b]? := by
  induction C generalizing a b with
  | nil =>
    rw [cc_up]
    simp
  | cons c C ih =>
    cases a with
    | zero =>
      rw [cc_up]
      cases b with
      | zero => simp
      | succ b => simp
    | succ a =>
      rw [cc_up]
      cases b with
      | zero => simp
      | succ b =>
        rw [List.getElem?_cons_succ, List.getElem?_cons_succ, ih]
        by_cases e : b = a
        · rw [if_pos e, if_pos (by omega)]
        · rw [if_neg e, if_neg (by omega)]
theorem cc_up_sh {g : cc_C → cc_C} (hg : ∀ c, (g c).1 = c.1 ∧ (g c).2.1 = c.2.1) {C : cc_M} {a : Nat} : (cc_up g C a).map (fun c => (c.1, c.2.1)) = C.map (fun c => (c.1, c.2.1)) := by
  induction C generalizing a with
  | nil => rfl
  | cons c C ih =>
    cases a with
    | zero =>
      rw [cc_up, List.map_cons, List.map_cons, (hg c).1, (hg c).2]
    | succ a => rw [cc_up, List.map_cons, List.map_cons, ih]
def cc_ai (i : Nat) (x : Int32) (c : cc_C) : cc_C := (c.1, c.2.1, (i, x) :: c.2.2.1, c.2.2.2)
def cc_aj (i : Nat) (x : Int64) (c : cc_C) : cc_C := (c.1, c.2.1, c.2.2.1, (i, x) :: c.2.2.2.1, c.2.2.2.2)
def cc_ar (i x : Nat) (c : cc_C) : cc_C := (c.1, c.2.1, c.2.2.1, c.2.2.2.1, (i, x) :: c.2.2.2.2)
theorem beq_if {A : Type} {j i : Nat} {x y : A} : cond (Nat.beq j i) x y = if j = i then x else y := by
  by_cases h : j = i
  · rw [if_pos h, h, Nat.beq_refl]; rfl
  · rw [if_neg h]
    cases hb : Nat.beq j i with
    | true => exact absurd (Nat.eq_of_beq_eq_true hb) h
    | false => rfl
theorem den_len {C : cc_M} : (den C).1.length = C.length := List.length_map _
theorem den_putI {C : cc_M} {a i : Nat} {x : Int32} (ha : a < C.length) : em_putI (den C) a i x = den (cc_up (cc_ai i x) C a) := by
  have hc : C[a]? = some C[a] := List.getElem?_eq_getElem ha
  refine Prod.ext (cc_up_sh (g := cc_ai i x) (fun c => ⟨rfl, rfl⟩)).symm (Prod.ext ?_ (Prod.ext ?_ ?_))
  · funext b j
    show (if b = a ∧ j = i then x else cc_oi C[b]? j) = cc_oi (cc_up (cc_ai i x) C a)[b]? j
    rw [cc_up_at]
    by_cases e : b = a
    · subst e
      rw [if_pos rfl, hc]
      show _ = cond (Nat.beq j i) x (cc_li C[b].2.2.1 j)
      rw [beq_if]
      by_cases e2 : j = i
      · rw [if_pos ⟨rfl, e2⟩, if_pos e2]
      · rw [if_neg (fun q => e2 q.2), if_neg e2]; rfl
    · rw [if_neg (fun q => e q.1), if_neg e]
  · funext b j
    show cc_oj C[b]? j = cc_oj (cc_up (cc_ai i x) C a)[b]? j
    rw [cc_up_at]
    by_cases e : b = a
    · subst e
      rw [if_pos rfl, hc]; rfl
    · rw [if_neg e]
  · funext b j
    show cc_or C[b]? j = cc_or (cc_up (cc_ai i x) C a)[b]? j
    rw [cc_up_at]
    by_cases e : b = a
    · subst e
      rw [if_pos rfl, hc]; rfl
    · rw [if_neg e]
theorem den_putJ {C : cc_M} {a i : Nat} {x : Int64} (ha : a < C.length) : em_putJ (den C) a i x = den (cc_up (cc_aj i x) C a) := by
  have hc : C[a]? = some C[a] := List.getElem?_eq_getElem ha
  refine Prod.ext (cc_up_sh (g := cc_aj i x) (fun c => ⟨rfl, rfl⟩)).symm (Prod.ext ?_ (Prod.ext ?_ ?_))
  · funext b j
    show cc_oi C[b]? j = cc_oi (cc_up (cc_aj i x) C a)[b]? j
    rw [cc_up_at]
    by_cases e : b = a
    · subst e
      rw [if_pos rfl, hc]; rfl
    · rw [if_neg e]
  · funext b j
    show (if b = a ∧ j = i then x else cc_oj C[b]? j) = cc_oj (cc_up (cc_aj i x) C a)[b]? j
    rw [cc_up_at]
    by_cases e : b = a
    · subst e
      rw [if_pos rfl, hc]
      show _ = cond (Nat.beq j i) x (cc_lj C[b].2.2.2.1 j)
      rw [beq_if]
      by_cases e2 : j = i
      · rw [if_pos ⟨rfl, e2⟩, if_pos e2]
      · rw [if_neg (fun q => e2 q.2), if_neg e2]; rfl
    · rw [if_neg (fun q => e q.1), if_neg e]
  · funext b j
    show cc_or C[b]? j = cc_or (cc_up (cc_aj i x) C a)[b]? j
    rw [cc_up_at]
    by_cases e : b = a
    · subst e
      rw [if_pos rfl, hc]; rfl
    · rw [if_neg e]
theorem den_putR {C : cc_M} {a i x : Nat} (ha : a < C.length) : em_putR (den C) a i (some x) = den (cc_up (cc_ar i x) C a) := by
  have hc : C[a]? = some C[a] := List.getElem?_eq_getElem ha
  refine Prod.ext (cc_up_sh (g := cc_ar i x) (fun c => ⟨rfl, rfl⟩)).symm (Prod.ext ?_ (Prod.ext ?_ ?_))
  · funext b j
    show cc_oi C[b]? j = cc_oi (cc_up (cc_ar i x) C a)[b]? j
    rw [cc_up_at]
    by_cases e : b = a
    · subst e
      rw [if_pos rfl, hc]; rfl
    · rw [if_neg e]
  · funext b j
    show cc_oj C[b]? j = cc_oj (cc_up (cc_ar i x) C a)[b]? j
    rw [cc_up_at]
    by_cases e : b = a
    · subst e
      rw [if_pos rfl, hc]; rfl
    · rw [if_neg e]
  · funext b j
    show (if b = a ∧ j = i then some x else cc_or C[b]? j) = cc_or (cc_up (cc_ar i x) C a)[b]? j
    rw [cc_up_at]
    by_cases e : b = a
    · subst e
      rw [if_pos rfl, hc]
      show _ = cond (Nat.beq j i) (some x) (cc_lr C[b].2.2.2.2 j)
      rw [beq_if]
      by_cases e2 : j = i
      · rw [if_pos ⟨rfl, e2⟩, if_pos e2]
      · rw [if_neg (fun q => e2 q.2), if_neg e2]; rfl
    · rw [if_neg (fun q => e q.1), if_neg e]
theorem cc_app {C : cc_M} {c : cc_C} {b : Nat} : (C ++ [c])[b]? = if b = C.length then some c else C[b]? := by
  by_cases e : b = C.length
  · rw [if_pos e, e, List.getElem?_append_right (Nat.le_refl _), Nat.sub_self]; rfl
  · rw [if_neg e]
    by_cases h : b < C.length
    · rw [List.getElem?_append_left h]
    · rw [List.getElem?_eq_none (by rw [List.length_append]; dsimp only [List.length]; omega), List.getElem?_eq_none (by omega)]
theorem den_new {C : cc_M} {kd n : Nat} : em_new (den C) kd n = den (C ++ [(kd, n, [], [], [])]) := by
  refine Prod.ext ?_ (Prod.ext ?_ (Prod.ext ?_ ?_))
  · show C.map (fun c : cc_C => (c.1, c.2.1)) ++ [(kd, n)] = (C ++ [((kd, n, [], [], []) : cc_C)]).map (fun c : cc_C => (c.1, c.2.1))
    rw [List.map_append]; rfl
  · funext b j
    show (if b = (den C).1.length then 0 else cc_oi C[b]? j) = cc_oi (C ++ [(kd, n, [], [], [])])[b]? j
    rw [cc_app, den_len]
    by_cases e : b = C.length
    · rw [if_pos e, if_pos e]; rfl
    · rw [if_neg e, if_neg e]
  · funext b j
    show (if b = (den C).1.length then 0 else cc_oj C[b]? j) = cc_oj (C ++ [(kd, n, [], [], [])])[b]? j
    rw [cc_app, den_len]
    by_cases e : b = C.length
    · rw [if_pos e, if_pos e]; rfl
    · rw [if_neg e, if_neg e]
  · funext b j
    show (if b = (den C).1.length then none else cc_or C[b]? j) = cc_or (C ++ [(kd, n, [], [], [])])[b]? j
    rw [cc_app, den_len]
    by_cases e : b = C.length
    · rw [if_pos e, if_pos e]; rfl
    · rw [if_neg e, if_neg e]
def cc_safe : Instr → Bool
  | .iconst _ => true
  | .lconst _ => true
  | .ldc2_w _ => true
  | .iload _ => true
  | .lload _ => true
  | .aload _ => true
  | .ldc _ => true
  | .getstatic _ => true
  | .pop => true
  | .istore _ => true
  | .astore _ => true
  | .lstore _ => true
  | .iinc _ _ => true
  | .iadd => true
  | .isub => true
  | .imul => true
  | .iand => true
  | .ior => true
  | .ixor => true
  | .ishl => true
  | .ishr => true
  | .iushr => true
  | .ineg => true
  | .i2l => true
  | .i2b => true
  | .i2c => true
  | .ladd => true
  | .lsub => true
  | .lmul => true
  | .lcmp => true
  | .dup => true
  | .dup2 => true
  | .goto _ => true
  | .ifCond _ _ => true
  | .if_icmp _ _ => true
  | .getfield _ => true
  | .iaload => true
  | .baload => true
  | .laload => true
  | .aaload => true
  | .arraylength => true
  | .invokevirtual _ => true
  | .invokespecial _ => true
  | .ireturn => true
  | .lreturn => true
  | .areturn => true
  | .return_ => true
  | _ => false
set_option maxHeartbeats 4000000 in
theorem em_do_same {sc : Nat × (Nat → Int32)} {ix : Nat} {i : Instr} {nx : Nat} {lc : em_L} {st : List Value} {M : em_M} {q : Nat × em_L × List Value × em_M} (hs : cc_safe i = true) (h : em_do sc ix i nx lc st M = some (.inl q)) : q.2.2.2 = M := by
  cases i <;> first
    | exact Bool.noConfusion hs
    | (unfold em_do at h
       dsimp only at h
       try unfold em_b1 at h
       try unfold em_b2 at h
       try unfold em_l2 at h
       try unfold em_inv at h
       repeat' split at h
       all_goals first
         | (cases h; done)
         | (cases h; rfl))
