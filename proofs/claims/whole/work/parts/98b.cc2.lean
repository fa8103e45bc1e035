/-! the machine over lists is the machine -/
def cc_gen (ix : Nat) (i : Instr) (nx : Nat) (lc : em_L) (st : List Value) (C : cc_M) : Option cc_R := match em_do em_sc0 ix i nx lc st (den C) with
  | some (.inl q) => some (.inl (q.1, q.2.1, q.2.2.1, C))
  | some (.inr z) => some (.inr z)
  | none => none
def cc_put (C : cc_M) (a t f : Nat) (v : Value) : Option cc_M := match v with
  | .int x => if t = 0 ∨ (t = 1 ∧ (x = 0 ∨ x = 1)) then some (cc_up (cc_ai f x) C a) else none
  | .ref b => if t = 2 then some (cc_up (cc_ar f b) C a) else none
  | _ => none
def cc_mem (ix : Nat) (i : Instr) (nx : Nat) (lc : em_L) (st : List Value) (C : cc_M) : Option cc_R := match i with
  | .putfield k => match st with
    | v :: .ref a :: r => match em_fld (em_own ix) k, (den C).1[a]? with
      | some (ci, f, t, fin), some (kd, _) => if kd = ci ∧ (fin = true → em_isi ix = true ∧ em_own ix = ci) then match cc_put C a t f v with
          | some M' => some (.inl (nx, lc, r, M'))
          | none => none
        else none
      | _, _ => none
    | _ => none
  | .iastore => match st with
    | .int x :: .int i :: .ref a :: r => match (den C).1[a]? with
      | some (kd, n) => if kd = 20 ∧ em_in i n = true then some (.inl (nx, lc, r, cc_up (cc_ai i.toNatClampNeg x) C a)) else none
      | none => none
    | _ => none
  | .bastore => match st with
    | .int x :: .int i :: .ref a :: r => match (den C).1[a]? with
      | some (kd, n) => if (kd = 21 ∨ kd = 22) ∧ em_in i n = true then some (.inl (nx, lc, r, cc_up (cc_ai i.toNatClampNeg (if kd = 21 then vp_nar .byte x else vp_nar .boolean x)) C a)) else none
      | none => none
    | _ => none
  | .lastore => match st with
    | .long x :: .int i :: .ref a :: r => match (den C).1[a]? with
      | some (kd, n) => if kd = 23 ∧ em_in i n = true then some (.inl (nx, lc, r, cc_up (cc_aj i.toNatClampNeg x) C a)) else none
      | none => none
    | _ => none
  | .aastore => match st with
    | .ref b :: .int i :: .ref a :: r => match (den C).1[a]?, (den C).1[b]? with
      | some (kd, n), some (kb, _) => if kd = 24 ∧ kb = 3 ∧ em_in i n = true then some (.inl (nx, lc, r, cc_up (cc_ar i.toNatClampNeg b) C a)) else none
      | _, _ => none
    | _ => none
  | .newarray t => match st with
    | .int n :: r => if em_ak t ≠ 0 ∧ ¬ n < 0 ∧ n.toNatClampNeg ≤ 100000 then some (.inl (nx, lc, .ref (den C).1.length :: r, C ++ [(em_ak t, n.toNatClampNeg, [], [], [])])) else none
    | _ => none
  | .anewarray k => match st with
    | .int n :: r => if em_cls (em_own ix) k = some 3 ∧ ¬ n < 0 ∧ n.toNatClampNeg ≤ 100000 then some (.inl (nx, lc, .ref (den C).1.length :: r, C ++ [(24, n.toNatClampNeg, [], [], [])])) else none
    | _ => none
  | .new k => match em_cls (em_own ix) k with
    | some ci => some (.inl (nx, lc, .ref (den C).1.length :: st, C ++ [(ci, em_nf ci, [], [], [])]))
    | none => none
  | .invokestatic k => match em_mth (em_own ix) k with
    | some (kd, y) => if ¬ lc.length = em_mx ix then none else if kd = 1 ∨ kd = 4 then (match em_inv nx st y (em_na y) with
        | some (.inr z) => some (.inr z)
        | _ => none) else none
    | none => none
  | _ => none
def cc_do (ix : Nat) (i : Instr) (nx : Nat) (lc : em_L) (st : List Value) (C : cc_M) : Option cc_R := cond (cc_safe i) (cc_gen ix i nx lc st C) (cc_mem ix i nx lc st C)
def cc_dx : cc_R → em_C
  | .inl q => .inl (q.1, q.2.1, q.2.2.1, den q.2.2.2)
  | .inr z => .inr z
theorem den_at {C : cc_M} {a : Nat} {q : Nat × Nat} (h : (den C).1[a]? = some q) : a < C.length := by
  have := (List.getElem?_eq_some_iff.mp h).1
  rw [den_len] at this
  exact this
theorem cc_gen_ok {ix : Nat} {i : Instr} {nx : Nat} {lc : em_L} {st : List Value} {C : cc_M} {x : cc_R} (hs : cc_safe i = true) (h : cc_gen ix i nx lc st C = some x) : em_do em_sc0 ix i nx lc st (den C) = some (cc_dx x) := by
  unfold cc_gen at h
  cases he : em_do em_sc0 ix i nx lc st (den C) with
  | none => rw [he] at h; cases h
  | some y =>
    rw [he] at h
    cases y with
    | inl q =>
      cases h
      have e := em_do_same hs he
      obtain ⟨a, b, c, M⟩ := q
      have e' : M = den C := e
      subst e'
      rfl
    | inr z => cases h; rfl
theorem cc_put_ok {C C' : cc_M} {a t f : Nat} {v : Value} (ha : a < C.length) (h : cc_put C a t f v = some C') : em_put (den C) a t f v = some (den C') := by
  unfold cc_put at h
  unfold em_put
  split at h
  · split at h
    · rename_i z
      cases h
      dsimp only
      rw [if_pos z, den_putI ha]
    · cases h
  · split at h
    · rename_i z
      cases h
      dsimp only
      rw [if_pos z, den_putR ha]
    · cases h
  · cases h
theorem cc_mem_ok {ix : Nat} {i : Instr} {nx : Nat} {lc : em_L} {st : List Value} {C : cc_M} {x : cc_R} (h : cc_mem ix i nx lc st C = some x) : em_do em_sc0 ix i nx lc st (den C) = some (cc_dx x) := by
  unfold cc_mem at h
  split at h
  · split at h
    · split at h
      · rename_i e1 e2
        split at h
        · rename_i z
          split at h
          · rename_i z2
            cases h
            unfold em_do
            dsimp only
            rw [e1, e2]
            dsimp only
            rw [if_pos z, cc_put_ok (den_at e2) z2]
            rfl
          · cases h
        · cases h
      · cases h
    · cases h
  · split at h
    · split at h
      · rename_i e2
        split at h
        · rename_i z
          cases h
          unfold em_do
          dsimp only
          rw [e2]
          dsimp only
          rw [if_pos z, den_putI (den_at e2)]
          rfl
        · cases h
      · cases h
    · cases h
  · split at h
    · split at h
      · rename_i e2
        split at h
        · rename_i z
          cases h
          unfold em_do
          dsimp only
          rw [e2]
          dsimp only
          rw [if_pos z, den_putI (den_at e2)]
          rfl
        · cases h
      · cases h
    · cases h
  · split at h
    · split at h
      · rename_i e2
        split at h
        · rename_i z
          cases h
          unfold em_do
          dsimp only
          rw [e2]
          dsimp only
          rw [if_pos z, den_putJ (den_at e2)]
          rfl
        · cases h
      · cases h
    · cases h
  · split at h
    · split at h
      · rename_i e2 e3
        split at h
        · rename_i z
          cases h
          unfold em_do
          dsimp only
          rw [e2, e3]
          dsimp only
          rw [if_pos z, den_putR (den_at e2)]
          rfl
        · cases h
      · cases h
    · cases h
  · split at h
    · split at h
      · rename_i z
        cases h
        unfold em_do
        dsimp only
        rw [if_pos z, den_new]
        rfl
      · cases h
    · cases h
  · split at h
    · split at h
      · rename_i z
        cases h
        unfold em_do
        dsimp only
        rw [if_pos z, den_new]
        rfl
      · cases h
    · cases h
  · split at h
    · rename_i e
      cases h
      unfold em_do
      dsimp only
      rw [e]
      dsimp only
      rw [den_new]
      rfl
    · cases h
  · split at h
    · rename_i kd y e
      split at h
      · cases h
      · rename_i z1
        split at h
        · rename_i z2
          split at h
          · rename_i z3
            cases h
            unfold em_do
            dsimp only
            rw [e]
            dsimp only
            rw [if_neg z1, if_neg (by omega), if_neg (by omega), if_neg (by omega), if_pos z2, z3]
            rfl
          · cases h
        · cases h
    · cases h
  · cases h
theorem cc_do_ok {ix : Nat} {i : Instr} {nx : Nat} {lc : em_L} {st : List Value} {C : cc_M} {x : cc_R} (h : cc_do ix i nx lc st C = some x) : em_do em_sc0 ix i nx lc st (den C) = some (cc_dx x) := by
  unfold cc_do at h
  cases hs : cc_safe i with
  | true => rw [hs] at h; exact cc_gen_ok hs h
  | false => rw [hs] at h; exact cc_mem_ok h
def cc_run : Nat → Nat → Nat → Nat → em_L → List Value → cc_M → Option (Option Value × cc_M)
  | 0, _, _, _, _, _, _ => none
  | n + 1, d, ix, pc, lc, st, C => match em_ins ix pc with
    | none => none
    | some (i, nx) => match cc_do ix i nx lc st C with
      | none => none
      | some (.inl (pc', lc', st', C')) => cc_run n d ix pc' lc' st' C'
      | some (.inr (.inl (y, nx, as, rest))) => match d with
        | 0 => none
        | d' + 1 => match cc_run n d' y 0 (em_loc y as) [] C with
          | none => none
          | some (r, C') => cc_run n (d' + 1) ix nx lc (r.toList ++ rest) C'
      | some (.inr (.inr r)) => some (r, C)
theorem cc_sound {n d ix pc : Nat} {lc : em_L} {st : List Value} {C C' : cc_M} {r : Option Value} (h : cc_run n d ix pc lc st C = some (r, C')) : em_run em_sc0 n d ix pc lc st (den C) = some (r, den C') := by
  induction n generalizing d ix pc lc st C C' r with
  | zero => cases h
  | succ n ih =>
    rw [cc_run] at h
    rw [em_run]
    unfold em_stp
    cases he : em_ins ix pc with
    | none => rw [he] at h; cases h
    | some q =>
      obtain ⟨i, nx⟩ := q
      rw [he] at h
      dsimp only at h ⊢
      cases hd : cc_do ix i nx lc st C with
      | none => rw [hd] at h; cases h
      | some x =>
        rw [hd] at h
        rw [cc_do_ok hd]
        match x, h with
        | .inl (pc', lc', st', C1), h => exact ih h
        | .inr (.inl (y, nx', as, rest)), h =>
          match d, h with
          | 0, h => cases h
          | d' + 1, h =>
            dsimp only [cc_dx] at h ⊢
            cases hc : cc_run n d' y 0 (em_loc y as) [] C with
            | none => rw [hc] at h; cases h
            | some q =>
              obtain ⟨r1, C1⟩ := q
              rw [hc] at h
              rw [ih hc]
              exact ih h
        | .inr (.inr r1), h =>
          cases h
          rfl
theorem cc_call {n d y : Nat} {as : List Value} {C C' : cc_M} {r : Option Value} {Q : Option Value → em_M → Prop} (h : cc_run n d y 0 (em_loc y as) [] C = some (r, C')) (hQ : Q r (den C')) : em_call d y as (den C) Q := ⟨n, r, den C', cc_sound h, hQ⟩
/-- a test: a night is made -/
theorem cc_test : ((cc_run 200 5 24 0 (em_loc 24 [.ref 1]) [] [(30, 0, [], [], []), (3, 7, [], [], [])]).map (fun q => q.2.length)) = some 6 := by decide +kernel
