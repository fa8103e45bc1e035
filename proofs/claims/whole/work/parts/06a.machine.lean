/-! the pure machine -/
abbrev em_M : Type := List (Nat × Nat) × (Nat → Nat → Int32) × (Nat → Nat → Int64) × (Nat → Nat → Option Nat)
abbrev em_L : Type := List (Option Value)
abbrev em_C : Type := (Nat × em_L × List Value × em_M) ⊕ ((Nat × Nat × List Value × List Value) ⊕ Option Value)
def em_putI (M : em_M) (k i : Nat) (x : Int32) : em_M := (M.1, fun a j => if a = k ∧ j = i then x else M.2.1 a j, M.2.2.1, M.2.2.2)
def em_putJ (M : em_M) (k i : Nat) (x : Int64) : em_M := (M.1, M.2.1, fun a j => if a = k ∧ j = i then x else M.2.2.1 a j, M.2.2.2)
def em_putR (M : em_M) (k i : Nat) (x : Option Nat) : em_M := (M.1, M.2.1, M.2.2.1, fun a j => if a = k ∧ j = i then x else M.2.2.2 a j)
def em_new (M : em_M) (kd n : Nat) : em_M := (M.1 ++ [(kd, n)], fun a j => if a = M.1.length then 0 else M.2.1 a j, fun a j => if a = M.1.length then 0 else M.2.2.1 a j, fun a j => if a = M.1.length then none else M.2.2.2 a j)
def em_cpy (M : em_M) (a0 a sp dp n : Nat) : em_M := (M.1, fun k j => if k = a then va_cpy (M.2.1 a0) (M.2.1 a) sp dp n j else M.2.1 k j, M.2.2.1, M.2.2.2)
def em_fv (M : em_M) (a t f : Nat) : Value := if t = 2 then va_rf (M.2.2.2 a f) else .int (M.2.1 a f)
def em_put (M : em_M) (a t f : Nat) (v : Value) : Option em_M := match v with
  | .int x => if t = 0 ∨ (t = 1 ∧ (x = 0 ∨ x = 1)) then some (em_putI M a f x) else none
  | .ref b => if t = 2 then some (em_putR M a f (some b)) else none
  | _ => none
def em_kl (lc : em_L) (i : Nat) : em_L := match i with
  | 0 => lc
  | j + 1 => match lc[j]? with
    | some (some v) => if v.category = 2 then lc.set j none else lc
    | _ => lc
def em_s1 (lc : em_L) (i : Nat) (v : Value) : em_L := (em_kl lc i).set i (some v)
def em_s2 (lc : em_L) (i : Nat) (v : Value) : em_L := ((em_kl lc i).set i (some v)).set (i + 1) none
def em_la : List Value → em_L
  | [] => []
  | v :: vs => if v.category = 2 then some v :: none :: em_la vs else some v :: em_la vs
def em_loc (y : Nat) (as : List Value) : em_L := em_la as ++ List.replicate (em_mx y - (em_la as).length) none
def em_cz (c : ClassFile.Cond) (x : Int32) : Bool := match c with
  | .eq => decide (x = 0)
  | .ne => decide (¬ x = 0)
  | .lt => decide (x < 0)
  | .ge => decide (0 ≤ x)
  | .gt => decide (0 < x)
  | .le => decide (x ≤ 0)
def em_cc (c : ClassFile.Cond) (x y : Int32) : Bool := match c with
  | .eq => decide (x = y)
  | .ne => decide (¬ x = y)
  | .lt => decide (x < y)
  | .ge => decide (y ≤ x)
  | .gt => decide (y < x)
  | .le => decide (x ≤ y)
def em_in (i : Int32) (n : Nat) : Bool := !(decide (i < 0) || decide (n ≤ i.toNatClampNeg))
def em_ak (t : ArrayType) : Nat := match t with
  | .int => 20
  | .byte => 21
  | .boolean => 22
  | .long => 23
  | _ => 0
def em_b2 (nx : Nat) (lc : em_L) (st : List Value) (M : em_M) (f : Int32 → Int32 → Int32) : Option em_C := match st with
  | .int y :: .int x :: r => some (.inl (nx, lc, .int (f x y) :: r, M))
  | _ => none
def em_l2 (nx : Nat) (lc : em_L) (st : List Value) (M : em_M) (f : Int64 → Int64 → Value) : Option em_C := match st with
  | .long y :: .long x :: r => some (.inl (nx, lc, f x y :: r, M))
  | _ => none
def em_b1 (nx : Nat) (lc : em_L) (st : List Value) (M : em_M) (f : Int32 → Value) : Option em_C := match st with
  | .int x :: r => some (.inl (nx, lc, f x :: r, M))
  | _ => none
/-- a call of y with na values of the stack; kinds k1 or k2 of the link -/
def em_inv (nx : Nat) (st : List Value) (y na : Nat) : Option em_C :=
  if na ≤ st.length ∧ ((st.drop na).map (fun v => v.category)).sum ≤ 8 ∧ (em_la (st.take na).reverse).length ≤ em_mx y then some (.inr (.inl (y, nx, (st.take na).reverse, st.drop na))) else none
/-- the receiver is an object of the callee's class -/
def em_rcv (M : em_M) (st : List Value) (na ci : Nat) : Bool := match st[na]? with
  | some (.ref a) => match M.1[a]? with
    | some (kd, _) => Nat.beq kd ci && Nat.blt ci 13
    | none => false
  | some (.retAddr j) => Nat.blt j 2 && Nat.beq ci em_strc
  | _ => false
def em_acp (nx : Nat) (lc : em_L) (st : List Value) (M : em_M) : Option em_C := match st with
  | .int n :: .int dp :: .ref a :: .int sp :: .ref a0 :: r => match M.1[a0]?, M.1[a]? with
    | some (k0, n0), some (k1, n1) => if (k0 = 20 ∧ k1 = 20) ∧ (¬ sp < 0 ∧ ¬ dp < 0 ∧ ¬ n < 0) ∧ sp.toNatClampNeg + n.toNatClampNeg ≤ n0 ∧ dp.toNatClampNeg + n.toNatClampNeg ≤ n1 ∧ r.length ≤ 4 then some (.inl (nx, lc, r, em_cpy M a0 a sp.toNatClampNeg dp.toNatClampNeg n.toNatClampNeg)) else none
    | _, _ => none
  | _ => none
def em_mm (nx : Nat) (lc : em_L) (st : List Value) (M : em_M) (f : Int32 → Int32 → Int32) : Option em_C := match st with
  | .int y :: .int x :: r => if r.length ≤ 4 then some (.inl (nx, lc, .int (f x y) :: r, M)) else none
  | _ => none
/-- the script is given apart; only the law reads it -/
def em_do (sc : Nat × (Nat → Int32)) (ix : Nat) (i : Instr) (nx : Nat) (lc : em_L) (st : List Value) (M : em_M) : Option em_C :=
  match i with
  | .iconst n => some (.inl (nx, lc, .int (Int32.ofInt n) :: st, M))
  | .lconst n => some (.inl (nx, lc, .long (Int64.ofNat n.val) :: st, M))
  | .ldc2_w k => match em_csl (em_own ix) k with
    | some (v, _) => some (.inl (nx, lc, .long v :: st, M))
    | none => none
  | .iload k => match lc[k]? with
    | some (some (.int x)) => some (.inl (nx, lc, .int x :: st, M))
    | _ => none
  | .lload k => match lc[k]? with
    | some (some (.long x)) => some (.inl (nx, lc, .long x :: st, M))
    | _ => none
  | .aload k => match lc[k]? with
    | some (some (.ref x)) => some (.inl (nx, lc, .ref x :: st, M))
    | some (some (.retAddr x)) => some (.inl (nx, lc, .retAddr x :: st, M))
    | _ => none
  | .ldc k => match em_str (em_own ix) k with
    | some j => some (.inl (nx, lc, .retAddr j :: st, M))
    | none => none
  | .getstatic k => match em_sfl (em_own ix) k with
    | some (2, _) => some (.inl (nx, lc, .int 1 :: st, M))
    | some (3, _) => some (.inl (nx, lc, .retAddr 4 :: st, M))
    | _ => none
  | .pop => match st with
    | v :: r => if v.category = 1 then some (.inl (nx, lc, r, M)) else none
    | _ => none
  | .istore k => match st with
    | .int x :: r => if k < lc.length then some (.inl (nx, em_s1 lc k (.int x), r, M)) else none
    | _ => none
  | .astore k => match st with
    | .ref x :: r => if k < lc.length then some (.inl (nx, em_s1 lc k (.ref x), r, M)) else none
    | _ => none
  | .lstore k => match st with
    | .long x :: r => if k + 1 < lc.length then some (.inl (nx, em_s2 lc k (.long x), r, M)) else none
    | _ => none
  | .iinc k n => match lc[k]? with
    | some (some (.int x)) => some (.inl (nx, em_s1 lc k (.int (x + Int32.ofInt n)), st, M))
    | _ => none
  | .iadd => em_b2 nx lc st M (fun x y => x + y)
  | .isub => em_b2 nx lc st M (fun x y => x - y)
  | .imul => em_b2 nx lc st M (fun x y => x * y)
  | .iand => em_b2 nx lc st M (fun x y => x &&& y)
  | .ior => em_b2 nx lc st M (fun x y => x ||| y)
  | .ixor => em_b2 nx lc st M (fun x y => x ^^^ y)
  | .ishl => em_b2 nx lc st M (fun x y => x <<< (y &&& 31))
  | .ishr => em_b2 nx lc st M (fun x y => x >>> (y &&& 31))
  | .iushr => em_b2 nx lc st M (fun x y => (x.toUInt32 >>> (y.toUInt32 &&& Int32.toUInt32 31)).toInt32)
  | .idiv => match st with
    | .int y :: .int x :: r => if y = 0 then none else some (.inl (nx, lc, .int (x / y) :: r, M))
    | _ => none
  | .irem => match st with
    | .int y :: .int x :: r => if y = 0 then none else some (.inl (nx, lc, .int (x - x / y * y) :: r, M))
    | _ => none
  | .ineg => em_b1 nx lc st M (fun x => .int (-x))
  | .i2l => em_b1 nx lc st M (fun x => .long x.toInt64)
  | .i2b => em_b1 nx lc st M (fun x => .int x.toInt8.toInt32)
  | .i2c => em_b1 nx lc st M (fun x => .int (x.toUInt32 % 65536).toInt32)
  | .l2i => match st with
    | .long x :: r => some (.inl (nx, lc, .int x.toInt32 :: r, M))
    | _ => none
  | .ladd => em_l2 nx lc st M (fun x y => .long (x + y))
  | .lsub => em_l2 nx lc st M (fun x y => .long (x - y))
  | .lmul => em_l2 nx lc st M (fun x y => .long (x * y))
  | .lcmp => em_l2 nx lc st M (fun x y => .int (lg_cmp x y))
  | .dup => match st with
    | v :: r => if v.category = 1 then some (.inl (nx, lc, v :: v :: r, M)) else none
    | _ => none
  | .dup2 => match st with
    | v :: w :: r => if v.category = 1 ∧ w.category = 1 then some (.inl (nx, lc, v :: w :: v :: w :: r, M)) else none
    | _ => none
  | .goto t => some (.inl (t.toNat, lc, st, M))
  | .ifCond c t => match st with
    | .int x :: r => some (.inl (cond (em_cz c x) t.toNat nx, lc, r, M))
    | _ => none
  | .if_icmp c t => match st with
    | .int y :: .int x :: r => some (.inl (cond (em_cc c x y) t.toNat nx, lc, r, M))
    | _ => none
  | .tableswitch d lo hi offs => match st with
    | .int x :: r => if x.toInt < lo ∨ hi < x.toInt then some (.inl (d.toNat, lc, r, M)) else match offs[(x.toInt - lo).toNat]? with
      | some o => some (.inl (o.toNat, lc, r, M))
      | none => none
    | _ => none
  | .lookupswitch d ps => match st with
    | .int x :: r => some (.inl ((Op.lookupswitch.offset ps.toList d x.toInt).toNat, lc, r, M))
    | _ => none
  | .getfield k => match st with
    | .ref a :: r => match em_fld (em_own ix) k, M.1[a]? with
      | some (ci, f, t, _), some (kd, _) => if kd = ci then some (.inl (nx, lc, em_fv M a t f :: r, M)) else none
      | _, _ => none
    | .retAddr j :: r => match em_sfl (em_own ix) k with
      | some (0, _) => if j < 2 then some (.inl (nx, lc, .retAddr (j + 2) :: r, M)) else none
      | some (1, _) => if j < 2 then some (.inl (nx, lc, .int 0 :: r, M)) else none
      | _ => none
    | _ => none
  | .putfield k => match st with
    | v :: .ref a :: r => match em_fld (em_own ix) k, M.1[a]? with
      | some (ci, f, t, fin), some (kd, _) => if kd = ci ∧ (fin = true → em_isi ix = true ∧ em_own ix = ci) then match em_put M a t f v with
          | some M' => some (.inl (nx, lc, r, M'))
          | none => none
        else none
      | _, _ => none
    | _ => none
  | .iaload => match st with
    | .int i :: .ref a :: r => match M.1[a]? with
      | some (kd, n) => if kd = 20 ∧ em_in i n = true then some (.inl (nx, lc, .int (M.2.1 a i.toNatClampNeg) :: r, M)) else if (kd = 30 ∧ ix = em_law) ∧ em_in i sc.1 = true then some (.inl (nx, lc, .int (sc.2 i.toNatClampNeg) :: r, M)) else none
      | none => none
    | _ => none
  | .baload => match st with
    | .int i :: .ref a :: r => match M.1[a]? with
      | some (kd, n) => if (kd = 21 ∨ kd = 22) ∧ em_in i n = true then some (.inl (nx, lc, .int (M.2.1 a i.toNatClampNeg) :: r, M)) else none
      | none => none
    | .int i :: .retAddr j :: r => if (2 ≤ j ∧ j < 4) ∧ em_in i (em_len.getD (j - 2) 0) = true then some (.inl (nx, lc, .int ((em_byt.getD (j - 2) []).getD i.toNatClampNeg 0) :: r, M)) else none
    | _ => none
  | .laload => match st with
    | .int i :: .ref a :: r => match M.1[a]? with
      | some (kd, n) => if kd = 23 ∧ em_in i n = true then some (.inl (nx, lc, .long (M.2.2.1 a i.toNatClampNeg) :: r, M)) else none
      | none => none
    | _ => none
  | .aaload => match st with
    | .int i :: .ref a :: r => match M.1[a]? with
      | some (kd, n) => if kd = 24 ∧ em_in i n = true then some (.inl (nx, lc, va_rf (M.2.2.2 a i.toNatClampNeg) :: r, M)) else none
      | none => none
    | _ => none
  | .iastore => match st with
    | .int x :: .int i :: .ref a :: r => match M.1[a]? with
      | some (kd, n) => if kd = 20 ∧ em_in i n = true then some (.inl (nx, lc, r, em_putI M a i.toNatClampNeg x)) else none
      | none => none
    | _ => none
  | .bastore => match st with
    | .int x :: .int i :: .ref a :: r => match M.1[a]? with
      | some (kd, n) => if (kd = 21 ∨ kd = 22) ∧ em_in i n = true then some (.inl (nx, lc, r, em_putI M a i.toNatClampNeg (if kd = 21 then vp_nar .byte x else vp_nar .boolean x))) else none
      | none => none
    | _ => none
  | .lastore => match st with
    | .long x :: .int i :: .ref a :: r => match M.1[a]? with
      | some (kd, n) => if kd = 23 ∧ em_in i n = true then some (.inl (nx, lc, r, em_putJ M a i.toNatClampNeg x)) else none
      | none => none
    | _ => none
  | .aastore => match st with
    | .ref b :: .int i :: .ref a :: r => match M.1[a]?, M.1[b]? with
      | some (kd, n), some (kb, _) => if kd = 24 ∧ kb = 3 ∧ em_in i n = true then some (.inl (nx, lc, r, em_putR M a i.toNatClampNeg (some b))) else none
      | _, _ => none
    | _ => none
  | .arraylength => match st with
    | .ref a :: r => match M.1[a]? with
      | some (kd, n) => if 20 ≤ kd ∧ kd ≤ 24 then some (.inl (nx, lc, .int (Int32.ofNat n) :: r, M)) else if kd = 30 ∧ ix = em_law then some (.inl (nx, lc, .int (Int32.ofNat sc.1) :: r, M)) else none
      | none => none
    | .retAddr j :: r => if 2 ≤ j ∧ j < 4 then some (.inl (nx, lc, .int (Int32.ofNat (em_len.getD (j - 2) 0)) :: r, M)) else none
    | _ => none
  | .newarray t => match st with
    | .int n :: r => if em_ak t ≠ 0 ∧ ¬ n < 0 ∧ n.toNatClampNeg ≤ 100000 then some (.inl (nx, lc, .ref M.1.length :: r, em_new M (em_ak t) n.toNatClampNeg)) else none
    | _ => none
  | .anewarray k => match st with
    | .int n :: r => if em_cls (em_own ix) k = some 3 ∧ ¬ n < 0 ∧ n.toNatClampNeg ≤ 100000 then some (.inl (nx, lc, .ref M.1.length :: r, em_new M 24 n.toNatClampNeg)) else none
    | _ => none
  | .new k => match em_cls (em_own ix) k with
    | some ci => some (.inl (nx, lc, .ref M.1.length :: st, em_new M ci (em_nf ci)))
    | none => none
  | .invokevirtual k => match em_mth (em_own ix) k with
    | some (kd, y) => if lc.length = em_mx ix ∧ (kd = 0 ∨ kd = 3) ∧ em_rcv M st (em_na y) (em_own y) = true then em_inv nx st y (em_na y + 1) else none
    | none => none
  | .invokestatic k => match em_mth (em_own ix) k with
    | some (kd, y) => if ¬ lc.length = em_mx ix then none else if kd = 9 then em_acp nx lc st M else if kd = 6 then em_mm nx lc st M (fun x y => if x < y then y else x) else if kd = 7 then em_mm nx lc st M (fun x y => if y < x then y else x) else if kd = 1 ∨ kd = 4 then em_inv nx st y (em_na y) else none
    | none => none
  | .invokespecial k => match em_mth (em_own ix) k with
    | some (kd, y) => if ¬ lc.length = em_mx ix then none else if kd = 8 then (match st with
        | .ref _ :: r => if r.length ≤ 4 then some (.inl (nx, lc, r, M)) else none
        | _ => none) else if (kd = 2 ∨ kd = 5) ∧ em_rcv M st (em_na y) (em_own y) = true then em_inv nx st y (em_na y + 1) else none
    | none => none
  | .ireturn => match st with
    | [.int v] => if em_rt ix = some .int ∨ (em_rt ix = some .boolean ∧ (v = 0 ∨ v = 1)) ∨ (em_rt ix = some .byte ∧ vp_nar .byte v = v) ∨ (em_rt ix = some .char ∧ vp_nar .char v = v) then some (.inr (.inr (some (.int v)))) else none
    | _ => none
  | .lreturn => match st with
    | [.long v] => if em_rt ix = some .long then some (.inr (.inr (some (.long v)))) else none
    | _ => none
  | .areturn => match st with
    | [.ref v] => if em_rt ix = some (.object RX1) then some (.inr (.inr (some (.ref v)))) else none
    | _ => none
  | .return_ => match st with
    | [] => if em_rt ix = none then some (.inr (.inr none)) else none
    | _ => none
  | _ => none
def em_stp (sc : Nat × (Nat → Int32)) (ix pc : Nat) (lc : em_L) (st : List Value) (M : em_M) : Option em_C := match em_ins ix pc with
  | none => none
  | some (i, nx) => em_do sc ix i nx lc st M
def em_sc0 : Nat × (Nat → Int32) := (0, fun _ => 0)
def em_run : Nat × (Nat → Int32) → Nat → Nat → Nat → Nat → em_L → List Value → em_M → Option (Option Value × em_M)
  | _, 0, _, _, _, _, _, _ => none
  | sc, n + 1, d, ix, pc, lc, st, M => match em_stp sc ix pc lc st M with
    | none => none
    | some (.inl (pc', lc', st', M')) => em_run sc n d ix pc' lc' st' M'
    | some (.inr (.inl (y, nx, as, rest))) => match d with
      | 0 => none
      | d' + 1 => match em_run em_sc0 n d' y 0 (em_loc y as) [] M with
        | none => none
        | some (r, M') => em_run sc n (d' + 1) ix nx lc (r.toList ++ rest) M'
    | some (.inr (.inr r)) => some (r, M)
/-- it ends so -/
def em_wp (sc : Nat × (Nat → Int32)) (d ix pc : Nat) (lc : em_L) (st : List Value) (M : em_M) (Q : Option Value → em_M → Prop) : Prop := ∃ n r M', em_run sc n d ix pc lc st M = some (r, M') ∧ Q r M'
def em_call (d y : Nat) (as : List Value) (M : em_M) (Q : Option Value → em_M → Prop) : Prop := em_wp em_sc0 d y 0 (em_loc y as) [] M Q
theorem em_more {sc : Nat × (Nat → Int32)} {n d ix pc : Nat} {lc : em_L} {st : List Value} {M : em_M} {x : Option Value × em_M} (h : em_run sc n d ix pc lc st M = some x) : em_run sc (n + 1) d ix pc lc st M = some x := by
  induction n generalizing sc d ix pc lc st M x with
  | zero => cases h
  | succ n ih =>
    rw [em_run] at h ⊢
    cases hs : em_stp sc ix pc lc st M with
    | none => rw [hs] at h; cases h
    | some q =>
      rw [hs] at h
      match q, h with
      | .inl (pc', lc', st', M'), h => exact ih h
      | .inr (.inl (y, nx, as, rest)), h =>
        match d, h with
        | 0, h => cases h
        | d' + 1, h =>
          dsimp only at h ⊢
          cases hc : em_run em_sc0 n d' y 0 (em_loc y as) [] M with
          | none => rw [hc] at h; cases h
          | some q =>
            obtain ⟨r, M'⟩ := q
            rw [hc] at h
            rw [ih hc]
            exact ih h
      | .inr (.inr r), h => exact h
theorem em_le {sc : Nat × (Nat → Int32)} {n k d ix pc : Nat} {lc : em_L} {st : List Value} {M : em_M} {x : Option Value × em_M} (hk : n ≤ k) (h : em_run sc n d ix pc lc st M = some x) : em_run sc k d ix pc lc st M = some x := by
  induction hk with
  | refl => exact h
  | step _ ih => exact em_more ih
theorem em_next {sc : Nat × (Nat → Int32)} {d ix pc pc' : Nat} {lc lc' : em_L} {st st' : List Value} {M M' : em_M} {Q : Option Value → em_M → Prop} (h : em_stp sc ix pc lc st M = some (.inl (pc', lc', st', M'))) (k : em_wp sc d ix pc' lc' st' M' Q) : em_wp sc d ix pc lc st M Q := by
  obtain ⟨n, r, M1, h1, h2⟩ := k
  exact ⟨n + 1, r, M1, by rw [em_run, h]; exact h1, h2⟩
theorem em_inv_call {sc : Nat × (Nat → Int32)} {d ix pc y nx : Nat} {lc : em_L} {st as rest : List Value} {M : em_M} {Q : Option Value → em_M → Prop} (h : em_stp sc ix pc lc st M = some (.inr (.inl (y, nx, as, rest)))) (k : em_call d y as M (fun r M' => em_wp sc (d + 1) ix nx lc (r.toList ++ rest) M' Q)) : em_wp sc (d + 1) ix pc lc st M Q := by
  obtain ⟨n, r, M1, h1, n2, r2, M2, h2, h3⟩ := k
  refine ⟨n + n2 + 1, r2, M2, ?_, h3⟩
  rw [em_run, h]
  dsimp only
  rw [em_le (Nat.le_add_right n n2) h1]
  exact em_le (Nat.le_add_left n2 n) h2
theorem em_done {sc : Nat × (Nat → Int32)} {d ix pc : Nat} {lc : em_L} {st : List Value} {M : em_M} {r : Option Value} {Q : Option Value → em_M → Prop} (h : em_stp sc ix pc lc st M = some (.inr (.inr r))) (k : Q r M) : em_wp sc d ix pc lc st M Q := ⟨1, r, M, by rw [em_run, h], k⟩
theorem em_conseq {d y : Nat} {as : List Value} {M : em_M} {Q Q' : Option Value → em_M → Prop} (h : em_call d y as M Q) (k : ∀ r M', Q r M' → Q' r M') : em_call d y as M Q' := by
  obtain ⟨n, r, M1, h1, h2⟩ := h
  exact ⟨n, r, M1, h1, k r M1 h2⟩
theorem em_deeper {sc : Nat × (Nat → Int32)} {n d k ix pc : Nat} {lc : em_L} {st : List Value} {M : em_M} {x : Option Value × em_M} (h : em_run sc n d ix pc lc st M = some x) : em_run sc n (d + k) ix pc lc st M = some x := by
  induction n generalizing sc d ix pc lc st M x with
  | zero => cases h
  | succ n ih =>
    rw [em_run] at h ⊢
    cases hs : em_stp sc ix pc lc st M with
    | none => rw [hs] at h; cases h
    | some q =>
      rw [hs] at h
      match q, h with
      | .inl (pc', lc', st', M'), h => exact ih h
      | .inr (.inl (y, nx, as, rest)), h =>
        match d, h with
        | 0, h => cases h
        | d' + 1, h =>
          have e : d' + 1 + k = (d' + k) + 1 := by omega
          rw [e]
          dsimp only at h ⊢
          cases hc : em_run em_sc0 n d' y 0 (em_loc y as) [] M with
          | none => rw [hc] at h; cases h
          | some q =>
            obtain ⟨r, M'⟩ := q
            rw [hc] at h
            rw [ih hc]
            have := ih (d := d' + 1) h
            rw [e] at this
            exact this
      | .inr (.inr r), h => exact h
theorem em_call_deeper {d k y : Nat} {as : List Value} {M : em_M} {Q : Option Value → em_M → Prop} (h : em_call d y as M Q) : em_call (d + k) y as M Q := by
  obtain ⟨n, r, M1, h1, h2⟩ := h
  exact ⟨n, r, M1, em_deeper h1, h2⟩
