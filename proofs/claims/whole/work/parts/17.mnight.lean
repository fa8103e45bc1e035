/-! the reference: a bed's face, its laws -/
def em_u (I : Nat → Nat → Int32) (a j : Nat) (x : Int32) : Nat → Nat → Int32 := fun a' j' => if a' = a ∧ j' = j then x else I a' j'
theorem em_u_row {I : Nat → Nat → Int32} {a j b : Nat} {x : Int32} (h : b ≠ a) : em_u I a j x b = I b := by
  funext k
  exact if_neg (fun q => h q.1)
theorem em_u_self {I : Nat → Nat → Int32} {a j : Nat} {x : Int32} : em_u I a j x a j = x := if_pos ⟨rfl, rfl⟩
theorem em_u_ne {I : Nat → Nat → Int32} {a j k : Nat} {x : Int32} (h : k ≠ j) : em_u I a j x a k = I a k := if_neg (fun q => h q.2)
section EMP2
variable {sc : Nat × (Nat → Int32)} {d ix pc nx : Nat} {lc : em_L} {st r : List Value} {S : List (Nat × Nat)} {I : Nat → Nat → Int32} {J : Nat → Nat → Int64} {R : Nat → Nat → Option Nat} {Q : Option Value → em_M → Prop}
theorem em_ialk {i : Int32} {a n k : Nat} (hi : em_ins ix pc = some (.iaload, nx)) (hs : S[a]? = some (20, n)) (hin : em_in i n = true) (hk : i.toNatClampNeg = k) (kk : em_wp sc d ix nx lc (.int (I a k) :: r) (S, I, J, R) Q) : em_wp sc d ix pc lc (.int i :: .ref a :: r) (S, I, J, R) Q := by
  subst hk
  exact em_iald hi hs hin kk
theorem em_iask {i x : Int32} {a n k : Nat} (hi : em_ins ix pc = some (.iastore, nx)) (hs : S[a]? = some (20, n)) (hin : em_in i n = true) (hk : i.toNatClampNeg = k) (kk : em_wp sc d ix nx lc r (S, em_u I a k x, J, R) Q) : em_wp sc d ix pc lc (.int x :: .int i :: .ref a :: r) (S, I, J, R) Q := by
  subst hk
  exact em_iast hi hs hin kk
/-- places of an array by numbers -/
theorem em_ialn {a n k : Nat} (hi : em_ins ix pc = some (.iaload, nx)) (hs : S[a]? = some (20, n)) (hk : k < n) (hn : n < 2 ^ 31) (kk : em_wp sc d ix nx lc (.int (I a k) :: r) (S, I, J, R) Q) : em_wp sc d ix pc lc (.int (nI k) :: .ref a :: r) (S, I, J, R) Q := em_ialk hi hs (em_in_n hk hn) (nI_clamp (by omega)) kk
theorem em_iasn {x : Int32} {a n k : Nat} (hi : em_ins ix pc = some (.iastore, nx)) (hs : S[a]? = some (20, n)) (hk : k < n) (hn : n < 2 ^ 31) (kk : em_wp sc d ix nx lc r (S, em_u I a k x, J, R) Q) : em_wp sc d ix pc lc (.int x :: .int (nI k) :: .ref a :: r) (S, I, J, R) Q := em_iask hi hs (em_in_n hk hn) (nI_clamp (by omega)) kk
end EMP2
theorem em_nadd (a b : Nat) : nI (a + b) = nI a + nI b := by unfold nI; exact Int32.ofNat_add a b
theorem em_nmul (a b : Nat) : nI (a * b) = nI a * nI b := by unfold nI; exact Int32.ofNat_mul a b
theorem em_fM.row {I I' : Nat → Nat → Int32} {a : Nat} (ha : a ∈ [312, 313, 315, 316, 317]) (h : ∀ b, b ≠ a → I' b = I b) : em_fM I I' := fun b j g1 _ => by rw [h b (fun q => g1 (by rw [q]; exact ha))]
/-- how the reference's row lies -/
def mo_N (I : Nat → Nat → Int32) (n r h : Nat) (hab part : Nat → Int32) : Prop := (r < 2 ^ n ∧ h < 1000000 ∧ I 315 45 = nI h) ∧ ∀ b, b < n → I 315 b = em_bit r b ∧ I 315 (9 + b) = hab b ∧ I 315 (27 + b) = part b
theorem mo_N.keep {I I' : Nat → Nat → Int32} {n r h : Nat} {hab part : Nat → Int32} (hN : mo_N I n r h hab part) (he : I' 315 = I 315) : mo_N I' n r h hab part := by
  unfold mo_N
  rw [he]
  exact hN
def em_bf (n : Nat) (rg : Bool) (r b : Nat) : Int32 := if 0 < b then em_bit r (b - 1) else cond rg (em_bit r (n - 1)) 0
def em_bh (n : Nat) (rg : Bool) (r b : Nat) : Int32 := if b + 1 < n then em_bit r (b + 1) else cond rg (em_bit r 0) 0
/-- a bed's face: what its laws look at -/
def em_vr (n : Nat) (rg : Bool) (cold : Nat → Int32) (r h : Nat) (hab part : Nat → Int32) (b : Nat) : List Int32 := [em_bit r b, em_bf n rg r b, em_bh n rg r b, hab b, cold b, nI (h % 24), nI b, nI n, part b]
theorem em_bd1 : ∀ n, n < 10 → ∀ b, b < 9 → b < n → ((0 ≤ nI b - 1 ∧ nI b - 1 ≤ nI n - 1) ↔ 0 < b) := by decide +kernel
theorem em_bd2 : ∀ n, n < 10 → ∀ b, b < 9 → b < n → ((0 ≤ nI b + 1 ∧ nI b + 1 ≤ nI n - 1) ↔ b + 1 < n) := by decide +kernel
theorem em_pred {b : Nat} (h : 0 < b) : nI b - 1 = nI (b - 1) := by
  have e := nI_succ (b - 1)
  rw [show b - 1 + 1 = b by omega] at e
  rw [e, Int32.add_sub_cancel]
theorem em_rem24 {h : Nat} (hh : h < 1000000) : nI h - nI h / 24 * 24 = nI (h % 24) := by
  have h1 : (nI h).toInt = h := nI_toInt (by omega)
  have h2 : (nI h / 24).toInt = ((h / 24 : Nat) : Int) := by
    rw [Int32.toInt_div, h1]
    rw [show (24 : Int32).toInt = 24 from rfl]
    rw [show ((h : Int)).tdiv 24 = ((h / 24 : Nat) : Int) from rfl]
    rw [Int.bmod_eq_of_le] <;> omega
  have h3 : nI h / 24 = nI (h / 24) := Int32.toInt_inj.mp (by rw [h2, nI_toInt (by omega)])
  rw [h3, show (24 : Int32) = nI 24 from rfl, ← em_nmul]
  have e : h = h / 24 * 24 + h % 24 := by omega
  conv => lhs; arg 1; rw [e]
  rw [em_nadd, Int32.add_comm, Int32.add_sub_cancel]
section MN
variable {d lw lv n r hh : Nat} {rg : Bool} {cold hab part : Nat → Int32} {f : Nat → List Int32 → Int32} {I : Nat → Nat → Int32} {J : Nat → Nat → Int64} {M : em_M} {Q : Option Value → em_M → Prop}
theorem me_leftAt1 (hP : mo_P I lv n rg cold f) (hN : mo_N I n r hh hab part) {b : Nat} (hb : b < n) (h : Q (some (.int (em_bf n rg r b))) (em_SH, I, J, em_RT lw)) : em_call (d + 2) 213 [.ref 284, .int (nI b - 1)] (em_SH, I, J, em_RT lw) Q := by
  obtain ⟨h1, h2, h3, h4, h5⟩ := hP.1
  have hbd := em_bd1 n (by omega) b (by omega) hb
  iterate 2 refine em_next rfl ?_
  refine em_inv_call rfl (me_isBed hP ?_)
  iterate 1 refine em_next rfl ?_
  refine em_b_eq (fun g => ?_) (fun g => ?_)
  · rw [hbd] at g
    have e0 : b = 0 := by omega
    subst e0
    iterate 4 refine em_next rfl ?_
    refine em_ialk (i := I 284 18) (k := lv) rfl rfl (by rw [h3]; exact em_in_n h1 (by decide)) (by rw [h3]; exact nI_clamp (by omega)) ?_
    rw [h5]
    iterate 2 refine em_next rfl ?_
    cases rg with
    | false =>
      refine em_c_ne (fun _ => ?_) (fun q => absurd q (by decide))
      iterate 1 refine em_next rfl ?_
      exact em_done rfl h
    | true =>
      refine em_c_ne (fun q => absurd rfl q) (fun _ => ?_)
      iterate 1 refine em_next rfl ?_
      refine em_inv_call rfl (me_many hP ?_)
      iterate 1 refine em_next rfl ?_
      refine em_z_le (fun q => absurd q ?_) (fun _ => ?_)
      · rw [show (0 : Int32) = nI 0 from rfl]
        exact nI_ge hb (by omega)
      iterate 4 refine em_next rfl ?_
      refine em_z_ge (fun q => absurd q (by decide)) (fun _ => ?_)
      iterate 1 refine em_next rfl ?_
      refine em_inv_call rfl (me_many hP ?_)
      iterate 3 refine em_next rfl ?_
      refine em_ialk (i := nI n - 1) (k := n - 1) rfl rfl (by rw [em_pred hb]; exact em_in_n (by omega) (by decide)) (by rw [em_pred hb]; exact nI_clamp (by omega)) ?_
      iterate 1 refine em_next rfl ?_
      refine em_done rfl ?_
      rw [(hN.2 (n - 1) (by omega)).1]
      exact h
  · rw [hbd] at g
    iterate 3 refine em_next rfl ?_
    refine em_ialk (k := b - 1) rfl rfl (by rw [em_pred g]; exact em_in_n (by omega) (by decide)) (by rw [em_pred g]; exact nI_clamp (by omega)) ?_
    refine em_done rfl ?_
    rw [(hN.2 (b - 1) (by omega)).1]
    unfold em_bf at h
    rw [if_pos g] at h
    exact h
theorem me_leftAt2 (hP : mo_P I lv n rg cold f) (hN : mo_N I n r hh hab part) {b : Nat} (hb : b < n) (h : Q (some (.int (em_bh n rg r b))) (em_SH, I, J, em_RT lw)) : em_call (d + 2) 213 [.ref 284, .int (nI b + 1)] (em_SH, I, J, em_RT lw) Q := by
  obtain ⟨h1, h2, h3, h4, h5⟩ := hP.1
  have hbd := em_bd2 n (by omega) b (by omega) hb
  iterate 2 refine em_next rfl ?_
  refine em_inv_call rfl (me_isBed hP ?_)
  iterate 1 refine em_next rfl ?_
  refine em_b_eq (fun g => ?_) (fun g => ?_)
  · rw [hbd] at g
    unfold em_bh at h
    rw [if_neg g] at h
    iterate 4 refine em_next rfl ?_
    refine em_ialk (i := I 284 18) (k := lv) rfl rfl (by rw [h3]; exact em_in_n h1 (by decide)) (by rw [h3]; exact nI_clamp (by omega)) ?_
    rw [h5]
    iterate 2 refine em_next rfl ?_
    cases rg with
    | false =>
      refine em_c_ne (fun _ => ?_) (fun q => absurd q (by decide))
      iterate 1 refine em_next rfl ?_
      exact em_done rfl h
    | true =>
      refine em_c_ne (fun q => absurd rfl q) (fun _ => ?_)
      iterate 1 refine em_next rfl ?_
      refine em_inv_call rfl (me_many hP ?_)
      iterate 1 refine em_next rfl ?_
      refine em_z_le (fun q => absurd q ?_) (fun _ => ?_)
      · rw [show (0 : Int32) = nI 0 from rfl]
        exact nI_ge (by omega) (by omega)
      iterate 4 refine em_next rfl ?_
      refine em_z_ge (fun _ => ?_) (fun q => absurd ?_ q)
      · iterate 1 refine em_next rfl ?_
        refine em_ialk (k := 0) rfl rfl (by decide) rfl ?_
        iterate 1 refine em_next rfl ?_
        refine em_done rfl ?_
        rw [(hN.2 0 (by omega)).1]
        exact h
      · rw [← nI_succ]
        exact nI_pos' (by omega)
  · rw [hbd] at g
    unfold em_bh at h
    rw [if_pos g] at h
    iterate 3 refine em_next rfl ?_
    refine em_ialk (k := b + 1) rfl rfl (by rw [← nI_succ]; exact em_in_n (by omega) (by decide)) (by rw [← nI_succ]; exact nI_clamp (by omega)) ?_
    refine em_done rfl ?_
    rw [(hN.2 (b + 1) (by omega)).1]
    exact h
end MN
