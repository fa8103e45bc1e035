/-! the reference: its questions, three -/
/-- the first that is least, of those meant -/
def em_ai (p : Nat → Bool) (v : Nat → Nat) : Nat → Option Nat
  | 0 => none
  | k + 1 => match em_ai p v k with
    | none => if p k then some k else none
    | some b => if p k && decide (v k < v b) then some k else some b
/-- the first that is most -/
def em_xi (v : Nat → Nat) : Nat → Option Nat
  | 0 => none
  | k + 1 => match em_xi v k with
    | none => some k
    | some b => if v b < v k then some k else some b
def em_ov (v : Nat → Nat) : Option Nat → Int32
  | none => -2
  | some b => nI (v b)
theorem em_ai_lt {p : Nat → Bool} {v : Nat → Nat} {k b : Nat} (h : em_ai p v k = some b) : b < k := by
  induction k generalizing b with
  | zero => cases h
  | succ k ih =>
    rw [em_ai] at h
    cases e : em_ai p v k with
    | none =>
      rw [e] at h
      dsimp only at h
      split at h
      · cases h; omega
      · cases h
    | some c =>
      rw [e] at h
      dsimp only at h
      have := ih e
      split at h
      · cases h; omega
      · cases h; omega
theorem em_ai_no {p : Nat → Bool} {v : Nat → Nat} {k : Nat} (h : p k = false) : em_ai p v (k + 1) = em_ai p v k := by
  rw [em_ai, h]
  cases em_ai p v k <;> rfl
theorem em_xi_lt {v : Nat → Nat} {k b : Nat} (h : em_xi v k = some b) : b < k := by
  induction k generalizing b with
  | zero => cases h
  | succ k ih =>
    rw [em_xi] at h
    cases e : em_xi v k with
    | none =>
      rw [e] at h
      cases h; omega
    | some c =>
      rw [e] at h
      dsimp only at h
      have := ih e
      split at h
      · cases h; omega
      · cases h; omega
def em_mxx (a : Nat) (v : Nat → Nat) : Nat → Nat
  | 0 => a
  | k + 1 => if em_mxx a v k < v k then v k else em_mxx a v k
theorem em_mxx_le {a n : Nat} {v : Nat → Nat} (ha : a ≤ n) (hv : ∀ b, v b ≤ n) (k : Nat) : em_mxx a v k ≤ n := by
  induction k with
  | zero => exact ha
  | succ k ih =>
    rw [em_mxx]
    have := hv k
    split <;> omega
def em_stays (P : em_Pl) (X : em_Nt) (s : Nat) : Bool := decide (em_R P X 1 s = s)
def em_near (P : em_Pl) (X : em_Nt) (k : Nat) : Option Nat := em_ai (em_stays P X) (fun s => em_pc (s ^^^ X.1)) k
def sp_still (P : em_Pl) (X : em_Nt) (w : Int32) : Int32 := if em_ok 0 1 w then (if w = 0 then nI (em_ct (2 ^ P.1) (em_stays P X)) else em_oi (em_near P X (2 ^ P.1))) else -1
/-- who is led to -/
def em_im (P : em_Pl) (X : em_Nt) (n : Nat) : Nat → Nat → Bool
  | 0, _ => false
  | k + 1, t => em_im P X n k t || decide (em_R P X n k = t)
def sp_eden (P : em_Pl) (X : em_Nt) (n : Int32) : Int32 := if em_ok 1 24 n then nI (em_ct (2 ^ P.1) (fun t => !em_im P X n.toNatClampNeg (2 ^ P.1) t)) else -1
def em_mw (P : em_Pl) (X : em_Nt) (n s : Nat) : Nat := em_mxx (em_pc (em_R P X n s)) (fun b => em_pc (em_R P X n (s ^^^ 2 ^ b))) P.1
def em_mwb (P : em_Pl) (X : em_Nt) (n b : Nat) : Nat := em_mw P X n (X.1 ^^^ 2 ^ b)
def sp_duel (P : em_Pl) (X : em_Nt) (n w : Int32) : Int32 := if em_ok 0 24 n ∧ em_ok 0 1 w then (if w = 0 then em_ov (em_mwb P X n.toNatClampNeg) (em_ai (fun _ => true) (em_mwb P X n.toNatClampNeg) P.1) else em_oi (em_ai (fun _ => true) (em_mwb P X n.toNatClampNeg) P.1)) else -1
def em_lf (P : em_Pl) (X : em_Nt) (n b : Nat) : Nat := em_pc (em_R P X n (X.1 ^^^ 2 ^ b))
def em_sv (P : em_Pl) (X : em_Nt) (n g : Nat) : Nat := match em_ai (fun b => decide (b ≠ g)) (em_lf P X n) P.1 with
  | none => em_pc (em_R P X n X.1)
  | some b => em_lf P X n b
def sp_sentry (P : em_Pl) (X : em_Nt) (n w : Int32) : Int32 := if em_ok 0 24 n ∧ em_ok 0 1 w then (if w = 0 then em_oi (em_xi (em_sv P X n.toNatClampNeg) P.1) else em_ov (em_sv P X n.toNatClampNeg) (em_xi (em_sv P X n.toNatClampNeg) P.1)) else -1
def sp_worst (P : em_Pl) (X : em_Nt) (n w : Int32) : Int32 := if em_ok 0 24 n ∧ em_ok 0 1 w then (if w = 0 then em_oi (em_ai (fun _ => true) (em_lf P X n.toNatClampNeg) P.1) else em_ov (em_lf P X n.toNatClampNeg) (em_ai (fun _ => true) (em_lf P X n.toNatClampNeg) P.1)) else -1
def em_pg (v : Nat → Int32) : Nat → Nat
  | 0 => 0
  | k + 1 => if v (em_pg v k) < v (k + 1) then k + 1 else em_pg v k
theorem em_pg_le (v : Nat → Int32) (k : Nat) : em_pg v k ≤ k := by
  induction k with
  | zero => exact Nat.le_refl _
  | succ k ih =>
    rw [em_pg]
    split <;> omega
def sp_parting (P : em_Pl) (X : em_Nt) (w : Int32) : Int32 := if em_ok 0 1 w ∧ ¬ P.1 = 0 then (if w = 0 then nI (em_pg X.2.2 (P.1 - 1)) else X.2.2 (em_pg X.2.2 (P.1 - 1))) else -100000
section EMP3
variable {sc : Nat × (Nat → Int32)} {d ix pc nx : Nat} {lc : em_L} {st r : List Value} {S : List (Nat × Nat)} {I : Nat → Nat → Int32} {J : Nat → Nat → Int64} {R : Nat → Nat → Option Nat} {Q : Option Value → em_M → Prop}
theorem em_balk {i : Int32} {a n k : Nat} (hi : em_ins ix pc = some (.baload, nx)) (hs : S[a]? = some (22, n)) (hin : em_in i n = true) (hk : i.toNatClampNeg = k) (kk : em_wp sc d ix nx lc (.int (I a k) :: r) (S, I, J, R) Q) : em_wp sc d ix pc lc (.int i :: .ref a :: r) (S, I, J, R) Q := by
  subst hk
  refine em_next ?_ kk
  unfold em_stp
  rw [hi]
  unfold em_do
  dsimp only
  rw [hs]
  dsimp only
  rw [if_pos ⟨Or.inr rfl, hin⟩]
theorem em_bask {i x y : Int32} {a n k : Nat} (hi : em_ins ix pc = some (.bastore, nx)) (hs : S[a]? = some (22, n)) (hin : em_in i n = true) (hk : i.toNatClampNeg = k) (hy : vp_nar .boolean x = y) (kk : em_wp sc d ix nx lc r (S, em_u I a k y, J, R) Q) : em_wp sc d ix pc lc (.int x :: .int i :: .ref a :: r) (S, I, J, R) Q := by
  subst hk
  subst hy
  refine em_next ?_ kk
  unfold em_stp
  rw [hi]
  unfold em_do
  dsimp only
  rw [hs]
  dsimp only
  rw [if_pos ⟨Or.inr rfl, hin⟩]
  rfl
theorem em_baln {a n k : Nat} (hi : em_ins ix pc = some (.baload, nx)) (hs : S[a]? = some (22, n)) (hk : k < n) (hn : n < 2 ^ 31) (kk : em_wp sc d ix nx lc (.int (I a k) :: r) (S, I, J, R) Q) : em_wp sc d ix pc lc (.int (nI k) :: .ref a :: r) (S, I, J, R) Q := em_balk hi hs (em_in_n hk hn) (nI_clamp (by omega)) kk
theorem em_basn {x y : Int32} {a n k : Nat} (hi : em_ins ix pc = some (.bastore, nx)) (hs : S[a]? = some (22, n)) (hk : k < n) (hn : n < 2 ^ 31) (hy : vp_nar .boolean x = y) (kk : em_wp sc d ix nx lc r (S, em_u I a k y, J, R) Q) : em_wp sc d ix pc lc (.int x :: .int (nI k) :: .ref a :: r) (S, I, J, R) Q := em_bask hi hs (em_in_n hk hn) (nI_clamp (by omega)) hy kk
end EMP3
section MQ3
variable {d lw lv : Nat} {P : em_Pl} {X Y : em_Nt} {I I0 : Nat → Nat → Int32} {J : Nat → Nat → Int64} {M : em_M} {Q : Option Value → em_M → Prop} {stl : Bool} {sd : Int32}
theorem me_still_l (hS : mo_S I lv P X) {w : Int32} {k m : Nat} (hk : k + m = 2 ^ P.1) (h : ∀ I' : Nat → Nat → Int32, em_fM I I' → Q (some (.int (if w = 0 then nI (em_ct (2 ^ P.1) (em_stays P X)) else em_oi (em_near P X (2 ^ P.1))))) (em_SH, I', J, em_RT lw)) : em_wp em_sc0 (d + 8) 262 19 [some (.ref 284), some (.int (w)), some (.int (nI (em_ct k (em_stays P X)))), some (.int (em_oi (em_near P X k))), some (.int (nI k))] [] (em_SH, I, J, em_RT lw) Q := by
  have hn := hS.1.1.2.1
  have hr := hS.2.1.1.1
  have hp9 := em_pow9 hn
  have hp := Nat.two_pow_pos P.1
  induction m generalizing k I with
  | zero =>
    have e : k = 2 ^ P.1 := by omega
    subst e
    iterate 2 refine em_next rfl ?_
    refine em_inv_call rfl (me_allBits hS.1 ?_)
    iterate 1 refine em_next rfl ?_
    refine em_c_gt (fun _ => ?_) (fun h1 => absurd (nI_lt (by omega) (by omega)) h1)
    iterate 2 refine em_next rfl ?_
    have g := h I em_fM.rf
    refine em_z_ne (fun z => ?_) (fun z => ?_)
    · rw [if_neg z] at g
      iterate 1 refine em_next rfl ?_
      exact em_done rfl g
    · rw [if_pos z] at g
      iterate 2 refine em_next rfl ?_
      exact em_done rfl g
  | succ m ih =>
    iterate 2 refine em_next rfl ?_
    refine em_inv_call rfl (me_allBits hS.1 ?_)
    iterate 1 refine em_next rfl ?_
    refine em_c_gt (fun h1 => absurd h1 (nI_nlt (by omega) (by omega))) (fun _ => ?_)
    iterate 3 refine em_next rfl ?_
    refine em_inv_call rfl (me_R (mm := 1) hS (s := k) (by omega) (by decide) (fun I1 a1 => ?_))
    iterate 2 refine em_next rfl ?_
    have hlt : em_R P X 1 k < 2 ^ P.1 := em_R_lt (by omega)
    have hS1 := hS.keep a1
    have g := ih (k := k + 1) (I := I1) hS1 (by omega) (fun I' f => h I' (a1.tr f))
    have ec : em_ct (k + 1) (em_stays P X) = em_ct k (em_stays P X) + (if em_stays P X k then 1 else 0) := rfl
    have en : em_near P X (k + 1) = match em_near P X k with
      | none => if em_stays P X k then some k else none
      | some b => if em_stays P X k && decide (em_pc (k ^^^ X.1) < em_pc (b ^^^ X.1)) then some k else some b := rfl
    rw [ec, en] at g
    refine em_c_eq (fun q => ?_) (fun q => ?_)
    · have q2 : em_stays P X k = true := decide_eq_true ((nI_eq (by omega) (by omega)).mp q)
      rw [q2, if_pos rfl, nI_succ] at g
      iterate 3 refine em_next rfl ?_
      cases e : em_near P X k with
      | none =>
        rw [e, nI_succ] at g
        refine em_z_lt (fun _ => ?_) (fun q => absurd (by decide) q)
        iterate 4 refine em_next rfl ?_
        exact g
      | some b =>
        rw [e] at g
        have hb : b < k := em_ai_lt e
        refine em_z_lt (fun q => absurd q (nI_pos (by omega))) (fun _ => ?_)
        iterate 2 refine em_next rfl ?_
        refine em_inv_call rfl (me_now hS1 ?_)
        iterate 1 refine em_next rfl ?_
        show em_wp em_sc0 (d + 8) 262 57 _ [.int (nI k ^^^ nI X.1)] _ _
        rw [em_xr]
        have x1 : k ^^^ X.1 < 2 ^ P.1 := Nat.xor_lt_two_pow (by omega) hr
        have x2 : b ^^^ X.1 < 2 ^ P.1 := Nat.xor_lt_two_pow (by omega) hr
        refine em_inv_call rfl (me_bits (by omega) ?_)
        iterate 2 refine em_next rfl ?_
        refine em_inv_call rfl (me_now hS1 ?_)
        iterate 1 refine em_next rfl ?_
        show em_wp em_sc0 (d + 8) 262 66 _ [.int (nI b ^^^ nI X.1), .int (nI (em_pc (k ^^^ X.1)))] _ _
        rw [em_xr]
        refine em_inv_call rfl (me_bits (by omega) ?_)
        iterate 1 refine em_next rfl ?_
        have p1 := em_pc_le (k ^^^ X.1)
        have p2 := em_pc_le (b ^^^ X.1)
        refine em_c_ge (fun q3 => ?_) (fun q3 => ?_)
        · have q4 : ¬ em_pc (k ^^^ X.1) < em_pc (b ^^^ X.1) := Nat.not_lt.mpr ((nI_leI (by omega) (by omega)).mp q3)
          dsimp only at g
          rw [Bool.true_and, decide_eq_false q4, if_neg (by decide), nI_succ] at g
          iterate 2 refine em_next rfl ?_
          exact g
        · have q4 : em_pc (k ^^^ X.1) < em_pc (b ^^^ X.1) := Nat.not_le.mp (fun z => q3 ((nI_leI (by omega) (by omega)).mpr z))
          dsimp only at g
          rw [Bool.true_and, decide_eq_true q4, if_pos rfl, nI_succ] at g
          iterate 4 refine em_next rfl ?_
          exact g
    · have q2 : em_stays P X k = false := decide_eq_false (fun e => q (by rw [e]))
      rw [q2, if_neg (by decide), Nat.add_zero] at g
      have e2 : (match em_near P X k with
        | none => if false = true then some k else none
        | some b => if (false && decide (em_pc (k ^^^ X.1) < em_pc (b ^^^ X.1))) = true then some k else some b) = em_near P X k := by
        cases em_near P X k <;> rfl
      rw [e2, nI_succ] at g
      iterate 3 refine em_next rfl ?_
      exact g
theorem mq_still (hS : mo_S I lv P X) {w : Int32} (h : ∀ I' : Nat → Nat → Int32, em_fM I I' → Q (some (.int (sp_still P X w))) (em_SH, I', J, em_RT lw)) : em_call (d + 8) 262 [.ref 284, .int w] (em_SH, I, J, em_RT lw) Q := by
  unfold sp_still at h
  iterate 3 refine em_next rfl ?_
  refine em_inv_call rfl (me_inQ (a := 0) (b := 1) ?_)
  iterate 1 refine em_next rfl ?_
  refine em_b_ne (fun g => ?_) (fun g => ?_)
  · rw [if_pos g] at h
    iterate 6 refine em_next rfl ?_
    exact me_still_l (k := 0) (m := 2 ^ P.1) hS (by omega) h
  · rw [if_neg g] at h
    iterate 1 refine em_next rfl ?_
    exact em_done rfl (h I em_fM.rf)
theorem me_eden_0 (hS : mo_S I lv P X) {k m : Nat} {n : Int32} {o : Option Value} (hk : k + m = 512) (h0 : ∀ t, t < k → I 320 t = 0) (h : ∀ I' : Nat → Nat → Int32, em_fQ I I' → (∀ t, t < 512 → I' 320 t = 0) → em_wp em_sc0 (d + 8) 252 34 [some (.ref 284), some (.int (n)), some (.int (nI 512)), o] [] (em_SH, I', J, em_RT lw) Q) : em_wp em_sc0 (d + 8) 252 14 [some (.ref 284), some (.int (n)), some (.int (nI k)), o] [] (em_SH, I, J, em_RT lw) Q := by
  induction m generalizing k I with
  | zero =>
    have e : k = 512 := by omega
    subst e
    iterate 3 refine em_next rfl ?_
    refine em_c_ge (fun _ => ?_) (fun h1 => absurd (by decide) h1)
    exact h I em_fQ.rf h0
  | succ m ih =>
    iterate 3 refine em_next rfl ?_
    refine em_c_ge (fun h1 => absurd h1 (nI_ge (b := 512) (by omega) (by decide))) (fun _ => ?_)
    iterate 4 refine em_next rfl ?_
    refine em_basn (k := k) (y := 0) rfl rfl (by omega) (by decide) rfl ?_
    have f1 : em_fQ I (em_u I 320 k 0) := em_fQ.row (a := 320) (by decide) (fun c hc => em_u_row hc)
    iterate 2 refine em_next rfl ?_
    have g := ih (k := k + 1) (I := em_u I 320 k 0) (hS.keepQ f1) (by omega) (fun t ht => ?_) (fun I' f => h I' (f1.tr f))
    · rw [nI_succ] at g
      exact g
    · by_cases q : t = k
      · subst q
        exact em_u_self
      · rw [em_u_ne q]
        exact h0 t (by omega)
theorem me_eden_1 (hS : mo_S I lv P X) {k m n : Nat} {o : Option Value} (hnn : n < 25) (hk : k + m = 2 ^ P.1) (h0 : ∀ t, t < 2 ^ P.1 → I 320 t = em_bb (em_im P X n k t)) (h : ∀ I' : Nat → Nat → Int32, em_fQ I I' → (∀ t, t < 2 ^ P.1 → I' 320 t = em_bb (em_im P X n (2 ^ P.1) t)) → em_wp em_sc0 (d + 8) 252 62 [some (.ref 284), some (.int (nI n)), some (.int (nI (2 ^ P.1))), o] [] (em_SH, I', J, em_RT lw) Q) : em_wp em_sc0 (d + 8) 252 36 [some (.ref 284), some (.int (nI n)), some (.int (nI k)), o] [] (em_SH, I, J, em_RT lw) Q := by
  have hn := hS.1.1.2.1
  have hp9 := em_pow9 hn
  have hp := Nat.two_pow_pos P.1
  induction m generalizing k I with
  | zero =>
    have e : k = 2 ^ P.1 := by omega
    subst e
    iterate 2 refine em_next rfl ?_
    refine em_inv_call rfl (me_allBits hS.1 ?_)
    iterate 1 refine em_next rfl ?_
    refine em_c_gt (fun _ => ?_) (fun h1 => absurd (nI_lt (by omega) (by omega)) h1)
    exact h I em_fQ.rf h0
  | succ m ih =>
    iterate 2 refine em_next rfl ?_
    refine em_inv_call rfl (me_allBits hS.1 ?_)
    iterate 1 refine em_next rfl ?_
    refine em_c_gt (fun h1 => absurd h1 (nI_nlt (by omega) (by omega))) (fun _ => ?_)
    iterate 5 refine em_next rfl ?_
    refine em_inv_call rfl (me_R hS (s := k) (by omega) (by omega) (fun I1 a1 => ?_))
    have hlt : em_R P X n k < 2 ^ P.1 := em_R_lt (by omega)
    iterate 1 refine em_next rfl ?_
    refine em_basn (k := em_R P X n k) (y := 1) rfl rfl (by omega) (by decide) rfl ?_
    have f1 : em_fQ I (em_u I1 320 (em_R P X n k) 1) := a1.Q.tr (em_fQ.row (a := 320) (by decide) (fun c hc => em_u_row hc))
    iterate 2 refine em_next rfl ?_
    have g := ih (k := k + 1) (I := em_u I1 320 (em_R P X n k) 1) (hS.keepQ f1) (by omega) (fun t ht => ?_) (fun I' f => h I' (f1.tr f))
    · rw [nI_succ] at g
      exact g
    · rw [em_im]
      by_cases q : t = em_R P X n k
      · subst q
        rw [em_u_self, decide_eq_true rfl, Bool.or_true]
        rfl
      · rw [em_u_ne q, a1 _ _ (by decide) (fun q => absurd q.1 (by decide)), h0 t ht, decide_eq_false (fun e => q e.symm), Bool.or_false]
theorem me_eden_2 (hS : mo_S I lv P X) {k m n : Nat} {o : Int32} (hk : k + m = 2 ^ P.1) (h0 : ∀ t, t < 2 ^ P.1 → I 320 t = em_bb (em_im P X n (2 ^ P.1) t)) (h : Q (some (.int (nI (em_ct (2 ^ P.1) (fun t => !em_im P X n (2 ^ P.1) t))))) (em_SH, I, J, em_RT lw)) : em_wp em_sc0 (d + 8) 252 66 [some (.ref 284), some (.int (o)), some (.int (nI (em_ct k (fun t => !em_im P X n (2 ^ P.1) t)))), some (.int (nI k))] [] (em_SH, I, J, em_RT lw) Q := by
  have hn := hS.1.1.2.1
  have hp9 := em_pow9 hn
  have hp := Nat.two_pow_pos P.1
  induction m generalizing k with
  | zero =>
    have e : k = 2 ^ P.1 := by omega
    subst e
    iterate 2 refine em_next rfl ?_
    refine em_inv_call rfl (me_allBits hS.1 ?_)
    iterate 1 refine em_next rfl ?_
    refine em_c_gt (fun _ => ?_) (fun h1 => absurd (nI_lt (by omega) (by omega)) h1)
    iterate 1 refine em_next rfl ?_
    exact em_done rfl h
  | succ m ih =>
    iterate 2 refine em_next rfl ?_
    refine em_inv_call rfl (me_allBits hS.1 ?_)
    iterate 1 refine em_next rfl ?_
    refine em_c_gt (fun h1 => absurd h1 (nI_nlt (by omega) (by omega))) (fun _ => ?_)
    iterate 3 refine em_next rfl ?_
    refine em_baln (k := k) rfl rfl (by omega) (by decide) ?_
    rw [h0 k (by omega)]
    have g := ih (k := k + 1) (by omega)
    rw [show em_ct (k + 1) (fun t => !em_im P X n (2 ^ P.1) t) = em_ct k (fun t => !em_im P X n (2 ^ P.1) t) + (if (!em_im P X n (2 ^ P.1) k) then 1 else 0) from rfl] at g
    iterate 1 refine em_next rfl ?_
    cases e : em_im P X n (2 ^ P.1) k with
    | true =>
      rw [e, if_neg (by decide), Nat.add_zero, nI_succ] at g
      refine em_z_ne (fun _ => ?_) (fun q => absurd q (by decide))
      iterate 2 refine em_next rfl ?_
      exact g
    | false =>
      rw [e, if_pos (by decide), nI_succ, nI_succ] at g
      refine em_z_ne (fun q => absurd rfl q) (fun _ => ?_)
      iterate 3 refine em_next rfl ?_
      exact g
theorem mq_eden (hS : mo_S I lv P X) {n : Int32} (h : ∀ I' : Nat → Nat → Int32, em_fQ I I' → Q (some (.int (sp_eden P X n))) (em_SH, I', J, em_RT lw)) : em_call (d + 8) 252 [.ref 284, .int n] (em_SH, I, J, em_RT lw) Q := by
  have hp9 := em_pow9 hS.1.1.2.1
  unfold sp_eden at h
  iterate 3 refine em_next rfl ?_
  refine em_inv_call rfl (me_inQ (a := 1) (b := 24) ?_)
  iterate 1 refine em_next rfl ?_
  refine em_b_ne (fun g => ?_) (fun g => ?_)
  · rw [if_pos g] at h
    obtain ⟨m, hm, rfl, em⟩ := em_nat (m := 24) (by decide) (Int32.le_trans (by decide) g.1) g.2
    rw [em] at h
    iterate 2 refine em_next rfl ?_
    refine me_eden_0 (k := 0) (m := 512) hS (by omega) (fun t ht => by omega) (fun I1 a1 a2 => ?_)
    iterate 2 refine em_next rfl ?_
    refine me_eden_1 (k := 0) (m := 2 ^ P.1) (hS.keepQ a1) (by omega) (by omega) (fun t ht => a2 t (by omega)) (fun I2 b1 b2 => ?_)
    iterate 4 refine em_next rfl ?_
    exact me_eden_2 (k := 0) (m := 2 ^ P.1) (hS.keepQ (a1.tr b1)) (by omega) b2 (h I2 (a1.tr b1))
  · rw [if_neg g] at h
    iterate 1 refine em_next rfl ?_
    exact em_done rfl (h I em_fQ.rf)
theorem me_mw_l (hS : mo_S I lv P X) {s n k m : Nat} {o : Option Value} (hnn : n < 25) (hs : s < 2 ^ P.1) (hk : k + m = P.1) (h : ∀ I' : Nat → Nat → Int32, em_fM I I' → Q (some (.int (nI (em_mw P X n s)))) (em_SH, I', J, em_RT lw)) : em_wp em_sc0 (d + 8) 253 13 [some (.ref 284), some (.int (nI s)), some (.int (nI n)), some (.int (nI (em_mxx (em_pc (em_R P X n s)) (fun b => em_pc (em_R P X n (s ^^^ 2 ^ b))) k))), some (.int (nI k)), o] [] (em_SH, I, J, em_RT lw) Q := by
  have hn := hS.1.1.2.1
  have hp9 := em_pow9 hn
  induction m generalizing k I o with
  | zero =>
    have e : k = P.1 := by omega
    subst e
    iterate 2 refine em_next rfl ?_
    refine em_inv_call rfl (me_many hS.1 ?_)
    iterate 1 refine em_next rfl ?_
    refine em_c_ge (fun _ => ?_) (fun h1 => absurd (nI_le (Nat.le_refl _) (by omega)) h1)
    iterate 1 refine em_next rfl ?_
    exact em_done rfl (h I em_fM.rf)
  | succ m ih =>
    iterate 2 refine em_next rfl ?_
    refine em_inv_call rfl (me_many hS.1 ?_)
    iterate 1 refine em_next rfl ?_
    refine em_c_ge (fun h1 => absurd h1 (nI_ge (by omega) (by omega))) (fun _ => ?_)
    iterate 6 refine em_next rfl ?_
    show em_wp em_sc0 (d + 8) 253 29 _ [.int (nI s ^^^ (1 <<< (nI k &&& 31))), .ref 284] _ _
    rw [em_xb (by omega)]
    iterate 1 refine em_next rfl ?_
    refine em_inv_call rfl (me_R hS (em_xlt hs (by omega)) (by omega) (fun I1 a1 => ?_))
    have hlt : em_R P X n (s ^^^ 2 ^ k) < 2 ^ P.1 := em_R_lt (em_xlt hs (by omega))
    refine em_inv_call rfl (me_bits (by omega) ?_)
    iterate 4 refine em_next rfl ?_
    have m1 := em_mxx_le (em_pc_le (em_R P X n s)) (fun b => em_pc_le (em_R P X n (s ^^^ 2 ^ b))) k
    have m2 := em_pc_le (em_R P X n (s ^^^ 2 ^ k))
    have g := ih (k := k + 1) (I := I1) (o := some (.int (nI (em_pc (em_R P X n (s ^^^ 2 ^ k)))))) (hS.keep a1) (by omega) (fun I' f => h I' (a1.tr f))
    rw [em_mxx, nI_succ] at g
    refine em_c_le (fun q => ?_) (fun q => ?_)
    · rw [if_neg (Nat.not_lt.mpr ((nI_leI (by omega) (by omega)).mp q))] at g
      iterate 2 refine em_next rfl ?_
      exact g
    · rw [if_pos (Nat.not_le.mp (fun z => q ((nI_leI (by omega) (by omega)).mpr z)))] at g
      iterate 4 refine em_next rfl ?_
      exact g
theorem me_mostWith (hS : mo_S I lv P X) {s n : Nat} (hnn : n < 25) (hs : s < 2 ^ P.1) (h : ∀ I' : Nat → Nat → Int32, em_fM I I' → Q (some (.int (nI (em_mw P X n s)))) (em_SH, I', J, em_RT lw)) : em_call (d + 8) 253 [.ref 284, .int (nI s), .int (nI n)] (em_SH, I, J, em_RT lw) Q := by
  have hp9 := em_pow9 hS.1.1.2.1
  iterate 3 refine em_next rfl ?_
  refine em_inv_call rfl (me_R hS hs (by omega) (fun I1 a1 => ?_))
  have hlt : em_R P X n s < 2 ^ P.1 := em_R_lt hs
  refine em_inv_call rfl (me_bits (by omega) ?_)
  iterate 3 refine em_next rfl ?_
  exact me_mw_l (k := 0) (m := P.1) (hS.keep a1) hnn hs (by omega) (fun I' f => h I' (a1.tr f))
theorem em_mw_le (P : em_Pl) (X : em_Nt) (n s : Nat) : em_mw P X n s ≤ 9 := em_mxx_le (em_pc_le _) (fun _ => em_pc_le _) _
theorem me_duel_l (hS : mo_S I lv P X) {w : Int32} {n k m : Nat} {o : Option Value} (hnn : n < 25) (hk : k + m = P.1) (h : ∀ I' : Nat → Nat → Int32, em_fM I I' → Q (some (.int (if w = 0 then em_ov (em_mwb P X n) (em_ai (fun _ => true) (em_mwb P X n) P.1) else em_oi (em_ai (fun _ => true) (em_mwb P X n) P.1)))) (em_SH, I', J, em_RT lw)) : em_wp em_sc0 (d + 9) 254 28 [some (.ref 284), some (.int (nI n)), some (.int (w)), some (.int (em_oi (em_ai (fun _ => true) (em_mwb P X n) k))), some (.int (em_ov (em_mwb P X n) (em_ai (fun _ => true) (em_mwb P X n) k))), some (.int (nI k)), o] [] (em_SH, I, J, em_RT lw) Q := by
  have hn := hS.1.1.2.1
  have hr := hS.2.1.1.1
  induction m generalizing k I o with
  | zero =>
    have e : k = P.1 := by omega
    subst e
    iterate 2 refine em_next rfl ?_
    refine em_inv_call rfl (me_many hS.1 ?_)
    iterate 1 refine em_next rfl ?_
    refine em_c_ge (fun _ => ?_) (fun h1 => absurd (nI_le (Nat.le_refl _) (by omega)) h1)
    iterate 2 refine em_next rfl ?_
    have g := h I em_fM.rf
    refine em_z_ne (fun z => ?_) (fun z => ?_)
    · rw [if_neg z] at g
      iterate 1 refine em_next rfl ?_
      exact em_done rfl g
    · rw [if_pos z] at g
      iterate 2 refine em_next rfl ?_
      exact em_done rfl g
  | succ m ih =>
    iterate 2 refine em_next rfl ?_
    refine em_inv_call rfl (me_many hS.1 ?_)
    iterate 1 refine em_next rfl ?_
    refine em_c_ge (fun h1 => absurd h1 (nI_ge (by omega) (by omega))) (fun _ => ?_)
    iterate 2 refine em_next rfl ?_
    refine em_inv_call rfl (me_now hS ?_)
    iterate 4 refine em_next rfl ?_
    show em_wp em_sc0 (d + 9) 254 47 _ [.int (nI X.1 ^^^ (1 <<< (nI k &&& 31))), .ref 284] _ _
    rw [em_xb (by omega)]
    iterate 1 refine em_next rfl ?_
    refine em_inv_call rfl (me_mostWith hS hnn (em_xlt hr (by omega)) (fun I1 a1 => ?_))
    iterate 3 refine em_next rfl ?_
    have g := ih (k := k + 1) (I := I1) (o := some (.int (nI (em_mw P X n (X.1 ^^^ 2 ^ k))))) (hS.keep a1) (by omega) (fun I' f => h I' (a1.tr f))
    rw [em_ai, nI_succ] at g
    cases e : em_ai (fun _ => true) (em_mwb P X n) k with
    | none =>
      rw [e] at g
      refine em_z_lt (fun _ => ?_) (fun q => absurd (by decide) q)
      iterate 6 refine em_next rfl ?_
      exact g
    | some b =>
      rw [e] at g
      dsimp only at g
      have hb : b < k := em_ai_lt e
      have m1 := em_mw_le P X n (X.1 ^^^ 2 ^ k)
      have m2 := em_mw_le P X n (X.1 ^^^ 2 ^ b)
      refine em_z_lt (fun q => absurd q (nI_pos (by omega))) (fun _ => ?_)
      iterate 3 refine em_next rfl ?_
      rw [Bool.true_and] at g
      have i1 : em_mwb P X n k < 2 ^ 31 := by unfold em_mwb; omega
      have i2 : em_mwb P X n b < 2 ^ 31 := by unfold em_mwb; omega
      refine em_c_lt (fun q => ?_) (fun q => ?_)
      · have q2 : em_mwb P X n k < em_mwb P X n b := (nI_ltI i1 i2).mp q
        rw [decide_eq_true q2, if_pos rfl] at g
        iterate 6 refine em_next rfl ?_
        exact g
      · have q2 : ¬ em_mwb P X n k < em_mwb P X n b := fun z => q ((nI_ltI i1 i2).mpr z)
        rw [decide_eq_false q2, if_neg (by decide)] at g
        iterate 3 refine em_next rfl ?_
        exact g
theorem mq_duel (hS : mo_S I lv P X) {n w : Int32} (h : ∀ I' : Nat → Nat → Int32, em_fM I I' → Q (some (.int (sp_duel P X n w))) (em_SH, I', J, em_RT lw)) : em_call (d + 9) 254 [.ref 284, .int n, .int w] (em_SH, I, J, em_RT lw) Q := by
  unfold sp_duel at h
  iterate 1 refine em_next rfl ?_
  refine em_inv_call rfl (me_isShort ?_)
  iterate 1 refine em_next rfl ?_
  refine em_b_eq (fun g => ?_) (fun g => ?_)
  · rw [if_neg (fun q => g q.1)] at h
    iterate 1 refine em_next rfl ?_
    exact em_done rfl (h I em_fM.rf)
  iterate 3 refine em_next rfl ?_
  refine em_inv_call rfl (me_inQ (a := 0) (b := 1) ?_)
  iterate 1 refine em_next rfl ?_
  refine em_b_ne (fun g2 => ?_) (fun g2 => ?_)
  · rw [if_pos ⟨g, g2⟩] at h
    obtain ⟨m, hm, rfl, em⟩ := em_nat (m := 24) (by decide) g.1 g.2
    rw [em] at h
    iterate 6 refine em_next rfl ?_
    exact me_duel_l (k := 0) (m := P.1) (n := m) hS (by omega) (by omega) h
  · rw [if_neg (fun q => g2 q.2)] at h
    iterate 1 refine em_next rfl ?_
    exact em_done rfl (h I em_fM.rf)
end MQ3
