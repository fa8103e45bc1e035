/-! numbers told, sets counted -/
theorem em_nat {a : Int32} {m : Nat} (hm : m < 2 ^ 31) (h1 : 0 ≤ a) (h2 : a ≤ nI m) : ∃ s, s ≤ m ∧ a = nI s ∧ a.toNatClampNeg = s := by
  rw [Int32.le_iff_toInt_le] at h1 h2
  rw [nI_toInt hm] at h2
  have h0 : (0 : Int32).toInt = 0 := rfl
  rw [h0] at h1
  have e : a = nI a.toInt.toNat := Int32.toInt_inj.mp (by rw [nI_toInt (by omega)]; omega)
  refine ⟨a.toInt.toNat, by omega, e, ?_⟩
  conv => lhs; rw [e]
  exact nI_clamp (by omega)
theorem em_bedN {n : Nat} {b : Int32} (hn : n ≤ 9) (h : 0 ≤ b ∧ b ≤ nI n - 1) : ∃ s, s < n ∧ b = nI s ∧ b.toNatClampNeg = s := by
  cases n with
  | zero =>
    exact absurd (Int32.le_trans h.1 h.2) (by decide)
  | succ n =>
    rw [nI_pred] at h
    obtain ⟨s, h1, h2, h3⟩ := em_nat (by omega) h.1 h.2
    exact ⟨s, by omega, h2, h3⟩
theorem em_rowN {n : Nat} {a : Int32} (hn : n ≤ 9) (h : 0 ≤ a ∧ a ≤ nI (2 ^ n - 1)) : ∃ s, s < 2 ^ n ∧ a = nI s ∧ a.toNatClampNeg = s := by
  have h1 := em_pow9 hn
  have h2 := Nat.two_pow_pos n
  obtain ⟨s, g1, g2, g3⟩ := em_nat (by omega) h.1 h.2
  exact ⟨s, by omega, g2, g3⟩
/-- how many of a set -/
def em_pc (s : Nat) : Nat := em_ct 9 (fun b => s.testBit b)
theorem em_pc_le (s : Nat) : em_pc s ≤ 9 := em_ct_le _ _
/-- the first -/
def em_ff (p : Nat → Bool) : Nat → Nat → Option Nat
  | _, 0 => none
  | k, m + 1 => if p k then some k else em_ff p (k + 1) m
def em_oi : Option Nat → Int32
  | none => -2
  | some k => nI k
def em_cf (p : Nat → Bool) : Nat → Nat → Nat
  | _, 0 => 0
  | k, m + 1 => em_cf p (k + 1) m + (if p k then 1 else 0)
theorem em_ct_cf (p : Nat → Bool) (k m : Nat) : em_ct k p + em_cf p k m = em_ct (k + m) p := by
  induction m generalizing k with
  | zero => rfl
  | succ m ih =>
    have g := ih (k + 1)
    rw [show em_ct (k + 1) p = em_ct k p + (if p k then 1 else 0) from rfl, show k + 1 + m = k + (m + 1) by omega] at g
    rw [← g, show em_cf p k (m + 1) = em_cf p (k + 1) m + (if p k then 1 else 0) from rfl]
    omega
theorem em_xr (a b : Nat) : nI a ^^^ nI b = nI (a ^^^ b) := by
  apply Int32.toBitVec_inj.mp
  show BitVec.ofNat 32 a ^^^ BitVec.ofNat 32 b = BitVec.ofNat 32 (a ^^^ b)
  exact BitVec.ofNat_xor.symm
theorem em_xb {r b : Nat} (hb : b < 10) : nI r ^^^ (1 <<< (nI b &&& 31)) = nI (r ^^^ 2 ^ b) := by rw [em_one1 b hb, em_xr]
theorem em_xlt {n r b : Nat} (hr : r < 2 ^ n) (hb : b < n) : r ^^^ 2 ^ b < 2 ^ n := Nat.xor_lt_two_pow hr (Nat.pow_lt_pow_right (by decide) hb)
/-- how all lie some hours on -/
def em_R (P : em_Pl) (X : em_Nt) (m s : Nat) : Nat := em_ra P X.2.1 X.2.2 m s
theorem em_R_lt {P : em_Pl} {X : em_Nt} {m s : Nat} (hs : s < 2 ^ P.1) : em_R P X m s < 2 ^ P.1 := em_ra_lt hs
abbrev em_okB (P : em_Pl) (b : Int32) : Prop := 0 ≤ b ∧ b ≤ nI P.1 - 1
abbrev em_okR (P : em_Pl) (a : Int32) : Prop := 0 ≤ a ∧ a ≤ nI (2 ^ P.1 - 1)
abbrev em_ok (lo hi v : Int32) : Prop := lo ≤ v ∧ v ≤ hi
theorem em_pc_s {s k : Nat} (hs : s < 512) (hk : k < 9) : nI (em_ct (k + 1) (fun b => s.testBit b)) = nI (em_ct k (fun b => s.testBit b)) + ((nI s >>> (nI k &&& 31)) &&& 1) := by
  rw [em_bitC s hs k hk, show em_ct (k + 1) (fun b => s.testBit b) = em_ct k (fun b => s.testBit b) + (if s.testBit k then 1 else 0) from rfl, em_nadd]
  congr 1
  unfold em_bit
  split <;> rfl
/-! what is asked: the answers -/
def em_fc (n : Nat) (cold hab part : Nat → Int32) (b : Nat) (t : Int32) (w : Nat) : List Int32 := [em_bit w 0, em_bit w 1, em_bit w 2, hab b, cold b, t, nI b, nI n, part b]
/-- in which of the eight cases they lie left -/
def em_cs (P : em_Pl) (part : Nat → Int32) (b : Nat) (t : Int32) : Nat := em_or 8 (fun w => decide (0 < P.2.2.2.1 0 (em_fc P.1 P.2.2.1 P.2.2.2.2 part b t w)))
theorem em_w3 : ∀ w, w < 8 → nI w &&& 1 = em_bit w 0 ∧ (nI w >>> (1 &&& 31)) &&& 1 = em_bit w 1 ∧ (nI w >>> (2 &&& 31)) &&& 1 = em_bit w 2 := by decide +kernel
theorem em_w4 : ∀ w, w < 8 → nI w >>> (2 &&& 31) = em_bit w 2 := by decide +kernel
theorem em_join8 : ∀ b, b < 8 → ∀ s, s < 2 ^ b → nI s ||| (1 <<< (nI b &&& 31)) = nI (s + 2 ^ b) := by decide +kernel
def sp_after (P : em_Pl) (X : em_Nt) (a b : Int32) : Int32 := if em_okR P a ∧ em_ok 0 48 b then nI (em_R P X b.toNatClampNeg a.toNatClampNeg) else -1
def sp_spread (P : em_Pl) (X : em_Nt) (b n : Int32) : Int32 := if em_okB P b ∧ em_ok 0 24 n then nI (em_R P X n.toNatClampNeg X.1) ^^^ nI (em_R P X n.toNatClampNeg (X.1 ^^^ 2 ^ b.toNatClampNeg)) else -1
/-- who alone is enough -/
def em_onl (P : em_Pl) (X : em_Nt) (n : Nat) : Option Int32 := if em_R P X n X.1 = 2 ^ P.1 - 1 then some (-3) else (em_ff (fun b => decide (em_R P X n (X.1 ^^^ 2 ^ b) = 2 ^ P.1 - 1)) 0 P.1).map nI
def em_soon (P : em_Pl) (X : em_Nt) (w : Int32) : Nat → Nat → Int32
  | _, 0 => -2
  | k, m + 1 => match em_onl P X k with
    | some v => if w = 0 then nI k else v
    | none => em_soon P X w (k + 1) m
def sp_soonest (P : em_Pl) (X : em_Nt) (w : Int32) : Int32 := if em_ok 0 1 w then em_soon P X w 0 25 else -1
def em_led (P : em_Pl) (X : em_Nt) (n : Nat) (g : Int32) (s : Nat) : Bool := decide (nI (em_R P X n s) = g)
def sp_leads (P : em_Pl) (X : em_Nt) (a n w : Int32) : Int32 := if em_okR P a ∧ em_ok 0 24 n ∧ em_ok 0 1 w then (if w = 0 then nI (em_ct (2 ^ P.1) (em_led P X n.toNatClampNeg a)) else em_oi (em_ff (em_led P X n.toNatClampNeg a) 0 (2 ^ P.1))) else -1
def sp_rule (P : em_Pl) (X : em_Nt) (b : Int32) : Int32 := if em_okB P b then nI (em_cs P X.2.2 b.toNatClampNeg (nI (X.2.1 % 24))) else -1
section MQ2
variable {d lw lv : Nat} {P : em_Pl} {X Y : em_Nt} {I I0 : Nat → Nat → Int32} {J : Nat → Nat → Int64} {M : em_M} {Q : Option Value → em_M → Prop} {stl : Bool} {sd : Int32}
theorem me_bits_l {s k m : Nat} (hs : s < 512) (hk : k + m = 9) (h : Q (some (.int (nI (em_pc s)))) M) : em_wp em_sc0 d 202 4 [some (.int (nI s)), some (.int (nI (em_ct k (fun b => s.testBit b)))), some (.int (nI k))] [] M Q := by
  induction m generalizing k with
  | zero =>
    have e : k = 9 := by omega
    subst e
    iterate 3 refine em_next rfl ?_
    refine em_c_ge (fun _ => ?_) (fun h1 => absurd (by decide) h1)
    iterate 1 refine em_next rfl ?_
    exact em_done rfl h
  | succ m ih =>
    iterate 3 refine em_next rfl ?_
    refine em_c_ge (fun h1 => absurd h1 (nI_ge (b := 9) (by omega) (by decide))) (fun _ => ?_)
    iterate 10 refine em_next rfl ?_
    have g := ih (k := k + 1) (by omega)
    rw [em_pc_s hs (by omega), nI_succ] at g
    exact g
theorem me_bits {s : Nat} (hs : s < 512) (h : Q (some (.int (nI (em_pc s)))) M) : em_call d 202 [.int (nI s)] M Q := by
  iterate 4 refine em_next rfl ?_
  exact me_bits_l (k := 0) (m := 9) hs (by omega) h
theorem me_isLong {v : Int32} (h : Q (some (.int (em_bo (em_ok 0 48 v)))) M) : em_call (d + 1) 232 [.int v] M Q := by
  iterate 3 refine em_next rfl ?_
  refine em_inv_call rfl (me_in ?_)
  exact em_done (if_pos (Or.inr (Or.inl ⟨rfl, em_bo_01⟩))) h
theorem me_isShort {v : Int32} (h : Q (some (.int (em_bo (em_ok 0 24 v)))) M) : em_call (d + 1) 233 [.int v] M Q := by
  iterate 3 refine em_next rfl ?_
  refine em_inv_call rfl (me_in ?_)
  exact em_done (if_pos (Or.inr (Or.inl ⟨rfl, em_bo_01⟩))) h
theorem me_R (hS : mo_S I lv P X) {s mm : Nat} (hs : s < 2 ^ P.1) (hmm : mm < 1000) (h : ∀ I' : Nat → Nat → Int32, em_fM I I' → Q (some (.int (nI (em_R P X mm s)))) (em_SH, I', J, em_RT lw)) : em_call (d + 7) 224 [.ref 284, .int (nI s), .int (nI mm)] (em_SH, I, J, em_RT lw) Q := me_rowAfter hS hs hmm h
theorem me_now (hS : mo_S I lv P X) (h : Q (some (.int (nI X.1))) (em_SH, I, J, em_RT lw)) : em_call (d + 1) 225 [.ref 284] (em_SH, I, J, em_RT lw) Q := me_rowNow hS.1 hS.2.1 h
theorem me_bedQ (hS : mo_S I lv P X) {b : Int32} (h : Q (some (.int (em_bo (em_okB P b)))) (em_SH, I, J, em_RT lw)) : em_call (d + 1) 204 [.ref 284, .int b] (em_SH, I, J, em_RT lw) Q := me_isBed hS.1 h
theorem me_rowQ (hS : mo_S I lv P X) {b : Int32} (h : Q (some (.int (em_bo (em_okR P b)))) (em_SH, I, J, em_RT lw)) : em_call (d + 2) 206 [.ref 284, .int b] (em_SH, I, J, em_RT lw) Q := me_isRow hS.1 h
theorem me_inQ {v a b : Int32} (h : Q (some (.int (em_bo (em_ok a b v)))) M) : em_call d 200 [.int v, .int a, .int b] M Q := me_in h
theorem mq_after (hS : mo_S I lv P X) {a b : Int32} (h : ∀ I' : Nat → Nat → Int32, em_fM I I' → Q (some (.int (sp_after P X a b))) (em_SH, I', J, em_RT lw)) : em_call (d + 8) 236 [.ref 284, .int a, .int b] (em_SH, I, J, em_RT lw) Q := by
  have hn := hS.1.1.2.1
  unfold sp_after at h
  iterate 2 refine em_next rfl ?_
  refine em_inv_call rfl (me_rowQ hS ?_)
  iterate 1 refine em_next rfl ?_
  refine em_b_eq (fun g => ?_) (fun g => ?_)
  · rw [if_neg (fun q => g q.1)] at h
    iterate 1 refine em_next rfl ?_
    exact em_done rfl (h I em_fM.rf)
  · iterate 1 refine em_next rfl ?_
    refine em_inv_call rfl (me_isLong ?_)
    iterate 1 refine em_next rfl ?_
    refine em_b_eq (fun g2 => ?_) (fun g2 => ?_)
    · rw [if_neg (fun q => g2 q.2)] at h
      iterate 1 refine em_next rfl ?_
      exact em_done rfl (h I em_fM.rf)
    · rw [if_pos ⟨g, g2⟩] at h
      obtain ⟨s, hs, rfl, es⟩ := em_rowN hn g
      obtain ⟨m, hm, rfl, em⟩ := em_nat (m := 48) (by decide) g2.1 g2.2
      rw [es, em] at h
      iterate 3 refine em_next rfl ?_
      refine em_inv_call rfl (me_R hS hs (by omega) (fun I1 a1 => ?_))
      iterate 1 refine em_next rfl ?_
      exact em_done rfl (h I1 a1)
theorem mq_spread (hS : mo_S I lv P X) {b n : Int32} (h : ∀ I' : Nat → Nat → Int32, em_fM I I' → Q (some (.int (sp_spread P X b n))) (em_SH, I', J, em_RT lw)) : em_call (d + 8) 243 [.ref 284, .int b, .int n] (em_SH, I, J, em_RT lw) Q := by
  have hn := hS.1.1.2.1
  have hr := hS.2.1.1.1
  unfold sp_spread at h
  iterate 2 refine em_next rfl ?_
  refine em_inv_call rfl (me_bedQ hS ?_)
  iterate 1 refine em_next rfl ?_
  refine em_b_eq (fun g => ?_) (fun g => ?_)
  · rw [if_neg (fun q => g q.1)] at h
    iterate 1 refine em_next rfl ?_
    exact em_done rfl (h I em_fM.rf)
  · iterate 1 refine em_next rfl ?_
    refine em_inv_call rfl (me_isShort ?_)
    iterate 1 refine em_next rfl ?_
    refine em_b_ne (fun g2 => ?_) (fun g2 => ?_)
    · rw [if_pos ⟨g, g2⟩] at h
      obtain ⟨s, hs, rfl, es⟩ := em_bedN hn g
      obtain ⟨m, hm, rfl, em⟩ := em_nat (m := 24) (by decide) g2.1 g2.2
      rw [es, em] at h
      iterate 2 refine em_next rfl ?_
      refine em_inv_call rfl (me_now hS ?_)
      iterate 1 refine em_next rfl ?_
      refine em_inv_call rfl (me_R hS hr (by omega) (fun I1 a1 => ?_))
      iterate 4 refine em_next rfl ?_
      refine em_inv_call rfl (me_now (hS.keep a1) ?_)
      iterate 4 refine em_next rfl ?_
      show em_wp em_sc0 (d + 8) 243 37 _ [.int (nI X.1 ^^^ (1 <<< (nI s &&& 31))), .ref 284, .int (nI (em_R P X m X.1))] _ _
      rw [em_xb (by omega)]
      iterate 1 refine em_next rfl ?_
      refine em_inv_call rfl (me_R (hS.keep a1) (em_xlt hr hs) (by omega) (fun I2 a2 => ?_))
      iterate 1 refine em_next rfl ?_
      exact em_done rfl (h I2 (a1.tr a2))
    · rw [if_neg (fun q => g2 q.2)] at h
      iterate 1 refine em_next rfl ?_
      exact em_done rfl (h I em_fM.rf)
theorem me_soon_b (hS : mo_S I lv P X) {w : Int32} {n k m : Nat} (hnn : n < 25) (hk : k + m = P.1) (h1 : em_ff (fun b => decide (em_R P X n (X.1 ^^^ 2 ^ b) = 2 ^ P.1 - 1)) k m = none → ∀ (I' : Nat → Nat → Int32) (o : Option Value), em_fM I I' → em_wp em_sc0 (d + 8) 242 13 [some (.ref 284), some (.int (w)), some (.int (nI n + 1)), o] [] (em_SH, I', J, em_RT lw) Q)
    (h2 : ∀ b, em_ff (fun b => decide (em_R P X n (X.1 ^^^ 2 ^ b) = 2 ^ P.1 - 1)) k m = some b → ∀ I' : Nat → Nat → Int32, em_fM I I' → Q (some (.int (if w = 0 then nI n else nI b))) (em_SH, I', J, em_RT lw)) : em_wp em_sc0 (d + 8) 242 48 [some (.ref 284), some (.int (w)), some (.int (nI n)), some (.int (nI k))] [] (em_SH, I, J, em_RT lw) Q := by
  have hn := hS.1.1.2.1
  have hr := hS.2.1.1.1
  have hp9 := em_pow9 hn
  induction m generalizing k I with
  | zero =>
    have e : k = P.1 := by omega
    subst e
    iterate 2 refine em_next rfl ?_
    refine em_inv_call rfl (me_many hS.1 ?_)
    iterate 1 refine em_next rfl ?_
    refine em_c_ge (fun _ => ?_) (fun h1 => absurd (nI_le (Nat.le_refl _) (by omega)) h1)
    iterate 2 refine em_next rfl ?_
    exact h1 rfl I _ em_fM.rf
  | succ m ih =>
    iterate 2 refine em_next rfl ?_
    refine em_inv_call rfl (me_many hS.1 ?_)
    iterate 1 refine em_next rfl ?_
    refine em_c_ge (fun h1 => absurd h1 (nI_ge (by omega) (by omega))) (fun _ => ?_)
    iterate 2 refine em_next rfl ?_
    refine em_inv_call rfl (me_now hS ?_)
    iterate 4 refine em_next rfl ?_
    show em_wp em_sc0 (d + 8) 242 65 _ [.int (nI X.1 ^^^ (1 <<< (nI k &&& 31))), .ref 284] _ _
    rw [em_xb (by omega)]
    iterate 1 refine em_next rfl ?_
    refine em_inv_call rfl (me_R hS (em_xlt hr (by omega)) (by omega) (fun I1 a1 => ?_))
    iterate 1 refine em_next rfl ?_
    refine em_inv_call rfl (me_allBits (hS.keep a1).1 ?_)
    iterate 1 refine em_next rfl ?_
    have hlt : em_R P X n (X.1 ^^^ 2 ^ k) < 2 ^ P.1 := em_R_lt (em_xlt hr (by omega))
    refine em_c_ne (fun q => ?_) (fun q => ?_)
    · iterate 2 refine em_next rfl ?_
      have q2 : ¬ em_R P X n (X.1 ^^^ 2 ^ k) = 2 ^ P.1 - 1 := fun e => q (by rw [e])
      have e : em_ff (fun b => decide (em_R P X n (X.1 ^^^ 2 ^ b) = 2 ^ P.1 - 1)) k (m + 1) = em_ff (fun b => decide (em_R P X n (X.1 ^^^ 2 ^ b) = 2 ^ P.1 - 1)) (k + 1) m := if_neg (by simpa using q2)
      have g := ih (k := k + 1) (I := I1) (hS.keep a1) (by omega) (fun q I' o f => h1 (e.trans q) I' o (a1.tr f)) (fun b q I' f => h2 b (e.trans q) I' (a1.tr f))
      rw [nI_succ] at g
      exact g
    · have q2 : em_R P X n (X.1 ^^^ 2 ^ k) = 2 ^ P.1 - 1 := (nI_eq (by omega) (by omega)).mp q
      have g := h2 k (if_pos (by simpa using q2)) I1 a1
      iterate 2 refine em_next rfl ?_
      refine em_z_ne (fun z => ?_) (fun z => ?_)
      · rw [if_neg z] at g
        iterate 1 refine em_next rfl ?_
        exact em_done rfl g
      · rw [if_pos z] at g
        iterate 2 refine em_next rfl ?_
        exact em_done rfl g
theorem me_soon_l (hS : mo_S I lv P X) {w : Int32} {k m : Nat} {o : Option Value} (hk : k + m = 25) (h : ∀ I' : Nat → Nat → Int32, em_fM I I' → Q (some (.int (em_soon P X w k m))) (em_SH, I', J, em_RT lw)) : em_wp em_sc0 (d + 8) 242 13 [some (.ref 284), some (.int (w)), some (.int (nI k)), o] [] (em_SH, I, J, em_RT lw) Q := by
  have hn := hS.1.1.2.1
  have hr := hS.2.1.1.1
  have hp9 := em_pow9 hn
  induction m generalizing k I o with
  | zero =>
    have e : k = 25 := by omega
    subst e
    iterate 3 refine em_next rfl ?_
    refine em_c_gt (fun _ => ?_) (fun h1 => absurd (by decide) h1)
    iterate 1 refine em_next rfl ?_
    exact em_done rfl (h I em_fM.rf)
  | succ m ih =>
    iterate 3 refine em_next rfl ?_
    refine em_c_gt (fun h1 => absurd h1 (nI_nlt (a := 24) (by omega) (by decide))) (fun _ => ?_)
    iterate 2 refine em_next rfl ?_
    refine em_inv_call rfl (me_now hS ?_)
    iterate 1 refine em_next rfl ?_
    refine em_inv_call rfl (me_R hS hr (by omega) (fun I1 a1 => ?_))
    iterate 1 refine em_next rfl ?_
    refine em_inv_call rfl (me_allBits (hS.keep a1).1 ?_)
    iterate 1 refine em_next rfl ?_
    have hlt : em_R P X k X.1 < 2 ^ P.1 := em_R_lt hr
    refine em_c_ne (fun q => ?_) (fun q => ?_)
    · have q2 : ¬ em_R P X k X.1 = 2 ^ P.1 - 1 := fun e => q (by rw [e])
      iterate 2 refine em_next rfl ?_
      refine me_soon_b (k := 0) (m := P.1) (hS.keep a1) (by omega) (by omega) (fun q3 I2 o2 a2 => ?_) (fun b q3 I2 a2 => ?_)
      · have e : em_onl P X k = none := by
          unfold em_onl
          rw [if_neg q2, q3]
          rfl
        have g := ih (k := k + 1) (I := I2) (o := o2) (hS.keep (a1.tr a2)) (by omega) (fun I3 a3 => by
          have g := h I3 ((a1.tr a2).tr a3)
          rw [em_soon, e] at g
          exact g)
        rw [nI_succ] at g
        exact g
      · have e : em_onl P X k = some (nI b) := by
          unfold em_onl
          rw [if_neg q2, q3]
          rfl
        have g := h I2 (a1.tr a2)
        rw [em_soon, e] at g
        exact g
    · have q2 : em_R P X k X.1 = 2 ^ P.1 - 1 := (nI_eq (by omega) (by omega)).mp q
      have e : em_onl P X k = some (-3) := if_pos q2
      have g := h I1 a1
      rw [em_soon, e] at g
      dsimp only at g
      iterate 2 refine em_next rfl ?_
      refine em_z_ne (fun z => ?_) (fun z => ?_)
      · rw [if_neg z] at g
        iterate 1 refine em_next rfl ?_
        exact em_done rfl g
      · rw [if_pos z] at g
        iterate 2 refine em_next rfl ?_
        exact em_done rfl g
theorem mq_soonest (hS : mo_S I lv P X) {w : Int32} (h : ∀ I' : Nat → Nat → Int32, em_fM I I' → Q (some (.int (sp_soonest P X w))) (em_SH, I', J, em_RT lw)) : em_call (d + 8) 242 [.ref 284, .int w] (em_SH, I, J, em_RT lw) Q := by
  unfold sp_soonest at h
  iterate 3 refine em_next rfl ?_
  refine em_inv_call rfl (me_inQ (a := 0) (b := 1) ?_)
  iterate 1 refine em_next rfl ?_
  refine em_b_ne (fun g => ?_) (fun g => ?_)
  · rw [if_pos g] at h
    iterate 2 refine em_next rfl ?_
    exact me_soon_l (k := 0) (m := 25) hS (by omega) h
  · rw [if_neg g] at h
    iterate 1 refine em_next rfl ?_
    exact em_done rfl (h I em_fM.rf)
theorem me_leads_l (hS : mo_S I lv P X) {a w : Int32} {n k m : Nat} (hnn : n < 25) (hk : k + m = 2 ^ P.1) (h : ∀ I' : Nat → Nat → Int32, em_fM I I' → Q (some (.int (if w = 0 then nI (em_ct (2 ^ P.1) (em_led P X n a)) else em_oi (em_ff (em_led P X n a) 0 (2 ^ P.1))))) (em_SH, I', J, em_RT lw)) : em_wp em_sc0 (d + 8) 244 39 [some (.ref 284), some (.int (a)), some (.int (nI n)), some (.int (w)), some (.int (nI (em_cf (em_led P X n a) k m))), some (.int (em_oi (em_ff (em_led P X n a) k m))), some (.int (nI k + -1))] [] (em_SH, I, J, em_RT lw) Q := by
  have hn := hS.1.1.2.1
  have hp9 := em_pow9 hn
  induction k generalizing m I with
  | zero =>
    have e : m = 2 ^ P.1 := by omega
    subst e
    have ec := em_ct_cf (em_led P X n a) 0 (2 ^ P.1)
    rw [Nat.zero_add, show em_ct 0 (em_led P X n a) = 0 from rfl, Nat.zero_add] at ec
    iterate 2 refine em_next rfl ?_
    refine em_z_lt (fun _ => ?_) (fun q => absurd (by decide) q)
    iterate 2 refine em_next rfl ?_
    have g := h I em_fM.rf
    refine em_z_ne (fun z => ?_) (fun z => ?_)
    · rw [if_neg z] at g
      iterate 1 refine em_next rfl ?_
      exact em_done rfl g
    · rw [if_pos z, ← ec] at g
      iterate 2 refine em_next rfl ?_
      exact em_done rfl g
  | succ k ih =>
    have e1 : nI (k + 1) + -1 = nI k := by
      rw [nI_succ, Int32.add_assoc, show (1 : Int32) + -1 = 0 from rfl, Int32.add_zero]
    rw [e1]
    iterate 2 refine em_next rfl ?_
    refine em_z_lt (fun q => absurd q (nI_pos (by omega))) (fun _ => ?_)
    iterate 3 refine em_next rfl ?_
    refine em_inv_call rfl (me_R hS (by omega) (by omega) (fun I1 a1 => ?_))
    iterate 2 refine em_next rfl ?_
    have g := ih (m := m + 1) (I := I1) (hS.keep a1) (by omega) (fun I' f => h I' (a1.tr f))
    refine em_c_eq (fun q => ?_) (fun q => ?_)
    · have q2 : em_led P X n a k = true := decide_eq_true q
      rw [em_cf, em_ff, if_pos q2, if_pos q2, nI_succ] at g
      iterate 5 refine em_next rfl ?_
      exact g
    · have q2 : ¬ em_led P X n a k = true := fun e => q (of_decide_eq_true e)
      rw [em_cf, em_ff, if_neg q2, if_neg q2, Nat.add_zero] at g
      iterate 3 refine em_next rfl ?_
      exact g
theorem mq_leads (hS : mo_S I lv P X) {a n w : Int32} (h : ∀ I' : Nat → Nat → Int32, em_fM I I' → Q (some (.int (sp_leads P X a n w))) (em_SH, I', J, em_RT lw)) : em_call (d + 8) 244 [.ref 284, .int a, .int n, .int w] (em_SH, I, J, em_RT lw) Q := by
  have hn := hS.1.1.2.1
  have hp9 := em_pow9 hn
  have hp := Nat.two_pow_pos P.1
  unfold sp_leads at h
  iterate 2 refine em_next rfl ?_
  refine em_inv_call rfl (me_rowQ hS ?_)
  iterate 1 refine em_next rfl ?_
  refine em_b_eq (fun g => ?_) (fun g => ?_)
  · rw [if_neg (fun q => g q.1)] at h
    iterate 1 refine em_next rfl ?_
    exact em_done rfl (h I em_fM.rf)
  iterate 1 refine em_next rfl ?_
  refine em_inv_call rfl (me_isShort ?_)
  iterate 1 refine em_next rfl ?_
  refine em_b_eq (fun g2 => ?_) (fun g2 => ?_)
  · rw [if_neg (fun q => g2 q.2.1)] at h
    iterate 1 refine em_next rfl ?_
    exact em_done rfl (h I em_fM.rf)
  iterate 3 refine em_next rfl ?_
  refine em_inv_call rfl (me_inQ ?_)
  iterate 1 refine em_next rfl ?_
  refine em_b_ne (fun g3 => ?_) (fun g3 => ?_)
  · rw [if_pos ⟨g, g2, g3⟩] at h
    obtain ⟨m, hm, rfl, em⟩ := em_nat (m := 24) (by decide) g2.1 g2.2
    rw [em] at h
    iterate 5 refine em_next rfl ?_
    refine em_inv_call rfl (me_allBits hS.1 ?_)
    iterate 1 refine em_next rfl ?_
    have e1 : nI (2 ^ P.1) + -1 = nI (2 ^ P.1 - 1) := by
      have e := nI_succ (2 ^ P.1 - 1)
      rw [show 2 ^ P.1 - 1 + 1 = 2 ^ P.1 by omega] at e
      rw [e, Int32.add_assoc, show (1 : Int32) + -1 = 0 from rfl, Int32.add_zero]
    have g4 := me_leads_l (k := 2 ^ P.1) (m := 0) (d := d) (n := m) hS (by omega) (by omega) h
    rw [e1] at g4
    exact g4
  · rw [if_neg (fun q => g3 q.2.2)] at h
    iterate 1 refine em_next rfl ?_
    exact em_done rfl (h I em_fM.rf)
theorem me_rule_l (hS : mo_S I lv P X) (hN : mo_N I P.1 X.1 X.2.1 P.2.2.2.2 X.2.2) {b k m : Nat} (hb : b < P.1) (hk : k + m = 8) (h : ∀ I' : Nat → Nat → Int32, em_fM I I' → Q (some (.int (nI (em_cs P X.2.2 b (nI (X.2.1 % 24)))))) (em_SH, I', J, em_RT lw)) : em_wp em_sc0 (d + 8) 246 18 [some (.ref 284), some (.int (nI b)), some (.int (nI (em_or k (fun w => decide (0 < P.2.2.2.1 0 (em_fc P.1 P.2.2.1 P.2.2.2.2 X.2.2 b (nI (X.2.1 % 24)) w)))))), some (.int (nI k))] [] (em_SH, I, J, em_RT lw) Q := by
  have hn := hS.1.1.2.1
  induction m generalizing k I with
  | zero =>
    have e : k = 8 := by omega
    subst e
    iterate 3 refine em_next rfl ?_
    refine em_c_ge (fun _ => ?_) (fun h1 => absurd (by decide) h1)
    iterate 1 refine em_next rfl ?_
    exact em_done rfl (h I em_fM.rf)
  | succ m ih =>
    iterate 3 refine em_next rfl ?_
    refine em_c_ge (fun h1 => absurd h1 (nI_ge (b := 8) (by omega) (by decide))) (fun _ => ?_)
    iterate 2 refine em_next rfl ?_
    refine em_inv_call rfl (me_looks hS.1 hN hb (fun I1 a1 a2 => ?_))
    iterate 6 refine em_next rfl ?_
    refine em_iask (x := nI k &&& 1) (k := 0) rfl rfl (by decide) rfl ?_
    iterate 8 refine em_next rfl ?_
    refine em_iask (x := (nI k >>> (1 &&& 31)) &&& 1) (k := 1) rfl rfl (by decide) rfl ?_
    iterate 6 refine em_next rfl ?_
    refine em_iask (x := nI k >>> (2 &&& 31)) (k := 2) rfl rfl (by decide) rfl ?_
    have w3 := em_w3 k (by omega)
    have w4 := em_w4 k (by omega)
    have f1 : em_fM I (em_u (em_u (em_u I1 312 0 (nI k &&& 1)) 312 1 ((nI k >>> (1 &&& 31)) &&& 1)) 312 2 (nI k >>> (2 &&& 31))) := em_fM.row (a := 312) (by decide) (fun c hc => by rw [em_u_row hc, em_u_row hc, em_u_row hc, a1 c hc])
    have ev : em_v9 (em_u (em_u (em_u I1 312 0 (nI k &&& 1)) 312 1 ((nI k >>> (1 &&& 31)) &&& 1)) 312 2 (nI k >>> (2 &&& 31)) 312) = em_fc P.1 P.2.2.1 P.2.2.2.2 X.2.2 b (nI (X.2.1 % 24)) k := by
      show [nI k &&& 1, (nI k >>> (1 &&& 31)) &&& 1, nI k >>> (2 &&& 31), I1 312 3, I1 312 4, I1 312 5, I1 312 6, I1 312 7, I1 312 8] = _
      rw [w3.1, w3.2.1, w4]
      have z3 : I1 312 3 = P.2.2.2.2 b := congrArg (fun l => l.getD 3 0) a2
      have z4 : I1 312 4 = P.2.2.1 b := congrArg (fun l => l.getD 4 0) a2
      have z5 : I1 312 5 = nI (X.2.1 % 24) := congrArg (fun l => l.getD 5 0) a2
      have z6 : I1 312 6 = nI b := congrArg (fun l => l.getD 6 0) a2
      have z7 : I1 312 7 = nI P.1 := congrArg (fun l => l.getD 7 0) a2
      have z8 : I1 312 8 = X.2.2 b := congrArg (fun l => l.getD 8 0) a2
      rw [z3, z4, z5, z6, z7, z8]
      rfl
    iterate 5 refine em_next rfl ?_
    refine em_ialk (k := 0) rfl rfl (by decide) rfl ?_
    refine em_inv_call rfl (me_law (k := 0) (hS.1.keep f1) (by decide) ev (fun I2 a3 => ?_))
    have f2 := f1.tr a3.M
    have hN2 : mo_N I2 P.1 X.1 X.2.1 P.2.2.2.2 X.2.2 := hN.keep (by rw [a3.row (by decide) (by decide) (by decide), em_u_row (by decide), em_u_row (by decide), em_u_row (by decide), a1 _ (by decide)])
    have g := ih (k := k + 1) (I := I2) (hS.keep f2) hN2 (by omega) (fun I' f => h I' (f2.tr f))
    rw [nI_succ, em_or] at g
    iterate 1 refine em_next rfl ?_
    refine em_z_le (fun q => ?_) (fun q => ?_)
    · rw [if_neg (by simpa using Int32.not_lt.mpr q), Nat.add_zero] at g
      iterate 2 refine em_next rfl ?_
      exact g
    · rw [if_pos (by simpa using Int32.not_le.mp q), ← em_join8 k (by omega) _ (em_or_lt _ _)] at g
      iterate 8 refine em_next rfl ?_
      exact g
theorem mq_rule (hS : mo_S I lv P X) {b : Int32} (h : ∀ I' : Nat → Nat → Int32, em_fM I I' → Q (some (.int (sp_rule P X b))) (em_SH, I', J, em_RT lw)) : em_call (d + 8) 246 [.ref 284, .int b] (em_SH, I, J, em_RT lw) Q := by
  have hn := hS.1.1.2.1
  unfold sp_rule at h
  iterate 2 refine em_next rfl ?_
  refine em_inv_call rfl (me_bedQ hS ?_)
  iterate 1 refine em_next rfl ?_
  refine em_b_ne (fun g => ?_) (fun g => ?_)
  · rw [if_pos g] at h
    obtain ⟨s, hs, rfl, es⟩ := em_bedN hn g
    rw [es] at h
    iterate 1 refine em_next rfl ?_
    refine em_inv_call rfl (me_copies hS.1 (fun I1 a1 a2 _ _ => ?_))
    iterate 4 refine em_next rfl ?_
    exact me_rule_l (k := 0) (m := 8) (hS.keep a1) (hS.2.1.row hn a2) hs (by omega) (fun I' f => h I' (a1.tr f))
  · rw [if_neg g] at h
    iterate 1 refine em_next rfl ?_
    exact em_done rfl (h I em_fM.rf)
end MQ2
