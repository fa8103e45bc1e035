/-! how all lay, by what was seen later -/
/-- what was told: beds, hours, sides -/
abbrev em_Td : Type := (Nat → Nat) × (Nat → Nat) × (Nat → Bool)
def ey_ft (P : em_Pl) (X : em_Nt) (D : em_Td) (s : Nat) : Nat → Bool
  | 0 => true
  | k + 1 => ey_ft P X D s k && ((em_R P X (D.2.1 k) s).testBit (D.1 k) == D.2.2 k)
theorem ey_ft_no {P : em_Pl} {X : em_Nt} {D : em_Td} {s k : Nat} (h : ey_ft P X D s k = false) (m : Nat) : ey_ft P X D s (k + m) = false := by
  induction m with
  | zero => exact h
  | succ m ih =>
    rw [← Nat.add_assoc, ey_ft, ih, Bool.false_and]
def em_evp (q : Nat → Bool) : Nat → Bool
  | 0 => true
  | k + 1 => em_evp q k && q k
def em_evr (q : Nat → Bool) : Nat → Nat → Bool
  | _, 0 => true
  | k, m + 1 => em_evr q (k + 1) m && q k
theorem em_ev_pr (q : Nat → Bool) (k m : Nat) : (em_evp q k && em_evr q k m) = em_evp q (k + m) := by
  induction m generalizing k with
  | zero => exact Bool.and_true _
  | succ m ih =>
    have g := ih (k + 1)
    rw [em_evp, show k + 1 + m = k + (m + 1) by omega] at g
    rw [← g, em_evr, Bool.and_assoc, Bool.and_comm (q k)]
/-- in all of them so -/
def em_inL (p : Nat → Bool) (n k : Nat) : Nat := em_or n (fun b => em_evp (fun s => !p s || s.testBit b) k)
def em_inR (p : Nat → Bool) (n k : Nat) : Nat := em_or n (fun b => em_evp (fun s => !p s || !s.testBit b) k)
theorem em_and2 (a b : Nat) : nI a &&& nI b = nI (a &&& b) := by
  apply Int32.toBitVec_inj.mp
  show BitVec.ofNat 32 a &&& BitVec.ofNat 32 b = BitVec.ofNat 32 (a &&& b)
  exact BitVec.ofNat_and.symm
theorem em_or2 (a b : Nat) : nI a ||| nI b = nI (a ||| b) := by
  apply Int32.toBitVec_inj.mp
  show BitVec.ofNat 32 a ||| BitVec.ofNat 32 b = BitVec.ofNat 32 (a ||| b)
  exact BitVec.ofNat_or.symm
theorem em_or_ext {n : Nat} {a : Nat} {q : Nat → Bool} (ha : a < 2 ^ n) (h : ∀ b, b < n → a.testBit b = q b) : a = em_or n q := by
  rw [← em_or_self ha]
  exact em_or_congr h
theorem em_or_and {n : Nat} {q : Nat → Bool} {s : Nat} (hs : s < 2 ^ n) : em_or n q &&& s = em_or n (fun b => q b && s.testBit b) := em_or_ext (Nat.and_lt_two_pow _ hs) (fun b hb => by rw [Nat.testBit_and, em_or_bit hb])
theorem em_or_or {n : Nat} {q : Nat → Bool} {s : Nat} (hs : s < 2 ^ n) : em_or n q ||| s = em_or n (fun b => q b || s.testBit b) := em_or_ext (Nat.or_lt_two_pow (em_or_lt _ _) hs) (fun b hb => by rw [Nat.testBit_or, em_or_bit hb])
theorem em_not9 : ∀ n, n < 10 → ∀ s, s < 2 ^ n → nI (2 ^ n - 1) &&& (nI s ^^^ -1) = nI (2 ^ n - 1 - s) := by decide +kernel
theorem em_all_bits (n : Nat) : 2 ^ n - 1 = em_or n (fun _ => true) := em_or_ext (by have := Nat.two_pow_pos n; omega) (fun b hb => by rw [Nat.testBit_two_pow_sub_one]; exact decide_eq_true hb)
theorem ey_cpl {n : Nat} {q : Nat → Bool} : 2 ^ n - 1 - em_or n q = em_or n (fun b => !q b) := by
  have h1 := em_or_lt n q
  have e : 2 ^ n - 1 - em_or n q = 2 ^ n - (em_or n q + 1) := by omega
  rw [e]
  refine em_or_ext (by omega) (fun b hb => ?_)
  rw [Nat.testBit_two_pow_sub_succ h1, decide_eq_true hb, Bool.true_and, em_or_bit hb]
def em_kn (P : em_Pl) (X : em_Nt) (D : em_Td) (k s : Nat) : Bool := ey_ft P X D s k
def sp_lay (P : em_Pl) (X : em_Nt) (D : em_Td) (T : Nat) (k w : Int32) : Int32 := if em_ok 0 (nI T) k ∧ em_ok 0 3 w then (if w = 0 then nI (em_ct (2 ^ P.1) (em_kn P X D k.toNatClampNeg)) else if em_ct (2 ^ P.1) (em_kn P X D k.toNatClampNeg) = 0 then -2 else if w = 1 then em_oi (em_ff (em_kn P X D k.toNatClampNeg) 0 (2 ^ P.1)) else if w = 2 then nI (em_inL (em_kn P X D k.toNatClampNeg) P.1 (2 ^ P.1)) else nI (em_inR (em_kn P X D k.toNatClampNeg) P.1 (2 ^ P.1))) else -1
/-- how many are left at worst when one is looked at -/
def em_sl1 (P : em_Pl) (X : em_Nt) (D : em_Td) (k n b : Nat) (m : Nat) : Nat := em_ct m (fun s => em_kn P X D k s && (em_R P X n s).testBit b)
def em_ww (P : em_Pl) (X : em_Nt) (D : em_Td) (k n b : Nat) : Nat := if em_ct (2 ^ P.1) (em_kn P X D k) - em_sl1 P X D k n b (2 ^ P.1) < em_sl1 P X D k n b (2 ^ P.1) then em_sl1 P X D k n b (2 ^ P.1) else em_ct (2 ^ P.1) (em_kn P X D k) - em_sl1 P X D k n b (2 ^ P.1)
def sp_look (P : em_Pl) (X : em_Nt) (D : em_Td) (T : Nat) (k n : Int32) : Int32 := if em_ok 0 (nI T) k ∧ em_ok 0 24 n then (if em_ct (2 ^ P.1) (em_kn P X D k.toNatClampNeg) = 0 then -2 else em_oi (em_ai (fun _ => true) (em_ww P X D k.toNatClampNeg n.toNatClampNeg) P.1)) else -1
def mo_T (I : Nat → Nat → Int32) (n T : Nat) (D : em_Td) : Prop := (T ≤ 20 ∧ I 284 58 = nI T) ∧ ∀ i, i < T → I 322 i = nI (D.1 i) ∧ I 323 i = nI (D.2.1 i) ∧ I 324 i = em_bb (D.2.2 i) ∧ D.1 i < n ∧ D.2.1 i ≤ 24
theorem mo_T.keepQ {I I' : Nat → Nat → Int32} {n T : Nat} {D : em_Td} (h : mo_T I n T D) (he : em_fQ I I') : mo_T I' n T D := by
  obtain ⟨⟨h1, h2⟩, h3⟩ := h
  refine ⟨⟨h1, (he _ _ (by decide) (by decide)).trans h2⟩, fun i hi => ?_⟩
  rw [he _ _ (by decide) (fun q => absurd q.1 (by decide)), he _ _ (by decide) (fun q => absurd q.1 (by decide)), he _ _ (by decide) (fun q => absurd q.1 (by decide))]
  exact h3 i hi
theorem em_ct_pos {p : Nat → Bool} {n s : Nat} (hs : s < n) (hp : p s = true) : 0 < em_ct n p := by
  induction n with
  | zero => omega
  | succ n ih =>
    rw [em_ct]
    by_cases q : s = n
    · subst q
      rw [hp, if_pos rfl]
      omega
    · have := ih (by omega)
      omega
theorem em_ct_mono {p q : Nat → Bool} (h : ∀ s, p s = true → q s = true) (n : Nat) : em_ct n p ≤ em_ct n q := by
  induction n with
  | zero => exact Nat.le_refl _
  | succ n ih =>
    rw [em_ct, em_ct]
    by_cases z : p n = true
    · rw [if_pos z, if_pos (h n z)]
      omega
    · rw [if_neg z]
      split <;> omega
section MQ8
variable {d lw lv : Nat} {P : em_Pl} {X Y : em_Nt} {D : em_Td} {I I0 : Nat → Nat → Int32} {J : Nat → Nat → Int64} {M : em_M} {Q : Option Value → em_M → Prop} {stl : Bool} {sd : Int32}
theorem me_fl_b (hS : mo_S I lv P X) {T : Nat} (hT : mo_T I P.1 T D) {kk s c i m : Nat} (hs : s < 2 ^ P.1) (hkk : kk ≤ T) (hi : i + m = kk) (h0 : I 325 s = em_bb (ey_ft P X D s i)) (h : ∀ (I' : Nat → Nat → Int32) (o : Option Value), em_fQ I I' → (∀ t, t ≠ s → I' 325 t = I 325 t) → I' 325 s = em_bb (ey_ft P X D s kk) → em_wp em_sc0 (d + 8) 271 86 [some (.ref 284), some (.int (nI kk)), some (.int (nI c)), some (.int (nI s)), o] [] (em_SH, I', J, em_RT lw) Q) : em_wp em_sc0 (d + 8) 271 22 [some (.ref 284), some (.int (nI kk)), some (.int (nI c)), some (.int (nI s)), some (.int (nI i))] [] (em_SH, I, J, em_RT lw) Q := by
  have hn := hS.1.1.2.1
  have hp9 := em_pow9 hn
  have hT20 := hT.1.1
  induction m generalizing i I with
  | zero =>
    have e : i = kk := by omega
    subst e
    iterate 3 refine em_next rfl ?_
    refine em_c_ge (fun _ => ?_) (fun h1 => absurd (nI_le (Nat.le_refl _) (by omega)) h1)
    exact h I _ em_fQ.rf (fun _ _ => rfl) h0
  | succ m ih =>
    iterate 3 refine em_next rfl ?_
    refine em_c_ge (fun h1 => absurd h1 (nI_ge (by omega) (by omega))) (fun _ => ?_)
    iterate 3 refine em_next rfl ?_
    refine em_baln (k := s) rfl rfl (by omega) (by decide) ?_
    rw [h0]
    iterate 1 refine em_next rfl ?_
    obtain ⟨t1, t2, t3, t4, t5⟩ := hT.2 i (by omega)
    cases e : ey_ft P X D s i with
    | false =>
      refine em_z_eq (fun _ => ?_) (fun q => absurd rfl q)
      refine h I _ em_fQ.rf (fun _ _ => rfl) ?_
      have e2 := ey_ft_no e (m + 1)
      rw [hi] at e2
      rw [h0, e, e2]
    | true =>
      refine em_z_eq (fun q => absurd q (by decide)) (fun _ => ?_)
      iterate 8 refine em_next rfl ?_
      refine em_ialn (k := i) rfl rfl (by omega) (by decide) ?_
      rw [t2]
      refine em_inv_call rfl (me_R hS hs (by omega) (fun I1 a1 => ?_))
      have hT1 := hT.keepQ a1.Q
      obtain ⟨u1, u2, u3, u4, u5⟩ := hT1.2 i (by omega)
      have hlt : em_R P X (D.2.1 i) s < 2 ^ P.1 := em_R_lt hs
      iterate 3 refine em_next rfl ?_
      refine em_ialn (k := i) rfl rfl (by omega) (by decide) ?_
      rw [u1]
      iterate 3 refine em_next rfl ?_
      show em_wp em_sc0 (d + 8) 271 64 _ [.int ((nI (em_R P X (D.2.1 i) s) >>> (nI (D.1 i) &&& 31)) &&& 1), .int (nI s), .ref 325] _ _
      rw [em_bitC _ (by omega) _ (by omega), em_bit_bb]
      iterate 3 refine em_next rfl ?_
      refine em_ialn (k := i) rfl rfl (by omega) (by decide) ?_
      rw [u3]
      have nxt : ∀ z : Bool, z = ((em_R P X (D.2.1 i) s).testBit (D.1 i) == D.2.2 i) → em_wp em_sc0 (d + 8) 271 80 [some (.ref 284), some (.int (nI kk)), some (.int (nI c)), some (.int (nI s)), some (.int (nI i))] [] (em_SH, em_u I1 325 s (em_bb z), J, em_RT lw) Q := by
        intro z hz
        have f1 : em_fQ I (em_u I1 325 s (em_bb z)) := a1.Q.tr (em_fQ.row (a := 325) (by decide) (fun c hc => em_u_row hc))
        iterate 2 refine em_next rfl ?_
        have g := ih (i := i + 1) (I := em_u I1 325 s (em_bb z)) (hS.keepQ f1) (hT.keepQ f1) (by omega) (by rw [em_u_self, ey_ft, e, Bool.true_and, hz]) (fun I' o f g2 g3 => h I' o (f1.tr f) (fun t ht => by rw [g2 t ht, em_u_ne ht, a1 _ _ (by decide) (fun q => absurd q.1 (by decide))]) g3)
        rw [nI_succ] at g
        exact g
      iterate 1 refine em_next rfl ?_
      refine em_c_ne (fun q => ?_) (fun q => ?_)
      · iterate 1 refine em_next rfl ?_
        refine em_basn (k := s) (y := em_bb false) rfl rfl (by omega) (by decide) rfl ?_
        exact nxt false (by
          symm
          simpa using fun z => q (em_bb_inj.mpr z))
      · iterate 2 refine em_next rfl ?_
        refine em_basn (k := s) (y := em_bb true) rfl rfl (by omega) (by decide) rfl ?_
        exact nxt true (by
          symm
          simpa using em_bb_inj.mp q)
theorem me_fl_l (hS : mo_S I lv P X) {T : Nat} (hT : mo_T I P.1 T D) {kk k m : Nat} {o : Option Value} (hkk : kk ≤ T) (hk : k + m = 2 ^ P.1) (h0 : ∀ s, s < k → I 325 s = em_bb (em_kn P X D kk s)) (h : ∀ I' : Nat → Nat → Int32, em_fQ I I' → (∀ s, s < 2 ^ P.1 → I' 325 s = em_bb (em_kn P X D kk s)) → Q (some (.int (nI (em_ct (2 ^ P.1) (em_kn P X D kk))))) (em_SH, I', J, em_RT lw)) : em_wp em_sc0 (d + 8) 271 4 [some (.ref 284), some (.int (nI kk)), some (.int (nI (em_ct k (em_kn P X D kk)))), some (.int (nI k)), o] [] (em_SH, I, J, em_RT lw) Q := by
  have hn := hS.1.1.2.1
  have hp9 := em_pow9 hn
  have hp := Nat.two_pow_pos P.1
  induction m generalizing k I o with
  | zero =>
    have e : k = 2 ^ P.1 := by omega
    subst e
    iterate 2 refine em_next rfl ?_
    refine em_inv_call rfl (me_allBits hS.1 ?_)
    iterate 1 refine em_next rfl ?_
    refine em_c_gt (fun _ => ?_) (fun h1 => absurd (nI_lt (by omega) (by omega)) h1)
    iterate 1 refine em_next rfl ?_
    exact em_done rfl (h I em_fQ.rf h0)
  | succ m ih =>
    iterate 2 refine em_next rfl ?_
    refine em_inv_call rfl (me_allBits hS.1 ?_)
    iterate 1 refine em_next rfl ?_
    refine em_c_gt (fun h1 => absurd h1 (nI_nlt (by omega) (by omega))) (fun _ => ?_)
    iterate 4 refine em_next rfl ?_
    refine em_basn (k := k) (y := 1) rfl rfl (by omega) (by decide) rfl ?_
    have f1 : em_fQ I (em_u I 325 k 1) := em_fQ.row (a := 325) (by decide) (fun c hc => em_u_row hc)
    iterate 2 refine em_next rfl ?_
    refine me_fl_b (i := 0) (m := kk) (hS.keepQ f1) (hT.keepQ f1) (s := k) (by omega) hkk (by omega) em_u_self (fun I1 o1 a1 a2 a3 => ?_)
    have f2 := f1.tr a1
    iterate 3 refine em_next rfl ?_
    refine em_baln (k := k) rfl rfl (by omega) (by decide) ?_
    rw [a3]
    iterate 1 refine em_next rfl ?_
    have g := ih (k := k + 1) (I := I1) (o := o1) (hS.keepQ f2) (hT.keepQ f2) (by omega) (fun s hs => ?_) (fun I' f => h I' (f2.tr f))
    · rw [show em_ct (k + 1) (em_kn P X D kk) = em_ct k (em_kn P X D kk) + (if em_kn P X D kk k then 1 else 0) from rfl, nI_succ] at g
      cases e : ey_ft P X D k kk with
      | false =>
        rw [show em_kn P X D kk k = false from e, if_neg (by decide), Nat.add_zero] at g
        refine em_z_eq (fun _ => ?_) (fun q => absurd rfl q)
        iterate 2 refine em_next rfl ?_
        exact g
      | true =>
        rw [show em_kn P X D kk k = true from e, if_pos rfl, nI_succ] at g
        refine em_z_eq (fun q => absurd q (by decide)) (fun _ => ?_)
        iterate 3 refine em_next rfl ?_
        exact g
    · by_cases q : s = k
      · subst q
        exact a3
      · rw [a2 s q, em_u_ne q]
        exact h0 s (by omega)
theorem me_fillsLay (hS : mo_S I lv P X) {T : Nat} (hT : mo_T I P.1 T D) {kk : Nat} (hkk : kk ≤ T) (h : ∀ I' : Nat → Nat → Int32, em_fQ I I' → (∀ s, s < 2 ^ P.1 → I' 325 s = em_bb (em_kn P X D kk s)) → Q (some (.int (nI (em_ct (2 ^ P.1) (em_kn P X D kk))))) (em_SH, I', J, em_RT lw)) : em_call (d + 8) 271 [.ref 284, .int (nI kk)] (em_SH, I, J, em_RT lw) Q := by
  iterate 4 refine em_next rfl ?_
  exact me_fl_l (k := 0) (m := 2 ^ P.1) hS hT hkk (by omega) (fun s hs => by omega) h
def em_on2 : Option Nat → Int32
  | none => -1
  | some k => nI k
theorem me_lay_l (hS : mo_S I lv P X) {w c : Int32} {x1 : Int32} {p : Nat → Bool} {k m : Nat} (hv : ∀ s, s < 2 ^ P.1 → I 325 s = em_bb (p s)) (hk : k + m = 2 ^ P.1) (h : Q (some (.int (if w = 1 then em_on2 (em_ff p 0 (2 ^ P.1)) else if w = 2 then nI (em_inL p P.1 (2 ^ P.1)) else nI (em_inR p P.1 (2 ^ P.1))))) (em_SH, I, J, em_RT lw)) : em_wp em_sc0 (d + 2) 272 60 [some (.ref 284), some (.int (x1)), some (.int (w)), some (.int (c)), some (.int (em_on2 (em_ff p k m))), some (.int (nI (em_or P.1 (fun b => em_evr (fun s => !p s || s.testBit b) k m)))), some (.int (nI (em_or P.1 (fun b => !em_evr (fun s => !p s || !s.testBit b) k m)))), some (.int (nI k + -1))] [] (em_SH, I, J, em_RT lw) Q := by
  have hn := hS.1.1.2.1
  have hp9 := em_pow9 hn
  have hp := Nat.two_pow_pos P.1
  induction k generalizing m with
  | zero =>
    have e : m = 2 ^ P.1 := by omega
    subst e
    have e1 : ∀ q : Nat → Bool, em_evr q 0 (2 ^ P.1) = em_evp q (2 ^ P.1) := fun q => by
      have g := em_ev_pr q 0 (2 ^ P.1)
      rw [Nat.zero_add, show em_evp q 0 = true from rfl, Bool.true_and] at g
      exact g
    iterate 2 refine em_next rfl ?_
    refine em_z_lt (fun _ => ?_) (fun q => absurd (by decide) q)
    iterate 3 refine em_next rfl ?_
    refine em_c_ne (fun z => ?_) (fun z => ?_)
    · rw [if_neg (show ¬ w = 1 from z)] at h
      iterate 3 refine em_next rfl ?_
      refine em_c_ne (fun z2 => ?_) (fun z2 => ?_)
      · rw [if_neg (show ¬ w = 2 from z2)] at h
        iterate 1 refine em_next rfl ?_
        refine em_inv_call rfl (me_allBits hS.1 ?_)
        iterate 4 refine em_next rfl ?_
        refine em_done rfl ?_
        have e2 : nI (2 ^ P.1 - 1) &&& (nI (em_or P.1 (fun b => !em_evr (fun s => !p s || !s.testBit b) 0 (2 ^ P.1))) ^^^ -1) = nI (em_inR p P.1 (2 ^ P.1)) := by
          rw [em_not9 P.1 (by omega) _ (em_or_lt _ _), ey_cpl]
          congr 1
          exact em_or_congr (fun b _ => by rw [e1, Bool.not_not])
        rw [← e2] at h
        exact h
      · rw [if_pos (show w = 2 from z2)] at h
        iterate 2 refine em_next rfl ?_
        refine em_done rfl ?_
        have e2 : em_or P.1 (fun b => em_evr (fun s => !p s || s.testBit b) 0 (2 ^ P.1)) = em_inL p P.1 (2 ^ P.1) := em_or_congr (fun b _ => e1 _)
        rw [← e2] at h
        exact h
    · rw [if_pos (show w = 1 from z)] at h
      iterate 2 refine em_next rfl ?_
      exact em_done rfl h
  | succ k ih =>
    have e1 : nI (k + 1) + -1 = nI k := by
      rw [nI_succ, Int32.add_assoc, show (1 : Int32) + -1 = 0 from rfl, Int32.add_zero]
    rw [e1]
    iterate 2 refine em_next rfl ?_
    refine em_z_lt (fun q => absurd q (nI_pos (by omega))) (fun _ => ?_)
    iterate 3 refine em_next rfl ?_
    refine em_baln (k := k) rfl rfl (by omega) (by decide) ?_
    rw [hv k (by omega)]
    iterate 1 refine em_next rfl ?_
    have g := ih (m := m + 1) (by omega)
    rw [em_ff] at g
    cases e : p k with
    | true =>
      refine em_z_ne (fun _ => ?_) (fun q => absurd q (by decide))
      rw [if_pos e] at g
      have e2 : em_or P.1 (fun b => em_evr (fun s => !p s || s.testBit b) k (m + 1)) = em_or P.1 (fun b => em_evr (fun s => !p s || s.testBit b) (k + 1) m) &&& k := by
        rw [em_or_and (by omega)]
        refine em_or_congr (fun b _ => ?_)
        rw [em_evr, e]
        rfl
      have e3 : em_or P.1 (fun b => !em_evr (fun s => !p s || !s.testBit b) k (m + 1)) = em_or P.1 (fun b => !em_evr (fun s => !p s || !s.testBit b) (k + 1) m) ||| k := by
        rw [em_or_or (by omega)]
        refine em_or_congr (fun b _ => ?_)
        rw [em_evr, e, Bool.not_and]
        cases k.testBit b <;> rfl
      rw [e2, e3, ← em_and2, ← em_or2] at g
      iterate 12 refine em_next rfl ?_
      exact g
    | false =>
      refine em_z_ne (fun q => absurd rfl q) (fun _ => ?_)
      rw [if_neg (by rw [e]; decide)] at g
      have e2 : em_or P.1 (fun b => em_evr (fun s => !p s || s.testBit b) k (m + 1)) = em_or P.1 (fun b => em_evr (fun s => !p s || s.testBit b) (k + 1) m) := em_or_congr (fun b _ => by rw [em_evr, e]; exact Bool.and_true _)
      have e3 : em_or P.1 (fun b => !em_evr (fun s => !p s || !s.testBit b) k (m + 1)) = em_or P.1 (fun b => !em_evr (fun s => !p s || !s.testBit b) (k + 1) m) := em_or_congr (fun b _ => by rw [em_evr, e]; exact congrArg _ (Bool.and_true _))
      rw [e2, e3] at g
      iterate 3 refine em_next rfl ?_
      exact g
theorem em_ff_some {p : Nat → Bool} {k m s : Nat} (h1 : k ≤ s) (h2 : s < k + m) (hp : p s = true) : ∃ t, em_ff p k m = some t := by
  induction m generalizing k with
  | zero => omega
  | succ m ih =>
    rw [em_ff]
    by_cases q : p k = true
    · exact ⟨k, if_pos q⟩
    · rw [if_neg q]
      refine ih ?_ (by omega)
      rcases Nat.lt_or_ge k s with z | z
      · omega
      · have : s = k := by omega
        rw [this] at hp
        exact absurd hp q
theorem em_ct_ex {p : Nat → Bool} {n : Nat} (h : em_ct n p ≠ 0) : ∃ s, s < n ∧ p s = true := by
  induction n with
  | zero => exact absurd rfl h
  | succ n ih =>
    by_cases q : p n = true
    · exact ⟨n, by omega, q⟩
    · rw [em_ct, if_neg q, Nat.add_zero] at h
      obtain ⟨s, h1, h2⟩ := ih h
      exact ⟨s, by omega, h2⟩
theorem mq_lay (hS : mo_S I lv P X) {T : Nat} (hT : mo_T I P.1 T D) {k w : Int32} (h : ∀ I' : Nat → Nat → Int32, em_fQ I I' → Q (some (.int (sp_lay P X D T k w))) (em_SH, I', J, em_RT lw)) : em_call (d + 9) 272 [.ref 284, .int k, .int w] (em_SH, I, J, em_RT lw) Q := by
  have hn := hS.1.1.2.1
  have hp9 := em_pow9 hn
  have hp := Nat.two_pow_pos P.1
  have hT20 := hT.1.1
  unfold sp_lay at h
  iterate 3 refine em_next rfl ?_
  show em_wp em_sc0 (d + 9) 272 3 _ [.ref 284, .int 0, .int k] _ _
  iterate 1 refine em_next rfl ?_
  show em_wp em_sc0 (d + 9) 272 6 _ [.int (I 284 58), .int 0, .int k] _ _
  rw [hT.1.2]
  refine em_inv_call rfl (me_inQ (a := 0) (b := nI T) ?_)
  iterate 1 refine em_next rfl ?_
  refine em_b_eq (fun g => ?_) (fun g => ?_)
  · rw [if_neg (fun q => g q.1)] at h
    iterate 1 refine em_next rfl ?_
    exact em_done rfl (h I em_fQ.rf)
  iterate 3 refine em_next rfl ?_
  refine em_inv_call rfl (me_inQ (a := 0) (b := 3) ?_)
  iterate 1 refine em_next rfl ?_
  refine em_b_ne (fun g2 => ?_) (fun g2 => ?_)
  · rw [if_pos ⟨g, g2⟩] at h
    obtain ⟨m, hm, rfl, em⟩ := em_nat (m := T) (by omega) g.1 g.2
    rw [em] at h
    iterate 2 refine em_next rfl ?_
    refine em_inv_call rfl (me_fillsLay hS hT hm (fun I1 a1 a2 => ?_))
    have gg := h I1 a1
    have hc := em_ct_le (2 ^ P.1) (em_kn P X D m)
    iterate 3 refine em_next rfl ?_
    refine em_z_ne (fun z => ?_) (fun z => ?_)
    · rw [if_neg z] at gg
      iterate 2 refine em_next rfl ?_
      refine em_z_ne (fun z2 => ?_) (fun z2 => ?_)
      · have z3 : ¬ em_ct (2 ^ P.1) (em_kn P X D m) = 0 := fun e => z2 (by rw [e]; rfl)
        rw [if_neg z3] at gg
        obtain ⟨s, hs1, hs2⟩ := em_ct_ex z3
        obtain ⟨t, ht⟩ := em_ff_some (k := 0) (m := 2 ^ P.1) (s := s) (by omega) (by omega) hs2
        iterate 3 refine em_next rfl ?_
        refine em_inv_call rfl (me_allBits (hS.keepQ a1).1 ?_)
        iterate 4 refine em_next rfl ?_
        refine em_inv_call rfl (me_allBits (hS.keepQ a1).1 ?_)
        iterate 1 refine em_next rfl ?_
        have e1 : nI (2 ^ P.1) + -1 = nI (2 ^ P.1 - 1) := by
          have e := nI_succ (2 ^ P.1 - 1)
          rw [show 2 ^ P.1 - 1 + 1 = 2 ^ P.1 by omega] at e
          rw [e, Int32.add_assoc, show (1 : Int32) + -1 = 0 from rfl, Int32.add_zero]
        have g3 := me_lay_l (d := d + 7) (J := J) (lw := lw) (Q := Q) (w := w) (c := nI (em_ct (2 ^ P.1) (em_kn P X D m))) (x1 := nI m) (k := 2 ^ P.1) (m := 0) (hS.keepQ a1) a2 (by omega) (by
          rw [ht] at gg ⊢
          exact gg)
        have ez : em_or P.1 (fun b => !em_evr (fun s => !em_kn P X D m s || !s.testBit b) (2 ^ P.1) 0) = 0 := by
          symm
          refine em_or_ext (Nat.two_pow_pos _) (fun b hb => ?_)
          exact Nat.zero_testBit b
        rw [e1, ez, show em_or P.1 (fun b => em_evr (fun s => !em_kn P X D m s || s.testBit b) (2 ^ P.1) 0) = 2 ^ P.1 - 1 from (em_all_bits P.1).symm] at g3
        exact g3
      · have z3 : em_ct (2 ^ P.1) (em_kn P X D m) = 0 := (nI_eq (by omega) (by decide)).mp z2
        rw [if_pos z3] at gg
        iterate 1 refine em_next rfl ?_
        exact em_done rfl gg
    · rw [if_pos z] at gg
      iterate 1 refine em_next rfl ?_
      exact em_done rfl gg
  · rw [if_neg (fun q => g2 q.2)] at h
    iterate 1 refine em_next rfl ?_
    exact em_done rfl (h I em_fQ.rf)
theorem me_look_0 (hS : mo_S I lv P X) {n x1 x3 : Int32} {k m : Nat} {o1 o2 o3 : Option Value} (hk : k + m = P.1) (h0 : ∀ b, b < k → I 321 b = 0) (h : ∀ I' : Nat → Nat → Int32, em_fQ I I' → (∀ s, I' 325 s = I 325 s) → (∀ b, b < P.1 → I' 321 b = 0) → em_wp em_sc0 (d + 8) 273 53 [some (.ref 284), some (.int (x1)), some (.int (n)), some (.int (x3)), some (.int (nI P.1)), o1, o2, o3] [] (em_SH, I', J, em_RT lw) Q) : em_wp em_sc0 (d + 8) 273 30 [some (.ref 284), some (.int (x1)), some (.int (n)), some (.int (x3)), some (.int (nI k)), o1, o2, o3] [] (em_SH, I, J, em_RT lw) Q := by
  have hn := hS.1.1.2.1
  induction m generalizing k I with
  | zero =>
    have e : k = P.1 := by omega
    subst e
    iterate 2 refine em_next rfl ?_
    refine em_inv_call rfl (me_many hS.1 ?_)
    iterate 1 refine em_next rfl ?_
    refine em_c_ge (fun _ => ?_) (fun h1 => absurd (nI_le (Nat.le_refl _) (by omega)) h1)
    exact h I em_fQ.rf (fun _ => rfl) h0
  | succ m ih =>
    iterate 2 refine em_next rfl ?_
    refine em_inv_call rfl (me_many hS.1 ?_)
    iterate 1 refine em_next rfl ?_
    refine em_c_ge (fun h1 => absurd h1 (nI_ge (by omega) (by omega))) (fun _ => ?_)
    iterate 4 refine em_next rfl ?_
    refine em_iasn (k := k) (x := 0) rfl rfl (by omega) (by decide) ?_
    have f1 : em_fQ I (em_u I 321 k 0) := em_fQ.row (a := 321) (by decide) (fun c hc => em_u_row hc)
    iterate 2 refine em_next rfl ?_
    have g := ih (k := k + 1) (I := em_u I 321 k 0) (hS.keepQ f1) (by omega) (fun b hb => ?_) (fun I' f g1 => h I' (f1.tr f) (fun s => by rw [g1 s, em_u_row (by decide)]))
    · rw [nI_succ] at g
      exact g
    · by_cases q : b = k
      · subst q
        exact em_u_self
      · rw [em_u_ne q]
        exact h0 b (by omega)
theorem me_look_1 (hS : mo_S I lv P X) {n x1 x3 x4 : Int32} {t k m : Nat} {v : Nat → Nat} {o3 : Option Value} (ht : t < 2 ^ P.1) (hk : k + m = P.1) (h1 : ∀ b, b < k → I 321 b = nI (v b + (if t.testBit b then 1 else 0))) (h2 : ∀ b, k ≤ b → b < P.1 → I 321 b = nI (v b)) (h : ∀ (I' : Nat → Nat → Int32) (o : Option Value), em_fQ I I' → (∀ s, I' 325 s = I 325 s) → (∀ b, b < P.1 → I' 321 b = nI (v b + (if t.testBit b then 1 else 0))) → em_wp em_sc0 (d + 8) 273 122 [some (.ref 284), some (.int (x1)), some (.int (n)), some (.int (x3)), some (.int (x4)), some (.int (nI t)), o, o3] [] (em_SH, I', J, em_RT lw) Q) : em_wp em_sc0 (d + 8) 273 90 [some (.ref 284), some (.int (x1)), some (.int (n)), some (.int (x3)), some (.int (x4)), some (.int (nI t)), some (.int (nI k)), o3] [] (em_SH, I, J, em_RT lw) Q := by
  have hn := hS.1.1.2.1
  have hp9 := em_pow9 hn
  induction m generalizing k I with
  | zero =>
    have e : k = P.1 := by omega
    subst e
    iterate 2 refine em_next rfl ?_
    refine em_inv_call rfl (me_many hS.1 ?_)
    iterate 1 refine em_next rfl ?_
    refine em_c_ge (fun _ => ?_) (fun h1 => absurd (nI_le (Nat.le_refl _) (by omega)) h1)
    exact h I _ em_fQ.rf (fun _ => rfl) h1
  | succ m ih =>
    iterate 2 refine em_next rfl ?_
    refine em_inv_call rfl (me_many hS.1 ?_)
    iterate 1 refine em_next rfl ?_
    refine em_c_ge (fun h1 => absurd h1 (nI_ge (by omega) (by omega))) (fun _ => ?_)
    iterate 4 refine em_next rfl ?_
    refine em_ialn (k := k) rfl rfl (by omega) (by decide) ?_
    iterate 5 refine em_next rfl ?_
    show em_wp em_sc0 (d + 8) 273 114 _ [.int ((nI t >>> (nI k &&& 31)) &&& 1), .int (I 321 k), .int (nI k), .ref 321] _ _
    rw [em_bitC t (by omega) k (by omega), h2 k (Nat.le_refl _) (by omega)]
    iterate 1 refine em_next rfl ?_
    have e0 : nI (v k) + em_bit t k = nI (v k + (if t.testBit k then 1 else 0)) := by
      unfold em_bit
      rw [em_nadd]
      split <;> rfl
    refine em_iasn (x := nI (v k) + em_bit t k) (k := k) rfl rfl (by omega) (by decide) ?_
    rw [e0]
    have f1 : em_fQ I (em_u I 321 k (nI (v k + (if t.testBit k then 1 else 0)))) := em_fQ.row (a := 321) (by decide) (fun c hc => em_u_row hc)
    iterate 2 refine em_next rfl ?_
    have g := ih (k := k + 1) (I := em_u I 321 k (nI (v k + (if t.testBit k then 1 else 0)))) (hS.keepQ f1) (by omega) (fun b hb => ?_) (fun b hb hb2 => ?_) (fun I' o f g1 => h I' o (f1.tr f) (fun s => by rw [g1 s, em_u_row (by decide)]))
    · rw [nI_succ] at g
      exact g
    · by_cases q : b = k
      · subst q
        exact em_u_self
      · rw [em_u_ne q]
        exact h1 b (by omega)
    · rw [em_u_ne (by omega)]
      exact h2 b (by omega) hb2
theorem me_look_2 (hS : mo_S I lv P X) {x1 x3 : Int32} {kk n k m : Nat} {o1 o2 o3 : Option Value} (hnn : n < 25) (ho : ∀ v, o1 = some v → v.category = 1) (hv : ∀ s, s < 2 ^ P.1 → I 325 s = em_bb (em_kn P X D kk s)) (hk : k + m = 2 ^ P.1) (h0 : ∀ b, b < P.1 → I 321 b = nI (em_sl1 P X D kk n b k)) (h : ∀ (I' : Nat → Nat → Int32) (o1 o2 o3 : Option Value), em_fQ I I' → (∀ b, b < P.1 → I' 321 b = nI (em_sl1 P X D kk n b (2 ^ P.1))) → em_wp em_sc0 (d + 8) 273 128 [some (.ref 284), some (.int (x1)), some (.int (nI n)), some (.int (x3)), o1, o2, o3, none] [] (em_SH, I', J, em_RT lw) Q) : em_wp em_sc0 (d + 8) 273 56 [some (.ref 284), some (.int (x1)), some (.int (nI n)), some (.int (x3)), some (.int (nI k)), o1, o2, none] [] (em_SH, I, J, em_RT lw) Q := by
  have hn := hS.1.1.2.1
  have hp9 := em_pow9 hn
  have hp := Nat.two_pow_pos P.1
  induction m generalizing k I o1 o2 with
  | zero =>
    have e : k = 2 ^ P.1 := by omega
    subst e
    iterate 2 refine em_next rfl ?_
    refine em_inv_call rfl (me_allBits hS.1 ?_)
    iterate 1 refine em_next rfl ?_
    refine em_c_gt (fun _ => ?_) (fun h1 => absurd (nI_lt (by omega) (by omega)) h1)
    exact h I _ _ _ em_fQ.rf h0
  | succ m ih =>
    iterate 2 refine em_next rfl ?_
    refine em_inv_call rfl (me_allBits hS.1 ?_)
    iterate 1 refine em_next rfl ?_
    refine em_c_gt (fun h1 => absurd h1 (nI_nlt (by omega) (by omega))) (fun _ => ?_)
    iterate 3 refine em_next rfl ?_
    refine em_baln (k := k) rfl rfl (by omega) (by decide) ?_
    rw [hv k (by omega)]
    iterate 1 refine em_next rfl ?_
    have es : ∀ b, em_sl1 P X D kk n b (k + 1) = em_sl1 P X D kk n b k + (if em_kn P X D kk k && (em_R P X n k).testBit b then 1 else 0) := fun _ => rfl
    cases e : em_kn P X D kk k with
    | true =>
      refine em_z_ne (fun _ => ?_) (fun q => absurd q (by decide))
      iterate 3 refine em_next rfl ?_
      refine em_inv_call rfl (me_R hS (s := k) (by omega) (by omega) (fun I1 a1 => ?_))
      iterate 3 refine em_next rfl ?_
      refine me_look_1 (k := 0) (m := P.1) (v := fun b => em_sl1 P X D kk n b k) (hS.keep a1) (em_R_lt (by omega)) (by omega) (fun b hb => by omega) (fun b _ hb => by rw [a1 _ _ (by decide) (fun q => absurd q.1 (by decide))]; exact h0 b hb) (fun I2 o b1 b2 b3 => ?_)
      have f2 := a1.Q.tr b1
      iterate 2 refine em_next rfl ?_
      have g := ih (k := k + 1) (I := I2) (o1 := some (.int (nI (em_R P X n k)))) (o2 := o) (hS.keepQ f2) (fun v hv => by cases hv; rfl) (fun s hs => by rw [b2, a1 _ _ (by decide) (fun q => absurd q.1 (by decide))]; exact hv s hs) (by omega) (fun b hb => by rw [b3 b hb, es, e, Bool.true_and]) (fun I' o1 o2 o3 f => h I' o1 o2 o3 (f2.tr f))
      rw [nI_succ] at g
      exact g
    | false =>
      refine em_z_ne (fun q => absurd rfl q) (fun _ => ?_)
      have g := ih (k := k + 1) (I := I) (o1 := o1) (o2 := o2) hS ho hv (by omega) (fun b hb => by rw [es, e, Bool.false_and, if_neg (by decide)]; exact h0 b hb) h
      rw [nI_succ] at g
      iterate 3 refine em_next rfl ?_
      exact g
theorem me_look_3 (hS : mo_S I lv P X) {x1 x2 : Int32} {kk n k m c : Nat} {o : Option Value} (hc : c = em_ct (2 ^ P.1) (em_kn P X D kk)) (hc0 : 0 < c) (hv : ∀ b, b < P.1 → I 321 b = nI (em_sl1 P X D kk n b (2 ^ P.1))) (hk : k + m = P.1) (h : Q (some (.int (em_oi (em_ai (fun _ => true) (em_ww P X D kk n) P.1)))) (em_SH, I, J, em_RT lw)) : em_wp em_sc0 (d + 8) 273 138 [some (.ref 284), some (.int (x1)), some (.int (x2)), some (.int (nI c)), some (.int (em_oi (em_ai (fun _ => true) (em_ww P X D kk n) k))), some (.int (em_x0 (em_ww P X D kk n) (em_ai (fun _ => true) (em_ww P X D kk n) k))), some (.int (nI k)), o] [] (em_SH, I, J, em_RT lw) Q := by
  have hn := hS.1.1.2.1
  have hp9 := em_pow9 hn
  have hcl : c ≤ 2 ^ P.1 := by rw [hc]; exact em_ct_le _ _
  have hsl : ∀ b, em_sl1 P X D kk n b (2 ^ P.1) ≤ c := fun b => by
    rw [hc]
    exact em_ct_mono (fun s q => by
      rw [Bool.and_eq_true] at q
      exact q.1) _
  have hw : ∀ b, em_ww P X D kk n b ≤ c := fun b => by
    have := hsl b
    unfold em_ww
    rw [← hc]
    split <;> omega
  induction m generalizing k o with
  | zero =>
    have e : k = P.1 := by omega
    subst e
    iterate 2 refine em_next rfl ?_
    refine em_inv_call rfl (me_many hS.1 ?_)
    iterate 1 refine em_next rfl ?_
    refine em_c_ge (fun _ => ?_) (fun h1 => absurd (nI_le (Nat.le_refl _) (by omega)) h1)
    iterate 1 refine em_next rfl ?_
    exact em_done rfl h
  | succ m ih =>
    iterate 2 refine em_next rfl ?_
    refine em_inv_call rfl (me_many hS.1 ?_)
    iterate 1 refine em_next rfl ?_
    refine em_c_ge (fun h1 => absurd h1 (nI_ge (by omega) (by omega))) (fun _ => ?_)
    iterate 2 refine em_next rfl ?_
    refine em_z_le (fun q => absurd q (nI_nle hc0 (by omega))) (fun _ => ?_)
    iterate 3 refine em_next rfl ?_
    refine em_ialn (k := k) rfl rfl (by omega) (by decide) ?_
    rw [hv k (by omega)]
    iterate 4 refine em_next rfl ?_
    refine em_ialn (k := k) rfl rfl (by omega) (by decide) ?_
    rw [hv k (by omega)]
    have hs := hsl k
    have esub : nI c - nI (em_sl1 P X D kk n k (2 ^ P.1)) = nI (c - em_sl1 P X D kk n k (2 ^ P.1)) := by
      have e : nI c = nI (c - em_sl1 P X D kk n k (2 ^ P.1)) + nI (em_sl1 P X D kk n k (2 ^ P.1)) := by rw [← em_nadd]; congr 1; omega
      rw [e, Int32.add_sub_cancel]
    iterate 1 refine em_next rfl ?_
    show em_wp em_sc0 (d + 8) 273 167 _ [.int (nI c - nI (em_sl1 P X D kk n k (2 ^ P.1))), .int (nI (em_sl1 P X D kk n k (2 ^ P.1)))] _ _
    rw [esub]
    have nxt : ∀ x : Nat, x = em_ww P X D kk n k → em_wp em_sc0 (d + 8) 273 189 [some (.ref 284), some (.int (x1)), some (.int (x2)), some (.int (nI c)), some (.int (em_oi (em_ai (fun _ => true) (em_ww P X D kk n) k))), some (.int (em_x0 (em_ww P X D kk n) (em_ai (fun _ => true) (em_ww P X D kk n) k))), some (.int (nI k)), o] [.int (nI x)] (em_SH, I, J, em_RT lw) Q := by
      intro x hx
      subst hx
      have g := ih (k := k + 1) (o := some (.int (nI (em_ww P X D kk n k)))) (by omega)
      rw [em_ai, nI_succ] at g
      iterate 3 refine em_next rfl ?_
      cases e : em_ai (fun _ => true) (em_ww P X D kk n) k with
      | none =>
        rw [e] at g
        refine em_z_lt (fun _ => ?_) (fun q => absurd (by decide) q)
        iterate 6 refine em_next rfl ?_
        exact g
      | some b =>
        rw [e] at g
        dsimp only at g
        rw [Bool.true_and] at g
        have hb := em_ai_lt e
        have w1 := hw k
        have w2 := hw b
        refine em_z_lt (fun q => absurd q (nI_pos (by omega))) (fun _ => ?_)
        iterate 3 refine em_next rfl ?_
        refine em_c_lt (fun q => ?_) (fun q => ?_)
        · rw [decide_eq_true ((nI_ltI (by omega) (by omega)).mp q : em_ww P X D kk n k < em_ww P X D kk n b), if_pos rfl] at g
          iterate 6 refine em_next rfl ?_
          exact g
        · rw [decide_eq_false (fun z : em_ww P X D kk n k < em_ww P X D kk n b => q ((nI_ltI (by omega) (by omega)).mpr z)), if_neg (by decide)] at g
          iterate 3 refine em_next rfl ?_
          exact g
    iterate 1 refine em_next rfl ?_
    refine em_c_le (fun q => ?_) (fun q => ?_)
    · have q2 : em_sl1 P X D kk n k (2 ^ P.1) ≤ c - em_sl1 P X D kk n k (2 ^ P.1) := (nI_leI (by omega) (by omega)).mp q
      iterate 4 refine em_next rfl ?_
      refine em_ialn (k := k) rfl rfl (by omega) (by decide) ?_
      rw [hv k (by omega)]
      iterate 1 refine em_next rfl ?_
      show em_wp em_sc0 (d + 8) 273 189 _ [.int (nI c - nI (em_sl1 P X D kk n k (2 ^ P.1)))] _ _
      rw [esub]
      refine nxt _ ?_
      unfold em_ww
      rw [← hc, if_neg (by omega)]
    · have q2 : ¬ em_sl1 P X D kk n k (2 ^ P.1) ≤ c - em_sl1 P X D kk n k (2 ^ P.1) := fun z => q ((nI_leI (by omega) (by omega)).mpr z)
      iterate 3 refine em_next rfl ?_
      refine em_ialn (k := k) rfl rfl (by omega) (by decide) ?_
      rw [hv k (by omega)]
      iterate 1 refine em_next rfl ?_
      refine nxt _ ?_
      unfold em_ww
      rw [← hc, if_pos (by omega)]
theorem mq_look (hS : mo_S I lv P X) {T : Nat} (hT : mo_T I P.1 T D) {k n : Int32} (h : ∀ I' : Nat → Nat → Int32, em_fQ I I' → Q (some (.int (sp_look P X D T k n))) (em_SH, I', J, em_RT lw)) : em_call (d + 9) 273 [.ref 284, .int k, .int n] (em_SH, I, J, em_RT lw) Q := by
  have hn := hS.1.1.2.1
  have hp9 := em_pow9 hn
  have hT20 := hT.1.1
  unfold sp_look at h
  iterate 3 refine em_next rfl ?_
  show em_wp em_sc0 (d + 9) 273 3 _ [.ref 284, .int 0, .int k] _ _
  iterate 1 refine em_next rfl ?_
  show em_wp em_sc0 (d + 9) 273 6 _ [.int (I 284 58), .int 0, .int k] _ _
  rw [hT.1.2]
  refine em_inv_call rfl (me_inQ (a := 0) (b := nI T) ?_)
  iterate 1 refine em_next rfl ?_
  refine em_b_eq (fun g => ?_) (fun g => ?_)
  · rw [if_neg (fun q => g q.1)] at h
    iterate 1 refine em_next rfl ?_
    exact em_done rfl (h I em_fQ.rf)
  iterate 1 refine em_next rfl ?_
  refine em_inv_call rfl (me_isShort ?_)
  iterate 1 refine em_next rfl ?_
  refine em_b_ne (fun g2 => ?_) (fun g2 => ?_)
  · rw [if_pos ⟨g, g2⟩] at h
    obtain ⟨kk, hm, rfl, em⟩ := em_nat (m := T) (by omega) g.1 g.2
    obtain ⟨t, ht, rfl, et⟩ := em_nat (m := 24) (by decide) g2.1 g2.2
    rw [em, et] at h
    iterate 2 refine em_next rfl ?_
    refine em_inv_call rfl (me_fillsLay hS hT hm (fun I1 a1 a2 => ?_))
    iterate 3 refine em_next rfl ?_
    refine me_look_0 (d := d + 1) (k := 0) (m := P.1) (hS.keepQ a1) (by omega) (fun b hb => by omega) (fun I2 b1 b2 b3 => ?_)
    have f2 := a1.tr b1
    iterate 2 refine em_next rfl ?_
    refine me_look_2 (d := d + 1) (D := D) (kk := kk) (n := t) (k := 0) (m := 2 ^ P.1) (o3 := none) (hS.keepQ f2) (by omega) (fun v hv => by cases hv) (fun s hs => by rw [b2]; exact a2 s hs) (by omega) (fun b hb => b3 b hb) (fun I3 o1 o2 o3 c1 c2 => ?_)
    have f3 := f2.tr c1
    have gg := h I3 f3
    have hcl := em_ct_le (2 ^ P.1) (em_kn P X D kk)
    iterate 6 refine em_next rfl ?_
    by_cases z : em_ct (2 ^ P.1) (em_kn P X D kk) = 0
    · rw [if_pos z] at gg
      rw [z]
      iterate 2 refine em_next rfl ?_
      refine em_inv_call rfl (me_many (hS.keepQ f3).1 ?_)
      iterate 1 refine em_next rfl ?_
      refine em_c_ge (fun _ => ?_) (fun _ => ?_)
      · iterate 1 refine em_next rfl ?_
        exact em_done rfl gg
      · iterate 2 refine em_next rfl ?_
        refine em_z_le (fun _ => ?_) (fun q => absurd (by decide) q)
        iterate 1 refine em_next rfl ?_
        exact em_done rfl gg
    · rw [if_neg z] at gg
      exact me_look_3 (d := d + 1) (D := D) (kk := kk) (n := t) (k := 0) (m := P.1) (hS.keepQ f3) rfl (by omega) c2 (by omega) gg
  · rw [if_neg (fun q => g2 q.2)] at h
    iterate 1 refine em_next rfl ?_
    exact em_done rfl (h I em_fQ.rf)
end MQ8
