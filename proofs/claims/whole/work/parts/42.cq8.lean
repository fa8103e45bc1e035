/-! the class: its questions, seven: how all lay -/
def cs_T (I : Nat → Nat → Int32) (n T : Nat) (D : em_Td) : Prop := (T ≤ 20 ∧ I 266 3 = nI T) ∧ ∀ i, i < T → I 267 i = nI (D.1 i) ∧ I 268 i = nI (D.2.1 i) ∧ I 269 i = em_bb (D.2.2 i) ∧ D.1 i < n ∧ D.2.1 i ≤ 24
theorem cs_T.keep {I I' : Nat → Nat → Int32} {n T : Nat} {D : em_Td} (h : cs_T I n T D) (he : em_fW I I') : cs_T I' n T D := by
  unfold cs_T
  rw [he 266 (by decide), he 267 (by decide), he 268 (by decide), he 269 (by decide)]
  exact h
def ec_lh (D : em_Td) : Nat → Nat
  | 0 => 0
  | k + 1 => if ec_lh D k < D.2.1 k then D.2.1 k else ec_lh D k
def ec_ag (D : em_Td) (r n : Nat) : Nat → Bool
  | 0 => true
  | k + 1 => ec_ag D r n k && (!decide (D.2.1 k = n) || (r.testBit (D.1 k) == D.2.2 k))
theorem ec_ag_no {D : em_Td} {r n k : Nat} (h : ec_ag D r n k = false) (m : Nat) : ec_ag D r n (k + m) = false := by
  induction m with
  | zero => exact h
  | succ m ih => rw [← Nat.add_assoc, ec_ag, ih, Bool.false_and]
theorem ec_lh_le {D : em_Td} {T k : Nat} (hD : ∀ i, i < T → D.2.1 i ≤ 24) (hk : k ≤ T) : ec_lh D k ≤ 24 := by
  induction k with
  | zero => exact Nat.zero_le _
  | succ k ih =>
    have := hD k (by omega)
    have := ih (by omega)
    rw [ec_lh]
    split <;> omega
theorem ec_lh_ge {D : em_Td} {k i : Nat} (hi : i < k) : D.2.1 i ≤ ec_lh D k := by
  induction k with
  | zero => omega
  | succ k ih =>
    rw [ec_lh]
    by_cases e : i = k
    · subst e
      split <;> omega
    · have := ih (by omega)
      split <;> omega
theorem ec_ag_all {D : em_Td} {r n k : Nat} : ec_ag D r n k = true ↔ ∀ i, i < k → D.2.1 i = n → (r.testBit (D.1 i) == D.2.2 i) = true := by
  induction k with
  | zero => exact ⟨fun _ i hi => absurd hi (Nat.not_lt_zero _), fun _ => rfl⟩
  | succ k ih =>
    rw [ec_ag, Bool.and_eq_true, ih]
    constructor
    · rintro ⟨h1, h2⟩ i hi he
      by_cases e : i = k
      · subst e
        rw [decide_eq_true he] at h2
        exact h2
      · exact h1 i (by omega) he
    · intro h
      refine ⟨fun i hi => h i (by omega), ?_⟩
      by_cases e : D.2.1 k = n
      · rw [h k (by omega) e, Bool.or_true]
      · rw [decide_eq_false e]
        rfl
theorem ey_ft_all {P : em_Pl} {X : em_Nt} {D : em_Td} {s k : Nat} : ey_ft P X D s k = true ↔ ∀ i, i < k → ((em_R P X (D.2.1 i) s).testBit (D.1 i) == D.2.2 i) = true := by
  induction k with
  | zero => exact ⟨fun _ i hi => absurd hi (Nat.not_lt_zero _), fun _ => rfl⟩
  | succ k ih =>
    rw [ey_ft, Bool.and_eq_true, ih]
    constructor
    · rintro ⟨h1, h2⟩ i hi
      by_cases e : i = k
      · subst e
        exact h2
      · exact h1 i (by omega)
    · intro h
      exact ⟨fun i hi => h i (by omega), h k (by omega)⟩
theorem ec_fit {P : em_Pl} {X : em_Nt} {D : em_Td} {s k : Nat} : ey_ft P X D s k = true ↔ ∀ n, n ≤ ec_lh D k → ec_ag D (em_R P X n s) n k = true := by
  rw [ey_ft_all]
  constructor
  · intro h n _
    rw [ec_ag_all]
    rintro i hi rfl
    exact h i hi
  · intro h i hi
    exact ec_ag_all.mp (h (D.2.1 i) (ec_lh_ge hi)) i hi rfl
theorem em_ff_s (p : Nat → Bool) (j k : Nat) : em_ff p j (k + 1) = match em_ff p j k with
    | some b => some b
    | none => if p (j + k) then some (j + k) else none := by
  induction k generalizing j with
  | zero => rfl
  | succ k ih =>
    have e1 : ∀ m, em_ff p j (m + 1) = if p j then some j else em_ff p (j + 1) m := fun m => rfl
    rw [e1 (k + 1), e1 k]
    by_cases h : p j = true
    · rw [if_pos h, if_pos h]
    · rw [if_neg h, if_neg h, ih (j + 1), show j + 1 + k = j + (k + 1) by omega]
theorem em_ff_ct (p : Nat → Bool) (k : Nat) : em_ct k p = 0 ↔ em_ff p 0 k = none := by
  induction k with
  | zero => exact ⟨fun _ => rfl, fun _ => rfl⟩
  | succ k ih =>
    rw [em_ff_s, em_ct, Nat.zero_add]
    cases e : em_ff p 0 k with
    | none =>
      rw [ih.mpr e]
      cases p k <;> simp
    | some b =>
      have : ¬ em_ct k p = 0 := fun z => by rw [ih.mp z] at e; cases e
      constructor
      · intro z; omega
      · intro z; cases z
def em_flr (I : Nat → Nat → Int32) (a k : Nat) (x : Int32) : Nat → Nat → Int32 := fun b j => if b = a ∧ j < k then x else I b j
theorem em_flr_row {I : Nat → Nat → Int32} {a k b : Nat} {x : Int32} (h : b ≠ a) : em_flr I a k x b = I b := by
  funext j
  exact if_neg (fun q => h q.1)
theorem em_flr_at {I : Nat → Nat → Int32} {a k j : Nat} {x : Int32} (h : j < k) : em_flr I a k x a j = x := if_pos ⟨rfl, h⟩
theorem em_flr_0 {I : Nat → Nat → Int32} {a : Nat} {x : Int32} : em_flr I a 0 x = I := by
  funext b j
  exact if_neg (fun q => absurd q.2 (Nat.not_lt_zero _))
theorem em_flr_s {I : Nat → Nat → Int32} {a k : Nat} {x : Int32} : em_u (em_flr I a k x) a k x = em_flr I a (k + 1) x := by
  funext b j
  unfold em_u em_flr
  by_cases h : b = a ∧ j = k
  · rw [if_pos h, if_pos ⟨h.1, by omega⟩]
  · rw [if_neg h]
    by_cases h2 : b = a ∧ j < k
    · rw [if_pos h2, if_pos ⟨h2.1, by omega⟩]
    · rw [if_neg h2, if_neg]
      intro q
      by_cases e : j = k
      · exact h ⟨q.1, e⟩
      · exact h2 ⟨q.1, by omega⟩
section CQ8
variable {d lw : Nat} {P : em_Pl} {X Y : em_Nt} {D : em_Td} {lp : Bool} {part : Nat → Int32} {I I0 : Nat → Nat → Int32} {J : Nat → Nat → Int64} {M : em_M} {Q : Option Value → em_M → Prop} {v : List Int32} {sd : Int32}
theorem ce_fill_l_rows_seenLeft {x : Int32} {k m : Nat} (hk : k + m = 9) (h : Q none (em_SH, em_flr I 283 9 x, J, em_RT lw)) : em_wp em_sc0 d 280 5 [some (.ref 283), some (.int (x)), some (.int (nI k)), some (.int (nI 9))] [] (em_SH, em_flr I 283 k x, J, em_RT lw) Q := by
  induction m generalizing k with
  | zero =>
    have e : k = 9 := by omega
    subst e
    iterate 3 refine em_next rfl ?_
    refine em_c_ge (fun _ => ?_) (fun h1 => absurd (by decide) h1)
    exact em_done rfl h
  | succ m ih =>
    iterate 3 refine em_next rfl ?_
    refine em_c_ge (fun h1 => absurd h1 (nI_ge (b := 9) (by omega) (by decide))) (fun _ => ?_)
    iterate 3 refine em_next rfl ?_
    refine em_iasn rfl rfl (by omega) (by decide) ?_
    rw [em_flr_s]
    iterate 2 refine em_next rfl ?_
    have g := ih (k := k + 1) (by omega)
    rw [nI_succ] at g
    exact g
theorem ce_fill_rows_seenLeft {x : Int32} (h : Q none (em_SH, em_flr I 283 9 x, J, em_RT lw)) : em_call d 280 [.ref 283, .int x] (em_SH, I, J, em_RT lw) Q := by
  iterate 5 refine em_next rfl ?_
  have g := ce_fill_l_rows_seenLeft (d := d) (I := I) (k := 0) (m := 9) (by omega) h
  rw [em_flr_0] at g
  exact g
theorem ce_fill_l_dream_rules {x : Int32} {k m : Nat} (hk : k + m = 216) (h : Q none (em_SH, em_flr I 276 216 x, J, em_RT lw)) : em_wp em_sc0 d 280 5 [some (.ref 276), some (.int (x)), some (.int (nI k)), some (.int (nI 216))] [] (em_SH, em_flr I 276 k x, J, em_RT lw) Q := by
  induction m generalizing k with
  | zero =>
    have e : k = 216 := by omega
    subst e
    iterate 3 refine em_next rfl ?_
    refine em_c_ge (fun _ => ?_) (fun h1 => absurd (by decide) h1)
    exact em_done rfl h
  | succ m ih =>
    iterate 3 refine em_next rfl ?_
    refine em_c_ge (fun h1 => absurd h1 (nI_ge (b := 216) (by omega) (by decide))) (fun _ => ?_)
    iterate 3 refine em_next rfl ?_
    refine em_iasn rfl rfl (by omega) (by decide) ?_
    rw [em_flr_s]
    iterate 2 refine em_next rfl ?_
    have g := ih (k := k + 1) (by omega)
    rw [nI_succ] at g
    exact g
theorem ce_fill_dream_rules {x : Int32} (h : Q none (em_SH, em_flr I 276 216 x, J, em_RT lw)) : em_call d 280 [.ref 276, .int x] (em_SH, I, J, em_RT lw) Q := by
  iterate 5 refine em_next rfl ?_
  have g := ce_fill_l_dream_rules (d := d) (I := I) (k := 0) (m := 216) (by omega) h
  rw [em_flr_0] at g
  exact g
theorem ce_fill_l_draft_colds {x : Int32} {k m : Nat} (hk : k + m = 9) (h : Q none (em_SH, em_flr I 10 9 x, J, em_RT lw)) : em_wp em_sc0 d 280 5 [some (.ref 10), some (.int (x)), some (.int (nI k)), some (.int (nI 9))] [] (em_SH, em_flr I 10 k x, J, em_RT lw) Q := by
  induction m generalizing k with
  | zero =>
    have e : k = 9 := by omega
    subst e
    iterate 3 refine em_next rfl ?_
    refine em_c_ge (fun _ => ?_) (fun h1 => absurd (by decide) h1)
    exact em_done rfl h
  | succ m ih =>
    iterate 3 refine em_next rfl ?_
    refine em_c_ge (fun h1 => absurd h1 (nI_ge (b := 9) (by omega) (by decide))) (fun _ => ?_)
    iterate 3 refine em_next rfl ?_
    refine em_iasn rfl rfl (by omega) (by decide) ?_
    rw [em_flr_s]
    iterate 2 refine em_next rfl ?_
    have g := ih (k := k + 1) (by omega)
    rw [nI_succ] at g
    exact g
theorem ce_fill_draft_colds {x : Int32} (h : Q none (em_SH, em_flr I 10 9 x, J, em_RT lw)) : em_call d 280 [.ref 10, .int x] (em_SH, I, J, em_RT lw) Q := by
  iterate 5 refine em_next rfl ?_
  have g := ce_fill_l_draft_colds (d := d) (I := I) (k := 0) (m := 9) (by omega) h
  rw [em_flr_0] at g
  exact g
theorem ce_fill_l_plan_colds {x : Int32} {k m : Nat} (hk : k + m = 9) (h : Q none (em_SH, em_flr I 26 9 x, J, em_RT lw)) : em_wp em_sc0 d 280 5 [some (.ref 26), some (.int (x)), some (.int (nI k)), some (.int (nI 9))] [] (em_SH, em_flr I 26 k x, J, em_RT lw) Q := by
  induction m generalizing k with
  | zero =>
    have e : k = 9 := by omega
    subst e
    iterate 3 refine em_next rfl ?_
    refine em_c_ge (fun _ => ?_) (fun h1 => absurd (by decide) h1)
    exact em_done rfl h
  | succ m ih =>
    iterate 3 refine em_next rfl ?_
    refine em_c_ge (fun h1 => absurd h1 (nI_ge (b := 9) (by omega) (by decide))) (fun _ => ?_)
    iterate 3 refine em_next rfl ?_
    refine em_iasn rfl rfl (by omega) (by decide) ?_
    rw [em_flr_s]
    iterate 2 refine em_next rfl ?_
    have g := ih (k := k + 1) (by omega)
    rw [nI_succ] at g
    exact g
theorem ce_fill_plan_colds {x : Int32} (h : Q none (em_SH, em_flr I 26 9 x, J, em_RT lw)) : em_call d 280 [.ref 26, .int x] (em_SH, I, J, em_RT lw) Q := by
  iterate 5 refine em_next rfl ?_
  have g := ce_fill_l_plan_colds (d := d) (I := I) (k := 0) (m := 9) (by omega) h
  rw [em_flr_0] at g
  exact g
theorem ce_last_l {n T : Nat} (hT : cs_T I n T D) {kk k m : Nat} (hkk : kk ≤ T) (hk : k + m = kk) (h : Q (some (.int (nI (ec_lh D kk)))) (em_SH, I, J, em_RT lw)) : em_wp em_sc0 d 90 4 [some (.ref 266), some (.int (nI kk)), some (.int (nI (ec_lh D k))), some (.int (nI k))] [] (em_SH, I, J, em_RT lw) Q := by
  obtain ⟨⟨t1, t2⟩, t3⟩ := hT
  induction m generalizing k with
  | zero =>
    have e : k = kk := by omega
    subst e
    iterate 3 refine em_next rfl ?_
    refine em_c_ge (fun _ => ?_) (fun h1 => absurd (nI_le (Nat.le_refl _) (by omega)) h1)
    iterate 1 refine em_next rfl ?_
    exact em_done rfl h
  | succ m ih =>
    have l1 := ec_lh_le (T := T) (k := k) (fun i hi => (t3 i hi).2.2.2.2) (by omega)
    have l2 := (t3 k (by omega)).2.2.2.2
    iterate 3 refine em_next rfl ?_
    refine em_c_ge (fun h1 => absurd h1 (nI_ge (by omega) (by omega))) (fun _ => ?_)
    iterate 4 refine em_next rfl ?_
    refine em_c_geE rfl t2 (fun h1 => absurd h1 (nI_ge (by omega) (by omega))) (fun _ => ?_)
    iterate 4 refine em_next rfl ?_
    refine em_ialn rfl rfl (by omega) (by decide) ?_
    refine em_tp (t3 k (by omega)).2.1 ?_
    iterate 1 refine em_next rfl ?_
    refine em_tp (em_mxE (by omega) (by omega)) ?_
    iterate 3 refine em_next rfl ?_
    have g := ih (k := k + 1) (by omega)
    rw [ec_lh, nI_succ] at g
    exact g
theorem ce_last {n T : Nat} (hT : cs_T I n T D) {kk : Nat} (hkk : kk ≤ T) (h : Q (some (.int (nI (ec_lh D kk)))) (em_SH, I, J, em_RT lw)) : em_call d 90 [.ref 266, .int (nI kk)] (em_SH, I, J, em_RT lw) Q := by
  iterate 4 refine em_next rfl ?_
  exact ce_last_l (k := 0) (m := kk) hT hkk (by omega) h
theorem ce_agree_l {n T : Nat} (hn : n ≤ 9) (hT : cs_T I n T D) {a : Int32} {kk t r k m : Nat} (ea : a = nI r) (hr : r < 2 ^ n) (ht : t < 25) (hkk : kk ≤ T) (hk : k + m = kk) (h0 : ec_ag D r t k = true) (h : Q (some (.int (em_bb (ec_ag D r t kk)))) (em_SH, I, J, em_RT lw)) : em_wp em_sc0 d 91 3 [some (.ref 266), some (.int (nI kk)), some (.int (nI t)), some (.int (a)), some (.int (nI k))] [] (em_SH, I, J, em_RT lw) Q := by
  have hp9 := em_pow9 hn
  obtain ⟨⟨t1, t2⟩, t3⟩ := hT
  induction m generalizing k with
  | zero =>
    have e : k = kk := by omega
    subst e
    rw [h0] at h
    iterate 3 refine em_next rfl ?_
    refine em_c_ge (fun _ => ?_) (fun h1 => absurd (nI_le (Nat.le_refl _) (by omega)) h1)
    iterate 1 refine em_next rfl ?_
    exact em_done rfl h
  | succ m ih =>
    obtain ⟨u1, u2, u3, u4, u5⟩ := t3 k (by omega)
    have en : ec_ag D r t (k + 1) = (!decide (D.2.1 k = t) || (r.testBit (D.1 k) == D.2.2 k)) := by rw [ec_ag, h0, Bool.true_and]
    iterate 3 refine em_next rfl ?_
    refine em_c_ge (fun h1 => absurd h1 (nI_ge (by omega) (by omega))) (fun _ => ?_)
    iterate 4 refine em_next rfl ?_
    refine em_c_geE rfl t2 (fun h1 => absurd h1 (nI_ge (by omega) (by omega))) (fun _ => ?_)
    iterate 3 refine em_next rfl ?_
    refine em_ialn rfl rfl (by omega) (by decide) ?_
    iterate 2 refine em_next rfl ?_
    refine em_c_neE u2 rfl (fun q => ?_) (fun q => ?_)
    · have g := ih (k := k + 1) (by omega) (by rw [en, decide_eq_false (fun e => q (by rw [e]))]; rfl)
      rw [nI_succ] at g
      iterate 2 refine em_next rfl ?_
      exact g
    · have q2 : D.2.1 k = t := (nI_eq (by omega) (by omega)).mp q
      rw [decide_eq_true q2, Bool.not_true, Bool.false_or] at en
      iterate 4 refine em_next rfl ?_
      refine em_ialn rfl rfl (by omega) (by decide) ?_
      refine em_tp u1 ?_
      iterate 3 refine em_next rfl ?_
      refine em_tp (y := em_bit r (D.1 k)) (by rw [ea]; exact em_bitC r (by omega) (D.1 k) (by omega)) ?_
      iterate 3 refine em_next rfl ?_
      refine em_ialn rfl rfl (by omega) (by decide) ?_
      iterate 1 refine em_next rfl ?_
      refine em_c_eqE (em_bit_bb r (D.1 k)) u3 (fun q3 => ?_) (fun q3 => ?_)
      · have g := ih (k := k + 1) (by omega) (by rw [en]; exact beq_iff_eq.mpr (em_bb_inj.mp q3))
        rw [nI_succ] at g
        iterate 2 refine em_next rfl ?_
        exact g
      · have z := ec_ag_no (m := m) (by rw [en]; exact beq_eq_false_iff_ne.mpr (fun e => q3 (em_bb_inj.mpr e)))
        rw [show k + 1 + m = kk by omega] at z
        rw [z] at h
        iterate 1 refine em_next rfl ?_
        exact em_done rfl h
theorem ce_agree {n T : Nat} (hn : n ≤ 9) (hT : cs_T I n T D) {a : Int32} {kk t r : Nat} (ea : a = nI r) (hr : r < 2 ^ n) (ht : t < 25) (hkk : kk ≤ T) (h : Q (some (.int (em_bb (ec_ag D r t kk)))) (em_SH, I, J, em_RT lw)) : em_call d 91 [.ref 266, .int (nI kk), .int (nI t), .int a] (em_SH, I, J, em_RT lw) Q := by
  iterate 2 refine em_next rfl ?_
  exact ce_agree_l (k := 0) (m := kk) hn hT ea hr ht hkk (by omega) rfl h
theorem em_bb01 (z : Bool) : em_bb z = 0 ∨ em_bb z = 1 := by cases z <;> simp [em_bb]
theorem ce_fits_l (hS : cl_S I lp P X) {T : Nat} (hT : cs_T I P.1 T D) {x : Int32} {s kk k m : Nat} (hs : s < 2 ^ P.1) (hkk : kk ≤ T) (hk : k + m = ec_lh D kk) (hY : cd_N I lp P (em_it P true 0 k (s, X.2.1, X.2.2))) (h0 : ∀ j, j < k → ec_ag D (em_R P X j s) j kk = true) (h : ∀ I' : Nat → Nat → Int32, em_fC I I' → cl_S I' lp P X → Q (some (.int (em_bb (em_kn P X D kk s)))) (em_SH, I', J, em_RT lw)) : em_wp em_sc0 (d + 4) 64 11 [some (.ref 281), some (.int (x)), some (.int (nI kk)), some (.int (nI (ec_lh D kk))), some (.int (nI k))] [] (em_SH, I, J, em_RT lw) Q := by
  have hn := hS.1.1.1
  have hX := hS.2.2.2.2
  have hl := ec_lh_le (T := T) (k := kk) (fun i hi => (hT.2 i hi).2.2.2.2) hkk
  induction m generalizing k I with
  | zero =>
    have e : k = ec_lh D kk := by omega
    iterate 3 refine em_next rfl ?_
    refine em_c_ge (fun _ => ?_) (fun h1 => absurd (nI_le (by omega) (by omega)) h1)
    iterate 8 refine em_next rfl ?_
    refine em_inv_call rfl (ce_agree (t := ec_lh D kk) (r := em_R P X k s) hn hT hY.1.2.2.1 (em_R_lt hs) (by omega) hkk ?_)
    have ek : em_kn P X D kk s = ec_ag D (em_R P X k s) (ec_lh D kk) kk := by
      unfold em_kn
      rw [← e]
      cases hq : ec_ag D (em_R P X k s) k kk with
      | true =>
        refine ec_fit.mpr (fun j hj => ?_)
        by_cases z : j = k
        · subst z; exact hq
        · exact h0 j (by omega)
      | false =>
        cases hz : ey_ft P X D s kk with
        | false => rfl
        | true => have := ec_fit.mp hz k (by omega); rw [hq] at this; cases this
    rw [ek] at h
    exact em_done (if_pos (Or.inr (Or.inl ⟨rfl, em_bb01 _⟩))) (h I em_fC.rf hS)
  | succ m ih =>
    have hh := em_it_h P true 0 k (s, X.2.1, X.2.2)
    iterate 3 refine em_next rfl ?_
    refine em_c_ge (fun h1 => absurd h1 (nI_ge (by omega) (by omega))) (fun _ => ?_)
    iterate 8 refine em_next rfl ?_
    refine em_inv_call rfl (ce_agree (t := k) (r := em_R P X k s) hn hT hY.1.2.2.1 (em_R_lt hs) (by omega) hkk ?_)
    iterate 1 refine em_next rfl ?_
    cases hq : ec_ag D (em_R P X k s) k kk with
    | true =>
      refine em_z_ne (fun _ => ?_) (fun z => absurd z (by decide))
      iterate 2 refine em_next rfl ?_
      refine em_inv_call rfl (ce_passRowHour hS hY (by rw [hh]; dsimp only; omega) (fun I1 a1 a2 a3 => ?_))
      iterate 2 refine em_next rfl ?_
      have g := ih (k := k + 1) (I := I1) a2 (hT.keep a1.W) (by omega) a3 (fun j hj => by
        by_cases z : j = k
        · subst z; exact hq
        · exact h0 j (by omega)) (fun I' f => h I' (a1.tr f))
      rw [nI_succ] at g
      exact g
    | false =>
      refine em_z_ne (fun z => absurd rfl z) (fun _ => ?_)
      have ek : em_kn P X D kk s = false := by
        cases hz : em_kn P X D kk s with
        | false => rfl
        | true => have := ec_fit.mp hz k (by omega); rw [hq] at this; cases this
      rw [ek] at h
      iterate 1 refine em_next rfl ?_
      exact em_done rfl (h I em_fC.rf hS)
theorem ce_fits (hS : cl_S I lp P X) {T : Nat} (hT : cs_T I P.1 T D) {s kk : Nat} (hs : s < 2 ^ P.1) (hkk : kk ≤ T) (h : ∀ I' : Nat → Nat → Int32, em_fC I I' → cl_S I' lp P X → Q (some (.int (em_bb (em_kn P X D kk s)))) (em_SH, I', J, em_RT lw)) : em_call (d + 4) 64 [.ref 281, .int (nI s), .int (nI kk), .int (nI (ec_lh D kk))] (em_SH, I, J, em_RT lw) Q := by
  iterate 3 refine em_next rfl ?_
  refine em_inv_call rfl (ce_lieAs hS hs (fun I1 a1 a2 a3 _ _ => ?_))
  iterate 2 refine em_next rfl ?_
  exact ce_fits_l (k := 0) (m := ec_lh D kk) a2 (hT.keep a1.W) hs hkk (by omega) a3 (fun j hj => absurd hj (Nat.not_lt_zero _)) (fun I' f => h I' (a1.tr f))
/-- what is gathered of the first k rows -/
def cg_st (I : Nat → Nat → Int32) (n : Nat) (p : Nat → Bool) (k : Nat) : Prop := (I 281 6 = nI (em_ct k p) ∧ I 281 7 = em_oi (em_ff p 0 k) ∧ I 281 8 = nI (em_inL p n k) ∧ I 281 9 = nI (em_inR p n k)) ∧ ∀ s, s < k → I 282 s = em_bb (p s)
theorem em_inL_s {p : Nat → Bool} {n k : Nat} (hk : k < 2 ^ n) : em_inL p n (k + 1) = if p k then em_inL p n k &&& k else em_inL p n k := by
  unfold em_inL
  by_cases h : p k = true
  · rw [if_pos h, em_or_and hk]
    refine em_or_congr (fun b _ => ?_)
    rw [em_evp, h]
    rfl
  · rw [if_neg h]
    refine em_or_congr (fun b _ => ?_)
    rw [em_evp, Bool.not_eq_true _ |>.mp h]
    exact Bool.and_true _
theorem em_inR_s {p : Nat → Bool} {n k : Nat} (hk : k < 2 ^ n) : em_inR p n (k + 1) = if p k then em_inR p n k &&& (2 ^ n - 1 - k) else em_inR p n k := by
  unfold em_inR
  by_cases h : p k = true
  · have hc := em_cplb hk
    have hlt : 2 ^ n - 1 - k < 2 ^ n := by have := Nat.two_pow_pos n; omega
    rw [if_pos h, em_or_and hlt]
    refine em_or_congr (fun b hb => ?_)
    rw [em_evp, h, hc, em_or_bit hb]
    rfl
  · rw [if_neg h]
    refine em_or_congr (fun b _ => ?_)
    rw [em_evp, Bool.not_eq_true _ |>.mp h]
    exact Bool.and_true _
theorem em_not9b : ∀ n, n < 10 → ∀ a, a < 2 ^ n → ∀ s, s < 2 ^ n → nI a &&& (nI s ^^^ -1) = nI (a &&& (2 ^ n - 1 - s)) := fun n hn a ha s hs => by
  have e : a &&& (2 ^ n - 1) = a := by rw [Nat.and_two_pow_sub_one_eq_mod]; exact Nat.mod_eq_of_lt ha
  rw [← em_and2, ← em_not9 n hn s hs, ← Int32.and_assoc, em_and2, e]
end CQ8
