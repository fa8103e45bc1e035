/-! the class: its questions, one -/
section EMP4
variable {sc : Nat × (Nat → Int32)} {d ix pc nx : Nat} {lc : em_L} {st r : List Value} {M : em_M} {Q : Option Value → em_M → Prop}
theorem em_tp {x y : Int32} (e : x = y) (k : em_wp sc d ix pc lc (.int y :: r) M Q) : em_wp sc d ix pc lc (.int x :: r) M Q := by
  rw [e]
  exact k
theorem em_tp2 {x y z : Int32} (e : x = y) (k : em_wp sc d ix pc lc (.int z :: .int y :: r) M Q) : em_wp sc d ix pc lc (.int z :: .int x :: r) M Q := by
  rw [e]
  exact k
theorem em_doneE {x y : Int32} (h : em_stp sc ix pc lc st M = some (.inr (.inr (some (.int x))))) (e : x = y) (k : Q (some (.int y)) M) : em_wp sc d ix pc lc st M Q := by
  rw [← e] at k
  exact em_done h k
theorem em_c_geE {x y x' y' : Int32} {t : Nat} (ex : x = x') (ey : y = y') (h1 : y' ≤ x' → em_wp sc d ix t lc st M Q) (h2 : ¬ y' ≤ x' → em_wp sc d ix nx lc st M Q) : em_wp sc d ix (cond (em_cc .ge x y) t nx) lc st M Q := by
  rw [ex, ey]
  exact em_c_ge h1 h2
theorem em_c_gtE {x y x' y' : Int32} {t : Nat} (ex : x = x') (ey : y = y') (h1 : y' < x' → em_wp sc d ix t lc st M Q) (h2 : ¬ y' < x' → em_wp sc d ix nx lc st M Q) : em_wp sc d ix (cond (em_cc .gt x y) t nx) lc st M Q := by
  rw [ex, ey]
  exact em_c_gt h1 h2
theorem em_c_leE {x y x' y' : Int32} {t : Nat} (ex : x = x') (ey : y = y') (h1 : x' ≤ y' → em_wp sc d ix t lc st M Q) (h2 : ¬ x' ≤ y' → em_wp sc d ix nx lc st M Q) : em_wp sc d ix (cond (em_cc .le x y) t nx) lc st M Q := by
  rw [ex, ey]
  exact em_c_le h1 h2
theorem em_c_ltE {x y x' y' : Int32} {t : Nat} (ex : x = x') (ey : y = y') (h1 : x' < y' → em_wp sc d ix t lc st M Q) (h2 : ¬ x' < y' → em_wp sc d ix nx lc st M Q) : em_wp sc d ix (cond (em_cc .lt x y) t nx) lc st M Q := by
  rw [ex, ey]
  exact em_c_lt h1 h2
theorem em_c_eqE {x y x' y' : Int32} {t : Nat} (ex : x = x') (ey : y = y') (h1 : x' = y' → em_wp sc d ix t lc st M Q) (h2 : ¬ x' = y' → em_wp sc d ix nx lc st M Q) : em_wp sc d ix (cond (em_cc .eq x y) t nx) lc st M Q := by
  rw [ex, ey]
  exact em_c_eq h1 h2
theorem em_c_neE {x y x' y' : Int32} {t : Nat} (ex : x = x') (ey : y = y') (h1 : ¬ x' = y' → em_wp sc d ix t lc st M Q) (h2 : x' = y' → em_wp sc d ix nx lc st M Q) : em_wp sc d ix (cond (em_cc .ne x y) t nx) lc st M Q := by
  rw [ex, ey]
  exact em_c_ne h1 h2
theorem em_z_eqE {x x' : Int32} {t : Nat} (ex : x = x') (h1 : x' = 0 → em_wp sc d ix t lc st M Q) (h2 : ¬ x' = 0 → em_wp sc d ix nx lc st M Q) : em_wp sc d ix (cond (em_cz .eq x) t nx) lc st M Q := by
  rw [ex]
  exact em_z_eq h1 h2
theorem em_z_neE {x x' : Int32} {t : Nat} (ex : x = x') (h1 : ¬ x' = 0 → em_wp sc d ix t lc st M Q) (h2 : x' = 0 → em_wp sc d ix nx lc st M Q) : em_wp sc d ix (cond (em_cz .ne x) t nx) lc st M Q := by
  rw [ex]
  exact em_z_ne h1 h2
theorem em_z_leE {x x' : Int32} {t : Nat} (ex : x = x') (h1 : x' ≤ 0 → em_wp sc d ix t lc st M Q) (h2 : ¬ x' ≤ 0 → em_wp sc d ix nx lc st M Q) : em_wp sc d ix (cond (em_cz .le x) t nx) lc st M Q := by
  rw [ex]
  exact em_z_le h1 h2
end EMP4
theorem em_xbE {a : Int32} {r b : Nat} (ha : a = nI r) (hb : b < 10) : a ^^^ (1 <<< (nI b &&& 31)) = nI (r ^^^ 2 ^ b) := by rw [ha]; exact em_xb hb
theorem em_xrE {a b : Int32} {r s : Nat} (ha : a = nI r) (hb : b = nI s) : a ^^^ b = nI (r ^^^ s) := by rw [ha, hb]; exact em_xr r s
def ec_us (x : Int32) (k : Int32) : Int32 := (x.toUInt32 >>> (k.toUInt32 &&& Int32.toUInt32 31)).toInt32
def ec_b1 (i : Int32) : Int32 := i - (ec_us i 1 &&& 1431655765)
def ec_b2 (i : Int32) : Int32 := (i &&& 858993459) + (ec_us i 2 &&& 858993459)
def ec_b3 (i : Int32) : Int32 := (i + ec_us i 4) &&& 252645135
def ec_b4 (i : Int32) : Int32 := i + ec_us i 8
def ec_b5 (i : Int32) : Int32 := i + ec_us i 16
def ec_bc (i : Int32) : Int32 := ec_b5 (ec_b4 (ec_b3 (ec_b2 (ec_b1 i)))) &&& 63
theorem ec_bc_ok : ∀ s, s < 512 → ec_bc (nI s) = nI (em_pc s) := by decide +kernel
theorem em_ct_del {n t0 : Nat} {p : Nat → Bool} (h : t0 < n) : em_ct n (fun t => !(p t || decide (t0 = t))) + (if p t0 then 0 else 1) = em_ct n (fun t => !p t) := by
  induction n with
  | zero => omega
  | succ n ih =>
    rw [em_ct, em_ct]
    by_cases e : t0 = n
    · subst e
      have e2 : em_ct t0 (fun t => !(p t || decide (t0 = t))) = em_ct t0 (fun t => !p t) := em_ct_congr (fun b hb => by
        rw [decide_eq_false (by omega), Bool.or_false])
      rw [e2]
      cases p t0 <;> simp
    · have g := ih (by omega)
      rw [decide_eq_false e, Bool.or_false]
      omega
section CQ1
variable {d lw : Nat} {P : em_Pl} {X Y : em_Nt} {lp : Bool} {part : Nat → Int32} {I I0 : Nat → Nat → Int32} {J : Nat → Nat → Int64} {M : em_M} {Q : Option Value → em_M → Prop} {v : List Int32}
theorem ce_bits {a : Int32} {s : Nat} (ea : a = nI s) (hs : s < 512) (h : Q (some (.int (nI (em_pc s)))) M) : em_call d 279 [.int a] M Q := by
  subst ea
  iterate 41 refine em_next rfl ?_
  refine em_done rfl ?_
  rw [← ec_bc_ok s hs] at h
  exact h
theorem ce_Ra (hS : cl_S I lp P X) {a : Int32} {s mm : Nat} (ea : a = nI s) (hs : s < 2 ^ P.1) (hmm : mm < 1000) (h : ∀ I' : Nat → Nat → Int32, em_fC I I' → cl_S I' lp P X → Q (some (.int (nI (em_R P X mm s)))) (em_SH, I', J, em_RT lw)) : em_call (d + 4) 3 [.ref 270, .int a, .int (nI mm)] (em_SH, I, J, em_RT lw) Q := by
  subst ea
  exact ce_rowAfter hS hs hmm h
theorem cl_S.rw (hS : cl_S I lp P X) : I 42 4 = nI X.1 := hS.2.1.1.2.2.1
theorem cl_S.mn (hS : cl_S I lp P X) : I 24 7 = nI P.1 := hS.1.1.2.1
theorem cq_after (hS : cl_S I lp P X) {a b : Int32} (h : ∀ I' : Nat → Nat → Int32, em_fW I I' → cl_S I' lp P X → Q (some (.int (sp_after P X a b))) (em_SH, I', J, em_RT lw)) : em_call (d + 8) 132 [.ref 1, .int a, .int b] (em_SH, I, J, em_RT lw) Q := by
  have hn := hS.1.1.1
  unfold sp_after at h
  iterate 3 refine em_next rfl ?_
  refine em_inv_call rfl (ce_hasRow hS.1 ?_)
  iterate 1 refine em_next rfl ?_
  refine em_b_eq (fun g => ?_) (fun g => ?_)
  · rw [if_neg (fun q => g q.1)] at h
    iterate 1 refine em_next rfl ?_
    exact em_done rfl (h I em_fW.rf hS)
  iterate 3 refine em_next rfl ?_
  refine em_inv_call rfl (ce_within (a := 0) (b := 48) ?_)
  iterate 1 refine em_next rfl ?_
  refine em_b_ne (fun g2 => ?_) (fun g2 => ?_)
  · rw [if_pos ⟨g, g2⟩] at h
    obtain ⟨s, hs, rfl, es⟩ := em_rowN hn g
    obtain ⟨m, hm, rfl, em⟩ := em_nat (m := 48) (by decide) g2.1 g2.2
    rw [es, em] at h
    iterate 4 refine em_next rfl ?_
    refine em_inv_call rfl (ce_Ra hS rfl hs (by omega) (fun I1 a1 a2 => ?_))
    exact em_done rfl (h I1 a1.W a2)
  · rw [if_neg (fun q => g2 q.2)] at h
    iterate 1 refine em_next rfl ?_
    exact em_done rfl (h I em_fW.rf hS)
theorem cq_spread (hS : cl_S I lp P X) {b n : Int32} (h : ∀ I' : Nat → Nat → Int32, em_fW I I' → cl_S I' lp P X → Q (some (.int (sp_spread P X b n))) (em_SH, I', J, em_RT lw)) : em_call (d + 8) 135 [.ref 1, .int b, .int n] (em_SH, I, J, em_RT lw) Q := by
  have hn := hS.1.1.1
  have hr := hS.2.1.1.1
  unfold sp_spread at h
  iterate 3 refine em_next rfl ?_
  refine em_inv_call rfl (ce_hasBed hS.1 ?_)
  iterate 1 refine em_next rfl ?_
  refine em_b_eq (fun g => ?_) (fun g => ?_)
  · rw [if_neg (fun q => g q.1)] at h
    iterate 1 refine em_next rfl ?_
    exact em_done rfl (h I em_fW.rf hS)
  iterate 3 refine em_next rfl ?_
  refine em_inv_call rfl (ce_within (a := 0) (b := 24) ?_)
  iterate 1 refine em_next rfl ?_
  refine em_b_ne (fun g2 => ?_) (fun g2 => ?_)
  · rw [if_pos ⟨g, g2⟩] at h
    obtain ⟨s, hs, rfl, es⟩ := em_bedN hn g
    obtain ⟨m, hm, rfl, em⟩ := em_nat (m := 24) (by decide) g2.1 g2.2
    rw [es, em] at h
    iterate 6 refine em_next rfl ?_
    refine em_inv_call rfl (ce_Ra hS hS.rw hr (by omega) (fun I1 a1 a2 => ?_))
    iterate 10 refine em_next rfl ?_
    refine em_inv_call rfl (ce_Ra a2 (em_xbE a2.rw (by omega)) (em_xlt hr hs) (by omega) (fun I2 b1 b2 => ?_))
    iterate 1 refine em_next rfl ?_
    exact em_done rfl (h I2 (a1.tr b1).W b2)
  · rw [if_neg (fun q => g2 q.2)] at h
    iterate 1 refine em_next rfl ?_
    exact em_done rfl (h I em_fW.rf hS)
theorem ce_one_l (hS : cl_S I lp P X) {n k m : Nat} (hnn : n < 25) (hk : k + m = P.1) (h : ∀ I' : Nat → Nat → Int32, em_fC I I' → cl_S I' lp P X → Q (some (.int (((em_ff (fun b => decide (em_R P X n (X.1 ^^^ 2 ^ b) = 2 ^ P.1 - 1)) k m).map nI).getD (-2)))) (em_SH, I', J, em_RT lw)) : em_wp em_sc0 (d + 5) 108 30 [some (.ref 277), some (.int (nI n)), some (.int (nI k))] [] (em_SH, I, J, em_RT lw) Q := by
  have hn := hS.1.1.1
  have hr := hS.2.1.1.1
  have hp9 := em_pow9 hn
  induction m generalizing k I with
  | zero =>
    have e : k = P.1 := by omega
    subst e
    iterate 5 refine em_next rfl ?_
    refine em_c_geE rfl hS.mn (fun _ => ?_) (fun h1 => absurd (nI_le (Nat.le_refl _) (by omega)) h1)
    iterate 1 refine em_next rfl ?_
    exact em_done rfl (h I em_fC.rf hS)
  | succ m ih =>
    iterate 5 refine em_next rfl ?_
    refine em_c_geE rfl hS.mn (fun h1 => absurd h1 (nI_ge (by omega) (by omega))) (fun _ => ?_)
    iterate 10 refine em_next rfl ?_
    refine em_inv_call rfl (ce_Ra hS (em_xbE hS.rw (by omega)) (em_xlt hr (by omega)) (by omega) (fun I1 a1 a2 => ?_))
    iterate 2 refine em_next rfl ?_
    refine em_inv_call rfl (ce_allLeft a2.1 ?_)
    iterate 1 refine em_next rfl ?_
    have hlt : em_R P X n (X.1 ^^^ 2 ^ k) < 2 ^ P.1 := em_R_lt (em_xlt hr (by omega))
    refine em_c_ne (fun q => ?_) (fun q => ?_)
    · have q2 : ¬ em_R P X n (X.1 ^^^ 2 ^ k) = 2 ^ P.1 - 1 := fun e => q (by rw [e])
      have e : em_ff (fun b => decide (em_R P X n (X.1 ^^^ 2 ^ b) = 2 ^ P.1 - 1)) k (m + 1) = em_ff (fun b => decide (em_R P X n (X.1 ^^^ 2 ^ b) = 2 ^ P.1 - 1)) (k + 1) m := if_neg (by simpa using q2)
      rw [e] at h
      iterate 2 refine em_next rfl ?_
      have g := ih (k := k + 1) (I := I1) a2 (by omega) (fun I' f s => h I' (a1.tr f) s)
      rw [nI_succ] at g
      exact g
    · have q2 : em_R P X n (X.1 ^^^ 2 ^ k) = 2 ^ P.1 - 1 := (nI_eq (by omega) (by omega)).mp q
      have e : em_ff (fun b => decide (em_R P X n (X.1 ^^^ 2 ^ b) = 2 ^ P.1 - 1)) k (m + 1) = some k := if_pos (by simpa using q2)
      rw [e] at h
      iterate 1 refine em_next rfl ?_
      exact em_done rfl (h I1 a1 a2)
theorem ce_oneEnough (hS : cl_S I lp P X) {n : Nat} (hnn : n < 25) (h : ∀ I' : Nat → Nat → Int32, em_fC I I' → cl_S I' lp P X → Q (some (.int ((em_onl P X n).getD (-2)))) (em_SH, I', J, em_RT lw)) : em_call (d + 5) 108 [.ref 277, .int (nI n)] (em_SH, I, J, em_RT lw) Q := by
  have hn := hS.1.1.1
  have hr := hS.2.1.1.1
  have hp9 := em_pow9 hn
  iterate 6 refine em_next rfl ?_
  refine em_inv_call rfl (ce_Ra hS hS.rw hr (by omega) (fun I1 a1 a2 => ?_))
  iterate 2 refine em_next rfl ?_
  refine em_inv_call rfl (ce_allLeft a2.1 ?_)
  iterate 1 refine em_next rfl ?_
  have hlt : em_R P X n X.1 < 2 ^ P.1 := em_R_lt hr
  unfold em_onl at h
  refine em_c_ne (fun q => ?_) (fun q => ?_)
  · have q2 : ¬ em_R P X n X.1 = 2 ^ P.1 - 1 := fun e => q (by rw [e])
    rw [if_neg q2] at h
    iterate 2 refine em_next rfl ?_
    exact ce_one_l (k := 0) (m := P.1) a2 hnn (by omega) (fun I' f s => h I' (a1.tr f) s)
  · have q2 : em_R P X n X.1 = 2 ^ P.1 - 1 := (nI_eq (by omega) (by omega)).mp q
    rw [if_pos q2] at h
    iterate 1 refine em_next rfl ?_
    exact em_done rfl (h I1 a1 a2)
theorem em_ff_lt {p : Nat → Bool} {k m s : Nat} (h : em_ff p k m = some s) : s < k + m := by
  induction m generalizing k with
  | zero => cases h
  | succ m ih =>
    rw [em_ff] at h
    split at h
    · cases h; omega
    · have := ih h; omega
theorem em_onl_ne {n : Nat} {x : Int32} (hn : P.1 ≤ 9) (h : em_onl P X n = some x) : ¬ x = -2 := by
  unfold em_onl at h
  split at h
  · cases h; decide
  · cases e : em_ff (fun b => decide (em_R P X n (X.1 ^^^ 2 ^ b) = 2 ^ P.1 - 1)) 0 P.1 with
    | none => rw [e] at h; cases h
    | some b =>
      rw [e] at h
      cases h
      have hb : b < 9 := by have := em_ff_lt e; omega
      have : ∀ b, b < 9 → ¬ nI b = -2 := by decide +kernel
      exact this b hb
theorem ce_soon_l (hS : cl_S I lp P X) {w : Int32} {k m : Nat} {o : Option Value} (hk : k + m = 25) (h : ∀ I' : Nat → Nat → Int32, em_fW I I' → cl_S I' lp P X → Q (some (.int (em_soon P X w k m))) (em_SH, I', J, em_RT lw)) : em_wp em_sc0 (d + 8) 134 11 [some (.ref 1), some (.int (w)), some (.int (nI k)), o] [] (em_SH, I, J, em_RT lw) Q := by
  have hn := hS.1.1.1
  induction m generalizing k I o with
  | zero =>
    have e : k = 25 := by omega
    subst e
    iterate 3 refine em_next rfl ?_
    refine em_c_gt (fun _ => ?_) (fun h1 => absurd (by decide) h1)
    iterate 1 refine em_next rfl ?_
    exact em_done rfl (h I em_fW.rf hS)
  | succ m ih =>
    iterate 3 refine em_next rfl ?_
    refine em_c_gt (fun h1 => absurd h1 (nI_nlt (a := 24) (by omega) (by decide))) (fun _ => ?_)
    iterate 3 refine em_next rfl ?_
    refine em_inv_call rfl (ce_oneEnough hS (by omega) (fun I1 a1 a2 => ?_))
    iterate 4 refine em_next rfl ?_
    rw [em_soon] at h
    cases e : em_onl P X k with
    | none =>
      rw [e] at h
      refine em_c_eq (fun _ => ?_) (fun q => absurd rfl q)
      iterate 2 refine em_next rfl ?_
      have g := ih (k := k + 1) (I := I1) (o := some (.int (-2))) a2 (by omega) (fun I' f s => h I' (a1.W.tr f) s)
      rw [nI_succ] at g
      exact g
    | some x =>
      rw [e] at h
      dsimp only at h
      refine em_c_eq (fun q => absurd q (em_onl_ne hn e)) (fun _ => ?_)
      iterate 2 refine em_next rfl ?_
      have g := h I1 a1.W a2
      refine em_z_ne (fun z => ?_) (fun z => ?_)
      · rw [if_neg z] at g
        iterate 1 refine em_next rfl ?_
        exact em_done rfl g
      · rw [if_pos z] at g
        iterate 2 refine em_next rfl ?_
        exact em_done rfl g
theorem cq_soonest (hS : cl_S I lp P X) {w : Int32} (h : ∀ I' : Nat → Nat → Int32, em_fW I I' → cl_S I' lp P X → Q (some (.int (sp_soonest P X w))) (em_SH, I', J, em_RT lw)) : em_call (d + 8) 134 [.ref 1, .int w] (em_SH, I, J, em_RT lw) Q := by
  unfold sp_soonest at h
  iterate 1 refine em_next rfl ?_
  refine em_inv_call rfl (ce_pair ?_)
  iterate 1 refine em_next rfl ?_
  refine em_b_ne (fun g => ?_) (fun g => ?_)
  · rw [if_pos g] at h
    iterate 2 refine em_next rfl ?_
    exact ce_soon_l (k := 0) (m := 25) hS (by omega) h
  · rw [if_neg g] at h
    iterate 1 refine em_next rfl ?_
    exact em_done rfl (h I em_fW.rf hS)
theorem ce_leading_l (hS : cl_S I lp P X) {a : Int32} {n k m : Nat} (hnn : n < 25) (hk : k + m = 2 ^ P.1) (h : ∀ I' : Nat → Nat → Int32, em_fC I I' → cl_S I' lp P X → Q (some (.int (nI (em_ct (2 ^ P.1) (em_led P X n a))))) (em_SH, I', J, em_RT lw)) : em_wp em_sc0 (d + 5) 58 5 [some (.ref 281), some (.int (a)), some (.int (nI n)), some (.int (nI (em_ct k (em_led P X n a)))), some (.int (nI k))] [] (em_SH, I, J, em_RT lw) Q := by
  have hn := hS.1.1.1
  have hp9 := em_pow9 hn
  have hp := Nat.two_pow_pos P.1
  induction m generalizing k I with
  | zero =>
    have e : k = 2 ^ P.1 := by omega
    subst e
    iterate 3 refine em_next rfl ?_
    refine em_inv_call rfl (ce_allLeft hS.1 ?_)
    iterate 1 refine em_next rfl ?_
    refine em_c_gt (fun _ => ?_) (fun h1 => absurd (nI_lt (by omega) (by omega)) h1)
    iterate 1 refine em_next rfl ?_
    exact em_done rfl (h I em_fC.rf hS)
  | succ m ih =>
    iterate 3 refine em_next rfl ?_
    refine em_inv_call rfl (ce_allLeft hS.1 ?_)
    iterate 1 refine em_next rfl ?_
    refine em_c_gt (fun h1 => absurd h1 (nI_nlt (by omega) (by omega))) (fun _ => ?_)
    iterate 4 refine em_next rfl ?_
    refine em_inv_call rfl (ce_Ra (s := k) hS rfl (by omega) (by omega) (fun I1 a1 a2 => ?_))
    iterate 2 refine em_next rfl ?_
    have g := ih (k := k + 1) (I := I1) a2 (by omega) (fun I' f s => h I' (a1.tr f) s)
    have ec : em_ct (k + 1) (em_led P X n a) = em_ct k (em_led P X n a) + (if em_led P X n a k then 1 else 0) := rfl
    rw [ec, nI_succ] at g
    refine em_c_ne (fun q => ?_) (fun q => ?_)
    · rw [show em_led P X n a k = false from decide_eq_false q, if_neg (by decide), Nat.add_zero] at g
      iterate 2 refine em_next rfl ?_
      exact g
    · rw [show em_led P X n a k = true from decide_eq_true q, if_pos rfl, nI_succ] at g
      iterate 3 refine em_next rfl ?_
      exact g
theorem ce_least_l (hS : cl_S I lp P X) {a : Int32} {n k m : Nat} (hnn : n < 25) (hk : k + m = 2 ^ P.1) (h : ∀ I' : Nat → Nat → Int32, em_fC I I' → cl_S I' lp P X → Q (some (.int (em_oi (em_ff (em_led P X n a) k m)))) (em_SH, I', J, em_RT lw)) : em_wp em_sc0 (d + 5) 59 2 [some (.ref 281), some (.int (a)), some (.int (nI n)), some (.int (nI k))] [] (em_SH, I, J, em_RT lw) Q := by
  have hn := hS.1.1.1
  have hp9 := em_pow9 hn
  have hp := Nat.two_pow_pos P.1
  induction m generalizing k I with
  | zero =>
    have e : k = 2 ^ P.1 := by omega
    subst e
    iterate 3 refine em_next rfl ?_
    refine em_inv_call rfl (ce_allLeft hS.1 ?_)
    iterate 1 refine em_next rfl ?_
    refine em_c_gt (fun _ => ?_) (fun h1 => absurd (nI_lt (by omega) (by omega)) h1)
    iterate 1 refine em_next rfl ?_
    exact em_done rfl (h I em_fC.rf hS)
  | succ m ih =>
    iterate 3 refine em_next rfl ?_
    refine em_inv_call rfl (ce_allLeft hS.1 ?_)
    iterate 1 refine em_next rfl ?_
    refine em_c_gt (fun h1 => absurd h1 (nI_nlt (by omega) (by omega))) (fun _ => ?_)
    iterate 4 refine em_next rfl ?_
    refine em_inv_call rfl (ce_Ra (s := k) hS rfl (by omega) (by omega) (fun I1 a1 a2 => ?_))
    iterate 2 refine em_next rfl ?_
    refine em_c_ne (fun q => ?_) (fun q => ?_)
    · rw [em_ff, show em_led P X n a k = false from decide_eq_false q, if_neg (by decide)] at h
      have g := ih (k := k + 1) (I := I1) a2 (by omega) (fun I' f s => h I' (a1.tr f) s)
      rw [nI_succ] at g
      iterate 2 refine em_next rfl ?_
      exact g
    · rw [em_ff, show em_led P X n a k = true from decide_eq_true q, if_pos rfl] at h
      iterate 1 refine em_next rfl ?_
      exact em_done rfl (h I1 a1 a2)
theorem cq_leads (hS : cl_S I lp P X) {a n w : Int32} (h : ∀ I' : Nat → Nat → Int32, em_fW I I' → cl_S I' lp P X → Q (some (.int (sp_leads P X a n w))) (em_SH, I', J, em_RT lw)) : em_call (d + 8) 136 [.ref 1, .int a, .int n, .int w] (em_SH, I, J, em_RT lw) Q := by
  have hn := hS.1.1.1
  unfold sp_leads at h
  iterate 3 refine em_next rfl ?_
  refine em_inv_call rfl (ce_hasRow hS.1 ?_)
  iterate 1 refine em_next rfl ?_
  refine em_b_eq (fun g => ?_) (fun g => ?_)
  · rw [if_neg (fun q => g q.1)] at h
    iterate 1 refine em_next rfl ?_
    exact em_done rfl (h I em_fW.rf hS)
  iterate 3 refine em_next rfl ?_
  refine em_inv_call rfl (ce_within (a := 0) (b := 24) ?_)
  iterate 1 refine em_next rfl ?_
  refine em_b_eq (fun g2 => ?_) (fun g2 => ?_)
  · rw [if_neg (fun q => g2 q.2.1)] at h
    iterate 1 refine em_next rfl ?_
    exact em_done rfl (h I em_fW.rf hS)
  iterate 1 refine em_next rfl ?_
  refine em_inv_call rfl (ce_pair ?_)
  iterate 1 refine em_next rfl ?_
  refine em_b_ne (fun g3 => ?_) (fun g3 => ?_)
  · rw [if_pos ⟨g, g2, g3⟩] at h
    obtain ⟨m, hm, rfl, em⟩ := em_nat (m := 24) (by decide) g2.1 g2.2
    rw [em] at h
    iterate 2 refine em_next rfl ?_
    refine em_z_ne (fun z => ?_) (fun z => ?_)
    · rw [if_neg z] at h
      iterate 4 refine em_next rfl ?_
      refine em_inv_call rfl ?_
      iterate 2 refine em_next rfl ?_
      exact ce_least_l (k := 0) (m := 2 ^ P.1) (n := m) hS (by omega) (by omega) (fun I1 a1 a2 => em_done rfl (h I1 a1.W a2))
    · rw [if_pos z] at h
      iterate 4 refine em_next rfl ?_
      refine em_inv_call rfl ?_
      iterate 4 refine em_next rfl ?_
      refine ce_leading_l (k := 0) (m := 2 ^ P.1) (n := m) hS (by omega) (by omega) (fun I1 a1 a2 => ?_)
      iterate 1 refine em_next rfl ?_
      exact em_done rfl (h I1 a1.W a2)
  · rw [if_neg (fun q => g3 q.2.2)] at h
    iterate 1 refine em_next rfl ?_
    exact em_done rfl (h I em_fW.rf hS)
theorem cq_rule (hS : cl_S I lp P X) {b : Int32} (h : ∀ I' : Nat → Nat → Int32, em_fW I I' → cl_S I' lp P X → Q (some (.int (sp_rule P X b))) (em_SH, I', J, em_RT lw)) : em_call (d + 8) 139 [.ref 1, .int b] (em_SH, I, J, em_RT lw) Q := by
  have hn := hS.1.1.1
  unfold sp_rule at h
  iterate 3 refine em_next rfl ?_
  refine em_inv_call rfl (ce_hasBed hS.1 ?_)
  iterate 1 refine em_next rfl ?_
  refine em_b_ne (fun g => ?_) (fun g => ?_)
  · rw [if_pos g] at h
    obtain ⟨s, hs, rfl, es⟩ := em_bedN hn g
    rw [es] at h
    iterate 7 refine em_next rfl ?_
    refine em_inv_call rfl (ce_hourOfDay_now hS.2.1.1.2.2.2 hS.2.1.1.2.1 ?_)
    refine em_inv_call rfl (ce_cases (hab := P.2.2.2.2) (part := X.2.2) hS.1 hs (hS.2.1.2 s hs).1 (hS.2.1.2 s hs).2 (fun I1 a1 => ?_))
    have fC : em_fC I I1 := fun a ha => a1 a (fun q => ha (by rw [q]; decide)) (fun q => ha (by rw [q]; decide))
    exact em_done rfl (h I1 fC.W (hS.keep fC (fun t ht b hb => by rw [a1 _ (by decide) (by decide)]; exact hS.2.2.2.1 t ht b hb)))
  · rw [if_neg g] at h
    iterate 1 refine em_next rfl ?_
    exact em_done rfl (h I em_fW.rf hS)
end CQ1
