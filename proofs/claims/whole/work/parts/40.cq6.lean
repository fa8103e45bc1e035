/-! the class: its questions, five -/
def ec_cm (P : em_Pl) (X : em_Nt) (k : Nat) : Int32 := if k = 0 then -1 else nI (em_cdl P X k).2
theorem em_notE {a : Int32} {n s : Nat} (ha : a = nI s) (hn : n < 10) (hs : s < 2 ^ n) : nI (2 ^ n - 1) &&& (a ^^^ -1) = nI (2 ^ n - 1 - s) := by rw [ha]; exact em_not9 n hn s hs
theorem em_addE {a b c : Int32} (h : a = b) : a + c = b + c := by rw [h]
theorem em_addN {a b : Int32} {m k : Nat} (h : a = nI m) (h2 : b = nI k) : a + b = nI (m + k) := by rw [h, h2, em_nadd]
def ec_up (n : Nat) (rg : Bool) (r : Nat) : Int32 := (nI r ^^^ em_rH n rg r) &&& (if rg = true ∧ 2 < n then nI (2 ^ n - 1) else nI (2 ^ n - 1) >>> ((1 : Int32) &&& 31))
theorem ec_up_ok : ∀ n, n < 10 → ∀ r, r < 2 ^ n → ∀ rg, ec_up n rg r = nI (ec_up n rg r).toNatClampNeg ∧ (ec_up n rg r).toNatClampNeg < 512 ∧ em_pc (ec_up n rg r).toNatClampNeg = em_un n rg r := by decide +kernel
section CQ6
variable {d lw : Nat} {P : em_Pl} {X Y : em_Nt} {lp : Bool} {part : Nat → Int32} {I I0 : Nat → Nat → Int32} {J : Nat → Nat → Int64} {M : em_M} {Q : Option Value → em_M → Prop} {v : List Int32} {sd : Int32}
theorem ce_coldest_l (hS : cl_S I lp P X) {w : Int32} {k m : Nat} {o : Option Value} (hk : k + m = 24) (hY : cd_T I P (em_it P true 0 k X)) (h : ∀ I' : Nat → Nat → Int32, em_fC I I' → cl_S I' lp P X → Q (some (.int (if w = 0 then nI (em_cdl P X 24).1 else nI (em_cdl P X 24).2))) (em_SH, I', J, em_RT lw)) : em_wp em_sc0 (d + 8) 140 30 [some (.ref 1), some (.int (w)), some (.int (ec_cm P X k)), some (.int (nI (em_cdl P X k).1)), some (.int (nI k)), o] [] (em_SH, I, J, em_RT lw) Q := by
  have hn := hS.1.1.1
  have hX := hS.2.2.2.2
  induction m generalizing k I o with
  | zero =>
    have e : k = 24 := by omega
    subst e
    iterate 3 refine em_next rfl ?_
    refine em_c_ge (fun _ => ?_) (fun h1 => absurd (by decide) h1)
    iterate 2 refine em_next rfl ?_
    refine em_z_ne (fun z => ?_) (fun z => ?_)
    · rw [if_neg z] at h
      iterate 1 refine em_next rfl ?_
      exact em_done rfl (h I em_fC.rf hS)
    · rw [if_pos z] at h
      iterate 2 refine em_next rfl ?_
      exact em_done rfl (h I em_fC.rf hS)
  | succ m ih =>
    have hh := em_it_h P true 0 k X
    have c1 := em_chw_le hn X k
    have c2 := em_cdl_le hn X k
    iterate 3 refine em_next rfl ?_
    refine em_c_ge (fun h1 => absurd h1 (nI_ge (b := 24) (by omega) (by decide))) (fun _ => ?_)
    iterate 5 refine em_next rfl ?_
    refine em_inv_call rfl (ce_chills hS hY (fun I1 a1 => ?_))
    iterate 4 refine em_next rfl ?_
    have en : em_cdl P X (k + 1) = if (em_cdl P X k).2 < em_chw P X k then (k, em_chw P X k) else em_cdl P X k := rfl
    have e0 : k = 0 → em_cdl P X k = (0, 0) := fun e => by subst e; rfl
    refine em_c_leE (x' := nI (em_chw P X k)) rfl (y' := ec_cm P X k) rfl (fun q => ?_) (fun q => ?_)
    · have hk0 : ¬ k = 0 := fun e => by
        unfold ec_cm at q
        rw [if_pos e] at q
        exact absurd q (Int32.not_le.mpr (Int32.lt_of_lt_of_le (by decide) (nI_pos' (by omega))))
      unfold ec_cm at q
      rw [if_neg hk0] at q
      have q2 := (nI_leI (by omega) (by omega)).mp q
      iterate 5 refine em_next rfl ?_
      refine em_inv_call rfl (ce_dh (hS.kK a1) (hY.kK a1) (by omega) (fun I2 b1 b2 b3 => ?_))
      have g := ih (k := k + 1) (I := I2) (o := some (.int (nI (em_chw P X k)))) b2 (by omega) b3 (fun I' f => h I' ((a1.C.tr b1).tr f))
      have e3 : ec_cm P X (k + 1) = ec_cm P X k := by
        unfold ec_cm
        rw [if_neg (by omega), if_neg hk0, en, if_neg (by omega)]
      rw [e3, en, if_neg (by omega), nI_succ] at g
      iterate 2 refine em_next rfl ?_
      exact g
    · have e3 : ec_cm P X (k + 1) = nI (em_chw P X k) ∧ (em_cdl P X (k + 1)).1 = k := by
        unfold ec_cm
        rw [if_neg (by omega), en]
        by_cases hk0 : k = 0
        · rw [e0 hk0]
          dsimp only
          split
          · exact ⟨rfl, rfl⟩
          · rename_i z
            exact ⟨congrArg nI (by omega), hk0.symm⟩
        · unfold ec_cm at q
          rw [if_neg hk0] at q
          have q2 : (em_cdl P X k).2 < em_chw P X k := Nat.not_le.mp (fun z => q ((nI_leI (by omega) (by omega)).mpr z))
          rw [if_pos q2]
          exact ⟨rfl, rfl⟩
      iterate 9 refine em_next rfl ?_
      refine em_inv_call rfl (ce_dh (hS.kK a1) (hY.kK a1) (by omega) (fun I2 b1 b2 b3 => ?_))
      have g := ih (k := k + 1) (I := I2) (o := some (.int (nI (em_chw P X k)))) b2 (by omega) b3 (fun I' f => h I' ((a1.C.tr b1).tr f))
      rw [e3.1, e3.2, nI_succ] at g
      iterate 2 refine em_next rfl ?_
      exact g
theorem cq_coldest (hS : cl_S I lp P X) {w : Int32} (h : ∀ I' : Nat → Nat → Int32, em_fW I I' → cl_S I' lp P X → Q (some (.int (sp_coldest P X w))) (em_SH, I', J, em_RT lw)) : em_call (d + 8) 140 [.ref 1, .int w] (em_SH, I, J, em_RT lw) Q := by
  unfold sp_coldest at h
  iterate 1 refine em_next rfl ?_
  refine em_inv_call rfl (ce_pair ?_)
  iterate 1 refine em_next rfl ?_
  refine em_b_ne (fun g => ?_) (fun g => ?_)
  · rw [if_pos g] at h
    iterate 9 refine em_next rfl ?_
    refine em_inv_call rfl (ce_lieE hS hS.rw hS.2.1.1.1 (fun I1 a1 a2 a3 a4 _ => ?_))
    iterate 2 refine em_next rfl ?_
    exact ce_coldest_l (k := 0) (m := 24) a2 (by omega) a4 (fun I' f s => h I' (a1.tr f).W s)
  · rw [if_neg g] at h
    iterate 1 refine em_next rfl ?_
    exact em_done rfl (h I em_fW.rf hS)
theorem ce_sleep_l (hS : cl_S I lp P X) {n k m : Nat} {s' : Int32} (es : s' = sd) (hnn : n ≤ 48) (hk : k + m = n) (hY : cd_T I P (em_it P false sd k X)) (h : ∀ I' : Nat → Nat → Int32, em_fC I I' → cl_S I' lp P X → cd_T I' P (em_it P false sd n X) → Q none (em_SH, I', J, em_RT lw)) : em_wp em_sc0 (d + 4) 4 13 [some (.ref 270), some (.int (nI n)), some (.int (s')), some (.int (nI k))] [] (em_SH, I, J, em_RT lw) Q := by
  have hX := hS.2.2.2.2
  induction m generalizing k I with
  | zero =>
    have e : k = n := by omega
    subst e
    iterate 3 refine em_next rfl ?_
    refine em_c_ge (fun _ => ?_) (fun h1 => absurd (nI_le (Nat.le_refl _) (by omega)) h1)
    exact em_done rfl (h I em_fC.rf hS hY)
  | succ m ih =>
    have hh := em_it_h P false sd k X
    iterate 3 refine em_next rfl ?_
    refine em_c_ge (fun h1 => absurd h1 (nI_ge (by omega) (by omega))) (fun _ => ?_)
    iterate 5 refine em_next rfl ?_
    refine em_inv_call rfl (ce_dc hS hY (by omega) es (fun I1 a1 a2 a3 => ?_))
    iterate 2 refine em_next rfl ?_
    have g := ih (k := k + 1) (I := I1) a2 (by omega) a3 (fun I' f => h I' (a1.tr f))
    rw [nI_succ] at g
    exact g
theorem ce_sleep (hS : cl_S I lp P X) {n : Nat} {s' : Int32} (es : s' = sd) (hnn : n ≤ 48) (h : ∀ I' : Nat → Nat → Int32, em_fC I I' → cl_S I' lp P X → cd_T I' P (em_it P false sd n X) → Q none (em_SH, I', J, em_RT lw)) : em_call (d + 4) 4 [.ref 270, .int (nI n), .int s'] (em_SH, I, J, em_RT lw) Q := by
  iterate 4 refine em_next rfl ?_
  refine em_inv_call rfl (ce_lieE hS hS.rw hS.2.1.1.1 (fun I1 a1 a2 a3 a4 _ => ?_))
  iterate 2 refine em_next rfl ?_
  exact ce_sleep_l (k := 0) (m := n) a2 es hnn (by omega) a4 (fun I' f => h I' (a1.tr f))
theorem ce_year_l (hS : cl_S I lp P X) (hsd : I 24 11 = sd) {n s k m : Nat} (hnn : n ≤ 48) (hss : s ≤ 20) (hk : k + m = s) (h : ∀ I' : Nat → Nat → Int32, em_fC I I' → cl_S I' lp P X → Q (some (.int (nI (em_ct s (em_yr P X sd n))))) (em_SH, I', J, em_RT lw)) : em_wp em_sc0 (d + 8) 154 27 [some (.ref 1), some (.int (nI n)), some (.int (nI s)), some (.int (nI (em_ct k (em_yr P X sd n)))), some (.int (nI k))] [] (em_SH, I, J, em_RT lw) Q := by
  have hn := hS.1.1.1
  have hr := hS.2.1.1.1
  have hp9 := em_pow9 hn
  have hp := Nat.two_pow_pos P.1
  induction m generalizing k I with
  | zero =>
    have e : k = s := by omega
    subst e
    iterate 3 refine em_next rfl ?_
    refine em_c_ge (fun _ => ?_) (fun h1 => absurd (nI_le (Nat.le_refl _) (by omega)) h1)
    iterate 1 refine em_next rfl ?_
    exact em_done rfl (h I em_fC.rf hS)
  | succ m ih =>
    iterate 3 refine em_next rfl ?_
    refine em_c_ge (fun h1 => absurd h1 (nI_ge (by omega) (by omega))) (fun _ => ?_)
    iterate 8 refine em_next rfl ?_
    refine em_inv_call rfl (ce_sleep (sd := sd + nI k) hS (em_addE hsd) hnn (fun I1 a1 a2 a3 => ?_))
    have hlt : (em_it P false (sd + nI k) n X).1 < 2 ^ P.1 := em_it_lt _ _ _ _ hr
    iterate 6 refine em_next rfl ?_
    refine em_inv_call rfl (ce_allLeft a2.1 ?_)
    iterate 1 refine em_next rfl ?_
    have g := ih (k := k + 1) (I := I1) a2 (by rw [a1 _ (by decide)]; exact hsd) (by omega) (fun I' f => h I' (a1.tr f))
    have ec : em_ct (k + 1) (em_yr P X sd n) = em_ct k (em_yr P X sd n) + (if em_yr P X sd n k then 1 else 0) := rfl
    rw [ec, nI_succ] at g
    refine em_c_neE a3.1.2.2.1 rfl (fun q => ?_) (fun q => ?_)
    · rw [show em_yr P X sd n k = false from decide_eq_false (fun e => q (by rw [e])), if_neg (by decide), Nat.add_zero] at g
      iterate 2 refine em_next rfl ?_
      exact g
    · rw [show em_yr P X sd n k = true from decide_eq_true ((nI_eq (by omega) (by omega)).mp q), if_pos rfl, nI_succ] at g
      iterate 3 refine em_next rfl ?_
      exact g
theorem cq_year (hS : cl_S I lp P X) (hsd : I 24 11 = sd) {n s : Int32} (h : ∀ I' : Nat → Nat → Int32, em_fW I I' → cl_S I' lp P X → Q (some (.int (sp_year P X sd n s))) (em_SH, I', J, em_RT lw)) : em_call (d + 8) 154 [.ref 1, .int n, .int s] (em_SH, I, J, em_RT lw) Q := by
  unfold sp_year at h
  iterate 3 refine em_next rfl ?_
  refine em_inv_call rfl (ce_within (a := 0) (b := 48) ?_)
  iterate 1 refine em_next rfl ?_
  refine em_b_eq (fun g => ?_) (fun g => ?_)
  · rw [if_neg (fun q => g q.1)] at h
    iterate 1 refine em_next rfl ?_
    exact em_done rfl (h I em_fW.rf hS)
  iterate 3 refine em_next rfl ?_
  refine em_inv_call rfl (ce_within (a := 1) (b := 20) ?_)
  iterate 1 refine em_next rfl ?_
  refine em_b_ne (fun g2 => ?_) (fun g2 => ?_)
  · rw [if_pos ⟨g, g2⟩] at h
    obtain ⟨m, hm, rfl, em⟩ := em_nat (m := 48) (by decide) g.1 g.2
    obtain ⟨t, ht, rfl, et⟩ := em_nat (m := 20) (by decide) (Int32.le_trans (by decide) g2.1) g2.2
    rw [em, et] at h
    iterate 4 refine em_next rfl ?_
    exact ce_year_l (k := 0) (m := t) hS hsd hm ht (by omega) (fun I' f s => h I' f.W s)
  · rw [if_neg (fun q => g2 q.2)] at h
    iterate 1 refine em_next rfl ?_
    exact em_done rfl (h I em_fW.rf hS)
theorem ce_parting_l (hS : cl_S I lp P X) {w : Int32} {k m : Nat} (hk : k + m + 1 = P.1) (h : Q (some (.int (if w = 0 then nI (em_pg X.2.2 (P.1 - 1)) else X.2.2 (em_pg X.2.2 (P.1 - 1))))) (em_SH, I, J, em_RT lw)) : em_wp em_sc0 (d + 1) 146 24 [some (.ref 1), some (.int (w)), some (.int (nI (em_pg X.2.2 k))), some (.int (nI (k + 1)))] [] (em_SH, I, J, em_RT lw) Q := by
  have hn := hS.1.1.1
  have hN := hS.2.1.2
  induction m generalizing k with
  | zero =>
    have e : P.1 - 1 = k := by omega
    have hg := em_pg_le X.2.2 k
    rw [e] at h
    iterate 5 refine em_next rfl ?_
    refine em_c_geE rfl hS.mn (fun _ => ?_) (fun h1 => absurd (nI_le (by omega) (by omega)) h1)
    iterate 2 refine em_next rfl ?_
    refine em_z_ne (fun z => ?_) (fun z => ?_)
    · rw [if_neg z] at h
      iterate 4 refine em_next rfl ?_
      refine em_ialn rfl rfl (by omega) (by decide) ?_
      exact em_doneE rfl (hN (em_pg X.2.2 k) (by omega)).2 h
    · rw [if_pos z] at h
      iterate 2 refine em_next rfl ?_
      exact em_done rfl h
  | succ m ih =>
    have hg := em_pg_le X.2.2 k
    have g := ih (k := k + 1) (by omega)
    rw [em_pg, nI_succ (k + 1)] at g
    iterate 5 refine em_next rfl ?_
    refine em_c_geE rfl hS.mn (fun h1 => absurd h1 (nI_ge (by omega) (by omega))) (fun _ => ?_)
    iterate 4 refine em_next rfl ?_
    refine em_ialn rfl rfl (by omega) (by decide) ?_
    iterate 4 refine em_next rfl ?_
    refine em_ialn rfl rfl (by omega) (by decide) ?_
    iterate 1 refine em_next rfl ?_
    refine em_c_leE (hN (k + 1) (by omega)).2 (hN (em_pg X.2.2 k) (by omega)).2 (fun q => ?_) (fun q => ?_)
    · rw [if_neg (Int32.not_lt.mpr q)] at g
      iterate 2 refine em_next rfl ?_
      exact g
    · rw [if_pos (Int32.not_le.mp q)] at g
      iterate 4 refine em_next rfl ?_
      exact g
theorem cq_parting (hS : cl_S I lp P X) {w : Int32} (h : Q (some (.int (sp_parting P X w))) (em_SH, I, J, em_RT lw)) : em_call (d + 2) 146 [.ref 1, .int w] (em_SH, I, J, em_RT lw) Q := by
  have hn := hS.1.1.1
  unfold sp_parting at h
  iterate 4 refine em_next rfl ?_
  refine em_z_eqE hS.mn (fun q => ?_) (fun q => ?_)
  · have q2 : P.1 = 0 := (nI_eq (b := 0) (by omega) (by decide)).mp q
    rw [if_neg (fun z => z.2 q2)] at h
    iterate 1 refine em_next rfl ?_
    exact em_done rfl h
  · have q2 : ¬ P.1 = 0 := fun e => q (by rw [e]; rfl)
    iterate 1 refine em_next rfl ?_
    refine em_inv_call rfl (ce_pair ?_)
    iterate 1 refine em_next rfl ?_
    refine em_b_ne (fun g => ?_) (fun g => ?_)
    · rw [if_pos ⟨g, q2⟩] at h
      iterate 4 refine em_next rfl ?_
      exact ce_parting_l (d := d + 1) (k := 0) (m := P.1 - 1) hS (by omega) h
    · rw [if_neg (fun z => g z.1)] at h
      iterate 1 refine em_next rfl ?_
      exact em_done rfl h
theorem ce_rowBehindE (hS : cl_S I lp P X) {a : Int32} {r : Nat} (ea : a = nI r) (h : Q (some (.int (em_rH P.1 P.2.1 r))) (em_SH, I, J, em_RT lw)) : em_call d 40 [.ref 24, .int a] (em_SH, I, J, em_RT lw) Q := by
  subst ea
  exact ce_rowBehind hS.1 h
theorem ec_upE {n r : Nat} {rg : Bool} {a b : Int32} (ha : a = nI r) (hb : b = (if rg = true ∧ 2 < n then nI (2 ^ n - 1) else nI (2 ^ n - 1) >>> ((1 : Int32) &&& 31))) (hn : n < 10) (hr : r < 2 ^ n) : (a ^^^ em_rH n rg r) &&& b = nI (ec_up n rg r).toNatClampNeg := by
  rw [ha, hb]
  exact (ec_up_ok n hn r hr rg).1
theorem cq_unlike (hS : cl_S I lp P X) (h : Q (some (.int (sp_unlike P X))) (em_SH, I, J, em_RT lw)) : em_call (d + 2) 142 [.ref 1] (em_SH, I, J, em_RT lw) Q := by
  have hn := hS.1.1.1
  have hr := hS.2.1.1.1
  have hu := ec_up_ok P.1 (by omega) X.1 hr P.2.1
  unfold sp_unlike at h
  rw [← hu.2.2] at h
  iterate 5 refine em_next rfl ?_
  refine em_inv_call rfl ?_
  iterate 3 refine em_next rfl ?_
  refine em_z_eqE hS.1.1.2.2 (fun q => ?_) (fun q => ?_)
  · have q2 : ¬ (P.2.1 = true ∧ 2 < P.1) := fun e => by rw [e.1] at q; exact absurd q (by decide)
    iterate 1 refine em_next rfl ?_
    refine em_inv_call rfl (ce_allLeft hS.1 ?_)
    iterate 6 refine em_next rfl ?_
    refine em_inv_call rfl (ce_rowBehindE hS hS.rw ?_)
    iterate 3 refine em_next rfl ?_
    refine em_inv_call rfl (ce_bits (ec_upE hS.rw (by rw [if_neg q2]; rfl) (by omega) hr) hu.2.1 ?_)
    refine em_done rfl ?_
    exact em_done rfl h
  · have q1 : P.2.1 = true := by
      cases e : P.2.1
      · rw [e] at q; exact absurd rfl q
      · rfl
    iterate 4 refine em_next rfl ?_
    refine em_c_leE hS.mn (y' := nI 2) rfl (fun q => ?_) (fun q => ?_)
    · have q2 : ¬ (P.2.1 = true ∧ 2 < P.1) := fun e => by have := (nI_leI (by omega) (by decide)).mp q; omega
      iterate 1 refine em_next rfl ?_
      refine em_inv_call rfl (ce_allLeft hS.1 ?_)
      iterate 6 refine em_next rfl ?_
      refine em_inv_call rfl (ce_rowBehindE hS hS.rw ?_)
      iterate 3 refine em_next rfl ?_
      refine em_inv_call rfl (ce_bits (ec_upE hS.rw (by rw [if_neg q2]; rfl) (by omega) hr) hu.2.1 ?_)
      refine em_done rfl ?_
      exact em_done rfl h
    · have q2 : P.2.1 = true ∧ 2 < P.1 := ⟨q1, Nat.not_le.mp (fun e => q ((nI_leI (by omega) (by decide)).mpr e))⟩
      iterate 1 refine em_next rfl ?_
      refine em_inv_call rfl (ce_allLeft hS.1 ?_)
      iterate 5 refine em_next rfl ?_
      refine em_inv_call rfl (ce_rowBehindE hS hS.rw ?_)
      iterate 3 refine em_next rfl ?_
      refine em_inv_call rfl (ce_bits (ec_upE hS.rw (by rw [if_pos q2]) (by omega) hr) hu.2.1 ?_)
      refine em_done rfl ?_
      exact em_done rfl h
end CQ6
