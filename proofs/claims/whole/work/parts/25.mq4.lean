/-! the reference: its questions, four -/
def em_un (n : Nat) (rg : Bool) (r : Nat) : Nat := em_ct (n - 1) (fun b => r.testBit (b + 1) != r.testBit b) + (if rg = true ∧ 2 < n ∧ r.testBit 0 ≠ r.testBit (n - 1) then 1 else 0)
def sp_unlike (P : em_Pl) (X : em_Nt) : Int32 := nI (em_un P.1 P.2.1 X.1)
/-- how many lie alike from a bed on, given so many do -/
def em_rl (n : Nat) (rg : Bool) (r b : Nat) : Nat → Nat → Nat
  | l, 0 => l
  | l, m + 1 => if (rg || decide (b + l < n)) && (r.testBit ((b + l) % n) == r.testBit b) then em_rl n rg r b (l + 1) m else l
def em_run1 (P : em_Pl) (X : em_Nt) (b : Nat) : Nat := em_rl P.1 P.2.1 X.1 b 0 P.1
def sp_run (P : em_Pl) (X : em_Nt) (w : Int32) : Int32 := if em_ok 0 1 w then (if w = 0 then (match em_xi (em_run1 P X) P.1 with | none => 0 | some b => nI (em_run1 P X b)) else em_oi (em_xi (em_run1 P X) P.1)) else -1
theorem em_bb_inj {x y : Bool} : em_bb x = em_bb y ↔ x = y := by cases x <;> cases y <;> decide
theorem em_bit_eq {r a s b : Nat} : em_bit r a = em_bit s b ↔ r.testBit a = s.testBit b := by rw [em_bit_bb, em_bit_bb, em_bb_inj]
theorem em_rl_le {n : Nat} {rg : Bool} {r b : Nat} (l m : Nat) : em_rl n rg r b l m ≤ l + m := by
  induction m generalizing l with
  | zero => exact Nat.le_refl _
  | succ m ih =>
    rw [em_rl]
    have := ih (l + 1)
    split <;> omega
section MQ4
variable {d lw lv : Nat} {P : em_Pl} {X Y : em_Nt} {I I0 : Nat → Nat → Int32} {J : Nat → Nat → Int64} {M : em_M} {Q : Option Value → em_M → Prop} {stl : Bool} {sd : Int32}
theorem me_fillsLeft_l (hS : mo_S I lv P X) {n k m : Nat} (hnn : n < 25) (hk : k + m = P.1) (h0 : ∀ b, b < k → I 321 b = nI (em_lf P X n b)) (h : ∀ I' : Nat → Nat → Int32, em_fQ I I' → (∀ b, b < P.1 → I' 321 b = nI (em_lf P X n b)) → Q none (em_SH, I', J, em_RT lw)) : em_wp em_sc0 (d + 8) 255 2 [some (.ref 284), some (.int (nI n)), some (.int (nI k))] [] (em_SH, I, J, em_RT lw) Q := by
  have hn := hS.1.1.2.1
  have hr := hS.2.1.1.1
  have hp9 := em_pow9 hn
  induction m generalizing k I with
  | zero =>
    have e : k = P.1 := by omega
    subst e
    iterate 2 refine em_next rfl ?_
    refine em_inv_call rfl (me_many hS.1 ?_)
    iterate 1 refine em_next rfl ?_
    refine em_c_ge (fun _ => ?_) (fun h1 => absurd (nI_le (Nat.le_refl _) (by omega)) h1)
    exact em_done rfl (h I em_fQ.rf h0)
  | succ m ih =>
    iterate 2 refine em_next rfl ?_
    refine em_inv_call rfl (me_many hS.1 ?_)
    iterate 1 refine em_next rfl ?_
    refine em_c_ge (fun h1 => absurd h1 (nI_ge (by omega) (by omega))) (fun _ => ?_)
    iterate 5 refine em_next rfl ?_
    refine em_inv_call rfl (me_now hS ?_)
    iterate 4 refine em_next rfl ?_
    show em_wp em_sc0 (d + 8) 255 24 _ [.int (nI X.1 ^^^ (1 <<< (nI k &&& 31))), .ref 284, .int (nI k), .ref 321] _ _
    rw [em_xb (by omega)]
    iterate 1 refine em_next rfl ?_
    refine em_inv_call rfl (me_R hS (em_xlt hr (by omega)) (by omega) (fun I1 a1 => ?_))
    have hlt : em_R P X n (X.1 ^^^ 2 ^ k) < 2 ^ P.1 := em_R_lt (em_xlt hr (by omega))
    refine em_inv_call rfl (me_bits (by omega) ?_)
    refine em_iasn (k := k) rfl rfl (by omega) (by decide) ?_
    have f1 : em_fQ I (em_u I1 321 k (nI (em_pc (em_R P X n (X.1 ^^^ 2 ^ k))))) := a1.Q.tr (em_fQ.row (a := 321) (by decide) (fun c hc => em_u_row hc))
    iterate 2 refine em_next rfl ?_
    have g := ih (k := k + 1) (I := em_u I1 321 k (nI (em_pc (em_R P X n (X.1 ^^^ 2 ^ k))))) (hS.keepQ f1) (by omega) (fun b hb => ?_) (fun I' f => h I' (f1.tr f))
    · rw [nI_succ] at g
      exact g
    · by_cases q : b = k
      · subst q
        exact em_u_self
      · rw [em_u_ne q, a1 _ _ (by decide) (fun q => absurd q.1 (by decide))]
        exact h0 b (by omega)
theorem me_fillsLeft (hS : mo_S I lv P X) {n : Nat} (hnn : n < 25) (h : ∀ I' : Nat → Nat → Int32, em_fQ I I' → (∀ b, b < P.1 → I' 321 b = nI (em_lf P X n b)) → Q none (em_SH, I', J, em_RT lw)) : em_call (d + 8) 255 [.ref 284, .int (nI n)] (em_SH, I, J, em_RT lw) Q := by
  iterate 2 refine em_next rfl ?_
  exact me_fillsLeft_l (k := 0) (m := P.1) hS hnn (by omega) (fun b hb => by omega) h
def em_on1 : Option Nat → Int32
  | none => -1
  | some k => nI k
theorem me_worstBut_l (hS : mo_S I lv P X) {n k m : Nat} {g : Int32} {p : Nat → Bool} (hp : ∀ b, b < 9 → (p b = false ↔ nI b = g)) (hv : ∀ b, b < P.1 → I 321 b = nI (em_lf P X n b)) (hk : k + m = P.1) (h : Q (some (.int (em_on1 (em_ai p (em_lf P X n) P.1)))) (em_SH, I, J, em_RT lw)) : em_wp em_sc0 (d + 1) 256 4 [some (.ref 284), some (.int (g)), some (.int (em_on1 (em_ai p (em_lf P X n) k))), some (.int (nI k))] [] (em_SH, I, J, em_RT lw) Q := by
  have hn := hS.1.1.2.1
  induction m generalizing k with
  | zero =>
    have e : k = P.1 := by omega
    subst e
    iterate 2 refine em_next rfl ?_
    refine em_inv_call rfl (me_many hS.1 ?_)
    iterate 1 refine em_next rfl ?_
    refine em_c_ge (fun _ => ?_) (fun h1 => absurd (nI_le (Nat.le_refl _) (by omega)) h1)
    iterate 1 refine em_next rfl ?_
    exact em_done rfl h
  | succ m ih =>
    iterate 2 refine em_next rfl ?_
    refine em_inv_call rfl (me_many hS.1 ?_)
    iterate 1 refine em_next rfl ?_
    refine em_c_ge (fun h1 => absurd h1 (nI_ge (by omega) (by omega))) (fun _ => ?_)
    iterate 3 refine em_next rfl ?_
    have gg := ih (k := k + 1) (by omega)
    rw [nI_succ] at gg
    refine em_c_eq (fun q => ?_) (fun q => ?_)
    · have e : p k = false := (hp k (by omega)).mpr q
      rw [em_ai_no e] at gg
      iterate 2 refine em_next rfl ?_
      exact gg
    · have e : p k = true := by
        cases z : p k
        · exact absurd ((hp k (by omega)).mp z) q
        · rfl
      rw [em_ai, e] at gg
      iterate 2 refine em_next rfl ?_
      cases e1 : em_ai p (em_lf P X n) k with
      | none =>
        rw [e1] at gg
        refine em_z_lt (fun _ => ?_) (fun q => absurd (by decide) q)
        iterate 4 refine em_next rfl ?_
        exact gg
      | some b =>
        rw [e1] at gg
        dsimp only at gg
        rw [Bool.true_and] at gg
        have hb : b < k := em_ai_lt e1
        have m1 : em_lf P X n k ≤ 9 := em_pc_le _
        have m2 : em_lf P X n b ≤ 9 := em_pc_le _
        refine em_z_lt (fun q => absurd q (nI_pos (by omega))) (fun _ => ?_)
        iterate 3 refine em_next rfl ?_
        refine em_ialn (k := k) rfl rfl (by omega) (by decide) ?_
        rw [hv k (by omega)]
        iterate 3 refine em_next rfl ?_
        refine em_ialk (i := nI b) (k := b) rfl rfl (em_in_n (by omega) (by decide)) (nI_clamp (by omega)) ?_
        rw [hv b (by omega)]
        iterate 1 refine em_next rfl ?_
        refine em_c_ge (fun q => ?_) (fun q => ?_)
        · rw [decide_eq_false (Nat.not_lt.mpr ((nI_leI (by omega) (by omega)).mp q)), if_neg (by decide)] at gg
          iterate 2 refine em_next rfl ?_
          exact gg
        · rw [decide_eq_true (Nat.not_le.mp (fun z => q ((nI_leI (by omega) (by omega)).mpr z))), if_pos rfl] at gg
          iterate 4 refine em_next rfl ?_
          exact gg
theorem me_worstBut (hS : mo_S I lv P X) {n : Nat} {g : Int32} {p : Nat → Bool} (hp : ∀ b, b < 9 → (p b = false ↔ nI b = g)) (hv : ∀ b, b < P.1 → I 321 b = nI (em_lf P X n b)) (h : Q (some (.int (em_on1 (em_ai p (em_lf P X n) P.1)))) (em_SH, I, J, em_RT lw)) : em_call (d + 1) 256 [.ref 284, .int g] (em_SH, I, J, em_RT lw) Q := by
  iterate 4 refine em_next rfl ?_
  exact me_worstBut_l (k := 0) (m := P.1) hS hp hv (by omega) h
theorem em_all_some {v : Nat → Nat} {n : Nat} (h : 0 < n) : ∃ b, em_ai (fun _ => true) v n = some b ∧ b < n := by
  cases n with
  | zero => omega
  | succ n =>
    cases e : em_ai (fun _ => true) v (n + 1) with
    | some b => exact ⟨b, rfl, em_ai_lt e⟩
    | none =>
      rw [em_ai] at e
      split at e
      · cases e
      · split at e <;> cases e
theorem mq_worst (hS : mo_S I lv P X) {n w : Int32} (h : ∀ I' : Nat → Nat → Int32, em_fQ I I' → Q (some (.int (sp_worst P X n w))) (em_SH, I', J, em_RT lw)) : em_call (d + 9) 258 [.ref 284, .int n, .int w] (em_SH, I, J, em_RT lw) Q := by
  have hn := hS.1.1.2.1
  unfold sp_worst at h
  iterate 1 refine em_next rfl ?_
  refine em_inv_call rfl (me_isShort ?_)
  iterate 1 refine em_next rfl ?_
  refine em_b_eq (fun g => ?_) (fun g => ?_)
  · rw [if_neg (fun q => g q.1)] at h
    iterate 1 refine em_next rfl ?_
    exact em_done rfl (h I em_fQ.rf)
  iterate 3 refine em_next rfl ?_
  refine em_inv_call rfl (me_inQ (a := 0) (b := 1) ?_)
  iterate 1 refine em_next rfl ?_
  refine em_b_ne (fun g2 => ?_) (fun g2 => ?_)
  · rw [if_pos ⟨g, g2⟩] at h
    obtain ⟨m, hm, rfl, em⟩ := em_nat (m := 24) (by decide) g.1 g.2
    rw [em] at h
    iterate 1 refine em_next rfl ?_
    refine em_inv_call rfl (me_many hS.1 ?_)
    iterate 1 refine em_next rfl ?_
    refine em_z_ne (fun q => ?_) (fun q => ?_)
    · have hn0 : 0 < P.1 := Nat.pos_of_ne_zero (fun e => q (by rw [e]; rfl))
      iterate 2 refine em_next rfl ?_
      refine em_inv_call rfl (me_fillsLeft hS (by omega) (fun I1 a1 a2 => ?_))
      have gg := h I1 a1
      obtain ⟨b, eb, hb⟩ := em_all_some (v := em_lf P X m) hn0
      rw [eb] at gg
      iterate 2 refine em_next rfl ?_
      have hpp : ∀ b, b < 9 → ((fun _ : Nat => true) b = false ↔ nI b = -1) := by decide +kernel
      refine em_z_ne (fun z => ?_) (fun z => ?_)
      · rw [if_neg z] at gg
        iterate 4 refine em_next rfl ?_
        refine em_inv_call rfl (me_worstBut (n := m) (g := -1) (p := fun _ => true) (hS.keepQ a1) hpp a2 ?_)
        rw [eb]
        refine em_ialk (i := nI b) (k := b) rfl rfl (em_in_n (by omega) (by decide)) (nI_clamp (by omega)) ?_
        rw [a2 b hb]
        exact em_done rfl gg
      · rw [if_pos z] at gg
        iterate 2 refine em_next rfl ?_
        refine em_inv_call rfl (me_worstBut (n := m) (g := -1) (p := fun _ => true) (hS.keepQ a1) hpp a2 ?_)
        rw [eb]
        iterate 1 refine em_next rfl ?_
        exact em_done rfl gg
    · have hn0 : P.1 = 0 := (nI_eq (by omega) (by decide)).mp q
      have gg := h I em_fQ.rf
      rw [hn0] at gg
      have gg2 : Q (some (.int (-2))) (em_SH, I, J, em_RT lw) := by
        by_cases z : w = 0
        · rw [if_pos z] at gg; exact gg
        · rw [if_neg z] at gg; exact gg
      iterate 1 refine em_next rfl ?_
      exact em_done rfl gg2
  · rw [if_neg (fun q => g2 q.2)] at h
    iterate 1 refine em_next rfl ?_
    exact em_done rfl (h I em_fQ.rf)
theorem em_sv_le (P : em_Pl) (X : em_Nt) (n g : Nat) : em_sv P X n g ≤ 9 := by
  unfold em_sv
  split
  · exact em_pc_le _
  · exact em_pc_le _
def em_x1 : Option Nat → Int32
  | none => 0
  | some k => nI k
def em_x2 (v : Nat → Nat) : Option Nat → Int32
  | none => -1
  | some k => nI (v k)
theorem me_sentry_l (hS : mo_S I lv P X) {w : Int32} {n k m : Nat} {o o2 : Option Value} (hnn : n < 25) (hv : ∀ b, b < P.1 → I 321 b = nI (em_lf P X n b)) (hk : k + m = P.1) (h : ∀ I' : Nat → Nat → Int32, em_fQ I I' → Q (some (.int (if w = 0 then em_x1 (em_xi (em_sv P X n) P.1) else em_x2 (em_sv P X n) (em_xi (em_sv P X n) P.1)))) (em_SH, I', J, em_RT lw)) : em_wp em_sc0 (d + 8) 257 41 [some (.ref 284), some (.int (nI n)), some (.int (w)), some (.int (em_x1 (em_xi (em_sv P X n) k))), some (.int (em_x2 (em_sv P X n) (em_xi (em_sv P X n) k))), some (.int (nI k)), o, o2] [] (em_SH, I, J, em_RT lw) Q := by
  have hn := hS.1.1.2.1
  have hr := hS.2.1.1.1
  have hp9 := em_pow9 hn
  induction m generalizing k I o o2 with
  | zero =>
    have e : k = P.1 := by omega
    subst e
    iterate 2 refine em_next rfl ?_
    refine em_inv_call rfl (me_many hS.1 ?_)
    iterate 1 refine em_next rfl ?_
    refine em_c_ge (fun _ => ?_) (fun h1 => absurd (nI_le (Nat.le_refl _) (by omega)) h1)
    iterate 2 refine em_next rfl ?_
    have g := h I em_fQ.rf
    refine em_z_ne (fun z => ?_) (fun z => ?_)
    · rw [if_neg z] at g
      iterate 1 refine em_next rfl ?_
      exact em_done rfl g
    · rw [if_pos z] at g
      iterate 2 refine em_next rfl ?_
      exact em_done rfl g
  | succ m ih =>
    iterate 2 refine em_next rfl ?_
    refine em_inv_call rfl (me_many hS.1 ?_)
    iterate 1 refine em_next rfl ?_
    refine em_c_ge (fun h1 => absurd h1 (nI_ge (by omega) (by omega))) (fun _ => ?_)
    iterate 2 refine em_next rfl ?_
    have hpp : ∀ b, b < 9 → ((fun b => decide (b ≠ k)) b = false ↔ nI b = nI k) := fun b hb => by
      rw [nI_eq (by omega) (by omega)]
      simp
    refine em_inv_call rfl (me_worstBut (n := n) (g := nI k) (p := fun b => decide (b ≠ k)) hS hpp hv ?_)
    iterate 3 refine em_next rfl ?_
    have esv : ∀ x, em_ai (fun b => decide (b ≠ k)) (em_lf P X n) P.1 = x → em_sv P X n k = (match x with
      | none => em_pc (em_R P X n X.1)
      | some b => em_lf P X n b) := fun x e => by
      unfold em_sv
      rw [e]
      cases x <;> rfl
    have nxt : ∀ (I1 : Nat → Nat → Int32) (o : Option Value), em_fQ I I1 → (∀ b, b < P.1 → I1 321 b = nI (em_lf P X n b)) → ∀ v : Nat, v = em_sv P X n k → em_wp em_sc0 (d + 8) 257 85 [some (.ref 284), some (.int (nI n)), some (.int (w)), some (.int (em_x1 (em_xi (em_sv P X n) k))), some (.int (em_x2 (em_sv P X n) (em_xi (em_sv P X n) k))), some (.int (nI k)), some (.int (em_on1 (em_ai (fun b => decide (b ≠ k)) (em_lf P X n) P.1))), o] [.int (nI v)] (em_SH, I1, J, em_RT lw) Q := by
      intro I1 o f1 hv1 v ev
      subst ev
      iterate 4 refine em_next rfl ?_
      have g := ih (k := k + 1) (I := I1) (o := some (.int (em_on1 (em_ai (fun b => decide (b ≠ k)) (em_lf P X n) P.1)))) (o2 := some (.int (nI (em_sv P X n k)))) (hS.keepQ f1) hv1 (by omega) (fun I' f => h I' (f1.tr f))
      rw [em_xi, nI_succ] at g
      have m1 := em_sv_le P X n k
      cases e : em_xi (em_sv P X n) k with
      | none =>
        rw [e] at g
        refine em_c_gt (fun _ => ?_) (fun q => absurd (Int32.lt_of_lt_of_le (show (-1 : Int32) < 0 by decide) (nI_pos' (by omega))) q)
        iterate 6 refine em_next rfl ?_
        exact g
      | some b =>
        rw [e] at g
        dsimp only at g
        have m2 := em_sv_le P X n b
        refine em_c_gt (fun q => ?_) (fun q => ?_)
        · rw [if_pos ((nI_ltI (by omega) (by omega)).mp q)] at g
          iterate 6 refine em_next rfl ?_
          exact g
        · rw [if_neg (fun z => q ((nI_ltI (by omega) (by omega)).mpr z))] at g
          iterate 3 refine em_next rfl ?_
          exact g
    cases e : em_ai (fun b => decide (b ≠ k)) (em_lf P X n) P.1 with
    | none =>
      refine em_z_ge (fun q => absurd q (by decide)) (fun _ => ?_)
      iterate 2 refine em_next rfl ?_
      refine em_inv_call rfl (me_now hS ?_)
      iterate 1 refine em_next rfl ?_
      refine em_inv_call rfl (me_R hS hr (by omega) (fun I1 a1 => ?_))
      have hlt : em_R P X n X.1 < 2 ^ P.1 := em_R_lt hr
      refine em_inv_call rfl (me_bits (by omega) ?_)
      iterate 1 refine em_next rfl ?_
      have g := nxt I1 o2 a1.Q (fun b hb => by rw [a1 _ _ (by decide) (fun q => absurd q.1 (by decide))]; exact hv b hb) _ (esv _ e).symm
      rw [e] at g
      exact g
    | some b =>
      have hb : b < P.1 := em_ai_lt e
      refine em_z_ge (fun _ => ?_) (fun q => absurd (nI_pos' (by omega)) q)
      iterate 3 refine em_next rfl ?_
      refine em_ialk (i := nI b) (k := b) rfl rfl (em_in_n (by omega) (by decide)) (nI_clamp (by omega)) ?_
      rw [hv b hb]
      have g := nxt I o2 em_fQ.rf hv _ (esv _ e).symm
      rw [e] at g
      exact g
theorem em_xi_some {v : Nat → Nat} {n : Nat} (h : 0 < n) : ∃ b, em_xi v n = some b ∧ b < n := by
  cases n with
  | zero => omega
  | succ n =>
    cases e : em_xi v (n + 1) with
    | some b => exact ⟨b, rfl, em_xi_lt e⟩
    | none =>
      rw [em_xi] at e
      split at e
      · cases e
      · split at e <;> cases e
theorem mq_sentry (hS : mo_S I lv P X) {n w : Int32} (h : ∀ I' : Nat → Nat → Int32, em_fQ I I' → Q (some (.int (sp_sentry P X n w))) (em_SH, I', J, em_RT lw)) : em_call (d + 9) 257 [.ref 284, .int n, .int w] (em_SH, I, J, em_RT lw) Q := by
  have hn := hS.1.1.2.1
  unfold sp_sentry at h
  iterate 1 refine em_next rfl ?_
  refine em_inv_call rfl (me_isShort ?_)
  iterate 1 refine em_next rfl ?_
  refine em_b_eq (fun g => ?_) (fun g => ?_)
  · rw [if_neg (fun q => g q.1)] at h
    iterate 1 refine em_next rfl ?_
    exact em_done rfl (h I em_fQ.rf)
  iterate 3 refine em_next rfl ?_
  refine em_inv_call rfl (me_inQ (a := 0) (b := 1) ?_)
  iterate 1 refine em_next rfl ?_
  refine em_b_ne (fun g2 => ?_) (fun g2 => ?_)
  · rw [if_pos ⟨g, g2⟩] at h
    obtain ⟨m, hm, rfl, em⟩ := em_nat (m := 24) (by decide) g.1 g.2
    rw [em] at h
    iterate 1 refine em_next rfl ?_
    refine em_inv_call rfl (me_many hS.1 ?_)
    iterate 1 refine em_next rfl ?_
    refine em_z_ne (fun q => ?_) (fun q => ?_)
    · have hn0 : 0 < P.1 := Nat.pos_of_ne_zero (fun e => q (by rw [e]; rfl))
      iterate 2 refine em_next rfl ?_
      refine em_inv_call rfl (me_fillsLeft hS (by omega) (fun I1 a1 a2 => ?_))
      obtain ⟨b, eb, hb⟩ := em_xi_some (v := em_sv P X m) hn0
      iterate 6 refine em_next rfl ?_
      refine me_sentry_l (d := d + 1) (k := 0) (m := P.1) (n := m) (hS.keepQ a1) (by omega) a2 (by omega) (fun I2 b1 => ?_)
      have gg := h I2 (a1.tr b1)
      rw [eb] at gg ⊢
      exact gg
    · have hn0 : P.1 = 0 := (nI_eq (by omega) (by decide)).mp q
      have gg := h I em_fQ.rf
      rw [hn0] at gg
      have gg2 : Q (some (.int (-2))) (em_SH, I, J, em_RT lw) := by
        by_cases z : w = 0
        · rw [if_pos z] at gg; exact gg
        · rw [if_neg z] at gg; exact gg
      iterate 1 refine em_next rfl ?_
      exact em_done rfl gg2
  · rw [if_neg (fun q => g2 q.2)] at h
    iterate 1 refine em_next rfl ?_
    exact em_done rfl (h I em_fQ.rf)
theorem me_parting_l (hS : mo_S I lv P X) {w : Int32} {k m : Nat} (hk : k + m + 1 = P.1) (h : Q (some (.int (if w = 0 then nI (em_pg X.2.2 (P.1 - 1)) else X.2.2 (em_pg X.2.2 (P.1 - 1))))) (em_SH, I, J, em_RT lw)) : em_wp em_sc0 (d + 1) 259 24 [some (.ref 284), some (.int (w)), some (.int (nI (em_pg X.2.2 k))), some (.int (nI (k + 1)))] [] (em_SH, I, J, em_RT lw) Q := by
  have hn := hS.1.1.2.1
  have e27 : ∀ b, (27 : Int32) + nI b = nI (27 + b) := fun b => (em_nadd 27 b).symm
  induction m generalizing k with
  | zero =>
    have e : k = P.1 - 1 := by omega
    have ek : k + 1 = P.1 := by omega
    have hg := em_pg_le X.2.2 k
    rw [ek]
    iterate 2 refine em_next rfl ?_
    refine em_inv_call rfl (me_many hS.1 ?_)
    iterate 1 refine em_next rfl ?_
    refine em_c_ge (fun _ => ?_) (fun h1 => absurd (nI_le (Nat.le_refl _) (by omega)) h1)
    rw [← e] at h
    iterate 2 refine em_next rfl ?_
    refine em_z_ne (fun z => ?_) (fun z => ?_)
    · rw [if_neg z] at h
      iterate 5 refine em_next rfl ?_
      refine em_ialk (i := 27 + nI (em_pg X.2.2 k)) (k := 27 + em_pg X.2.2 k) rfl rfl (by rw [e27]; exact em_in_n (by omega) (by decide)) (by rw [e27]; exact nI_clamp (by omega)) ?_
      rw [(hS.2.1.2 _ (by omega)).2.2]
      exact em_done rfl h
    · rw [if_pos z] at h
      iterate 2 refine em_next rfl ?_
      exact em_done rfl h
  | succ m ih =>
    have hg := em_pg_le X.2.2 k
    iterate 2 refine em_next rfl ?_
    refine em_inv_call rfl (me_many hS.1 ?_)
    iterate 1 refine em_next rfl ?_
    refine em_c_ge (fun h1 => absurd h1 (nI_ge (by omega) (by omega))) (fun _ => ?_)
    iterate 5 refine em_next rfl ?_
    refine em_ialk (i := 27 + nI (k + 1)) (k := 27 + (k + 1)) rfl rfl (by rw [e27]; exact em_in_n (by omega) (by decide)) (by rw [e27]; exact nI_clamp (by omega)) ?_
    rw [(hS.2.1.2 _ (by omega)).2.2]
    iterate 5 refine em_next rfl ?_
    refine em_ialk (i := 27 + nI (em_pg X.2.2 k)) (k := 27 + em_pg X.2.2 k) rfl rfl (by rw [e27]; exact em_in_n (by omega) (by decide)) (by rw [e27]; exact nI_clamp (by omega)) ?_
    rw [(hS.2.1.2 _ (by omega)).2.2]
    iterate 1 refine em_next rfl ?_
    have g := ih (k := k + 1) (by omega)
    rw [em_pg, nI_succ (k + 1)] at g
    refine em_c_le (fun q => ?_) (fun q => ?_)
    · rw [if_neg (Int32.not_lt.mpr q)] at g
      iterate 2 refine em_next rfl ?_
      exact g
    · rw [if_pos (Int32.not_le.mp q)] at g
      iterate 4 refine em_next rfl ?_
      exact g
theorem mq_parting (hS : mo_S I lv P X) {w : Int32} (h : Q (some (.int (sp_parting P X w))) (em_SH, I, J, em_RT lw)) : em_call (d + 2) 259 [.ref 284, .int w] (em_SH, I, J, em_RT lw) Q := by
  have hn := hS.1.1.2.1
  unfold sp_parting at h
  iterate 3 refine em_next rfl ?_
  refine em_inv_call rfl (me_inQ (a := 0) (b := 1) ?_)
  iterate 1 refine em_next rfl ?_
  refine em_b_eq (fun g => ?_) (fun g => ?_)
  · rw [if_neg (fun q => g q.1)] at h
    iterate 1 refine em_next rfl ?_
    exact em_done rfl h
  iterate 1 refine em_next rfl ?_
  refine em_inv_call rfl (me_many hS.1 ?_)
  iterate 1 refine em_next rfl ?_
  refine em_z_ne (fun q => ?_) (fun q => ?_)
  · have hn0 : ¬ P.1 = 0 := fun e => q (by rw [e]; rfl)
    rw [if_pos ⟨g, hn0⟩] at h
    iterate 4 refine em_next rfl ?_
    exact me_parting_l (d := d + 1) (k := 0) (m := P.1 - 1) hS (by omega) h
  · have hn0 : P.1 = 0 := (nI_eq (by omega) (by decide)).mp q
    rw [if_neg (fun z => z.2 hn0)] at h
    iterate 1 refine em_next rfl ?_
    exact em_done rfl h
end MQ4
