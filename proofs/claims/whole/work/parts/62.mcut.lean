/-! the reference cuts a text into tokens, two -/
section MCUT
variable {d lw : Nat} {b : Nat → Nat} {L : Nat} {I I0 : Nat → Nat → Int32} {J J0 : Nat → Nat → Int64} {Q : Option Value → em_M → Prop}
theorem me_cutL (hX : mt_X b L I) {p k m : Nat} {x2 : Int32} {o6 o7 : Option Value} (hk : p + k + m = L) (h0 : ∀ j, j < k → tk_l (b (p + j)) = true) (h : ∀ k, p + k ≤ L → p + k = tk_le b L p → (∀ j, j < k → tk_l (b (p + j)) = true) → em_wp em_sc0 (d + 2) 177 124 [some (.ref 284), some (.int (nI p)), some (.int (x2)), some (.int (nI k)), some (.long (lN (tk_en 27 b p (min k 8)))), none, o6, o7] [] (em_SH, I, J, em_RT lw) Q) : em_wp em_sc0 (d + 2) 177 85 [some (.ref 284), some (.int (nI p)), some (.int (x2)), some (.int (nI k)), some (.long (lN (tk_en 27 b p (min k 8)))), none, o6, o7] [] (em_SH, I, J, em_RT lw) Q := by
  have hL := hX.1
  induction m generalizing k with
  | zero =>
    iterate 4 refine em_next rfl ?_
    refine em_inv_call rfl (me_byteAt hX (em_nadd p k).symm (by omega) ?_)
    rw [if_neg (by omega)]
    refine em_inv_call rfl (me_isLetter (by decide) ?_)
    iterate 1 refine em_next rfl ?_
    refine em_z_eq (fun _ => ?_) (fun z => absurd rfl z)
    exact h k (by omega) (tk_end_eq (by omega) (fun j j1 j2 => ⟨by omega, by have := h0 (j - p) (by omega); rw [show p + (j - p) = j by omega] at this; exact this⟩) (fun z => by omega)).symm h0
  | succ m ih =>
    have hb := hX.2.2 (p + k) (by omega)
    iterate 4 refine em_next rfl ?_
    refine em_inv_call rfl (me_byteAt hX (em_nadd p k).symm (by omega) ?_)
    rw [if_pos (by omega)]
    refine em_inv_call rfl (me_isLetter hb.2 ?_)
    iterate 1 refine em_next rfl ?_
    cases hc : tk_l (b (p + k)) with
    | false =>
      refine em_z_eq (fun _ => ?_) (fun z => absurd rfl z)
      exact h k (by omega) (tk_end_eq (by omega) (fun j j1 j2 => ⟨by omega, by have := h0 (j - p) (by omega); rw [show p + (j - p) = j by omega] at this; exact this⟩) (fun z => by rw [hc] at z; exact absurd z.2 (by decide))).symm h0
    | true =>
      refine em_z_eq (fun z => absurd z (by decide)) (fun _ => ?_)
      have g := ih (k := k + 1) (by omega) (fun j hj => by
        by_cases e : j = k
        · subst e; exact hc
        · exact h0 j (by omega))
      rw [nI_succ] at g
      iterate 3 refine em_next rfl ?_
      refine em_c_geE rfl (y' := nI 8) rfl (fun z => ?_) (fun z => ?_)
      · have z2 := (nI_leI (by decide) (by omega)).mp z
        rw [show min (k + 1) 8 = 8 by omega] at g
        rw [show min k 8 = 8 by omega]
        iterate 2 refine em_next rfl ?_
        exact g
      · have z2 := Nat.not_le.mp (fun e => z ((nI_leI (by decide) (by omega)).mpr e))
        rw [show min (k + 1) 8 = k + 1 by omega, tk_en] at g
        rw [show min k 8 = k by omega]
        iterate 5 refine em_next rfl ?_
        refine em_inv_call rfl (me_byteAt hX (em_nadd p k).symm (by omega) ?_)
        rw [if_pos (by omega)]
        refine em_inv_call rfl (me_appends hc ?_)
        iterate 3 refine em_next rfl ?_
        exact g
theorem me_cutD (hX : mt_X b L I) {p k m : Nat} {x2 : Int32} {o5 o6 o7 : Option Value} (hk : p + k + m = L) (h0 : ∀ j, j < k → tk_d (b (p + j)) = true) (h : ∀ k, p + k ≤ L → p + k = tk_de b L p → (∀ j, j < k → tk_d (b (p + j)) = true) → em_wp em_sc0 (d + 2) 177 250 [some (.ref 284), some (.int (nI p)), some (.int (x2)), some (.int (nI k)), some (.int (nI (tk_nv b p (min k 4)))), o5, o6, o7] [] (em_SH, I, J, em_RT lw) Q) : em_wp em_sc0 (d + 2) 177 208 [some (.ref 284), some (.int (nI p)), some (.int (x2)), some (.int (nI k)), some (.int (nI (tk_nv b p (min k 4)))), o5, o6, o7] [] (em_SH, I, J, em_RT lw) Q := by
  have hL := hX.1
  induction m generalizing k with
  | zero =>
    iterate 4 refine em_next rfl ?_
    refine em_inv_call rfl (me_byteAt hX (em_nadd p k).symm (by omega) ?_)
    rw [if_neg (by omega)]
    refine em_inv_call rfl (me_isDigit (by decide) ?_)
    iterate 1 refine em_next rfl ?_
    refine em_z_eq (fun _ => ?_) (fun z => absurd rfl z)
    exact h k (by omega) (tk_end_eq (by omega) (fun j j1 j2 => ⟨by omega, by have := h0 (j - p) (by omega); rw [show p + (j - p) = j by omega] at this; exact this⟩) (fun z => by omega)).symm h0
  | succ m ih =>
    have hb := hX.2.2 (p + k) (by omega)
    iterate 4 refine em_next rfl ?_
    refine em_inv_call rfl (me_byteAt hX (em_nadd p k).symm (by omega) ?_)
    rw [if_pos (by omega)]
    refine em_inv_call rfl (me_isDigit hb.2 ?_)
    iterate 1 refine em_next rfl ?_
    cases hc : tk_d (b (p + k)) with
    | false =>
      refine em_z_eq (fun _ => ?_) (fun z => absurd rfl z)
      exact h k (by omega) (tk_end_eq (by omega) (fun j j1 j2 => ⟨by omega, by have := h0 (j - p) (by omega); rw [show p + (j - p) = j by omega] at this; exact this⟩) (fun z => by rw [hc] at z; exact absurd z.2 (by decide))).symm h0
    | true =>
      refine em_z_eq (fun z => absurd z (by decide)) (fun _ => ?_)
      have hc2 : 48 ≤ b (p + k) ∧ b (p + k) ≤ 57 := of_decide_eq_true hc
      have g := ih (k := k + 1) (by omega) (fun j hj => by
        by_cases e : j = k
        · subst e; exact hc
        · exact h0 j (by omega))
      rw [nI_succ] at g
      iterate 3 refine em_next rfl ?_
      refine em_c_geE rfl (y' := nI 4) rfl (fun z => ?_) (fun z => ?_)
      · have z2 := (nI_leI (by decide) (by omega)).mp z
        rw [show min (k + 1) 4 = 4 by omega] at g
        rw [show min k 4 = 4 by omega]
        iterate 2 refine em_next rfl ?_
        exact g
      · have z2 := Nat.not_le.mp (fun e => z ((nI_leI (by decide) (by omega)).mpr e))
        rw [show min (k + 1) 4 = k + 1 by omega, tk_nv] at g
        rw [show min k 4 = k by omega]
        iterate 7 refine em_next rfl ?_
        refine em_inv_call rfl (me_byteAt hX (em_nadd p k).symm (by omega) ?_)
        rw [if_pos (by omega)]
        iterate 3 refine em_next rfl ?_
        refine em_tp (y := nI (10 * tk_nv b p k + (b (p + k) - 48))) ?_ ?_
        · show nI 10 * nI (tk_nv b p k) + nI (b (p + k)) - nI 48 = _
          have e := em_nadd (b (p + k) - 48) 48
          rw [Nat.sub_add_cancel hc2.1] at e
          rw [← em_nmul, e, ← Int32.add_assoc, Int32.add_sub_cancel, em_nadd]
        iterate 3 refine em_next rfl ?_
        exact g
def tk_kd (m k : Nat) : Nat := if tk_wi m < k then 20 + tk_wi m else 1
theorem me_cutK (hK : mk_J J) {N p n k m : Nat} {o2 : Option Value} (hN : tk_vd 8 N) (hk : k + m = 21) (h : ∀ o7 : Option Value, em_wp em_sc0 (d + 2) 177 179 [some (.ref 284), some (.int (nI p)), o2, some (.int (nI n)), some (.long (lN (tk_tr 8 N))), none, some (.int (nI (tk_kd N 21))), o7] [] (em_SH, I, J, em_RT lw) Q) : em_wp em_sc0 (d + 2) 177 146 [some (.ref 284), some (.int (nI p)), o2, some (.int (nI n)), some (.long (lN (tk_tr 8 N))), none, some (.int (nI (tk_kd N k))), some (.int (nI k))] [] (em_SH, I, J, em_RT lw) Q := by
  induction m generalizing k with
  | zero =>
    have e : k = 21 := by omega
    subst e
    iterate 3 refine em_next rfl ?_
    refine em_c_ge (fun _ => ?_) (fun z => absurd (by decide) z)
    exact h _
  | succ m ih =>
    have g := ih (k := k + 1) (by omega)
    have hv := tk_kw_vd k (by omega)
    have l1 := (tk_vd_lt hN).2
    have l2 := (tk_vd_lt hv).2
    rw [nI_succ] at g
    iterate 3 refine em_next rfl ?_
    refine em_c_ge (fun z => absurd z (nI_ge (b := 21) (by omega) (by decide))) (fun _ => ?_)
    iterate 3 refine em_next rfl ?_
    refine em_lalE (k := k) rfl rfl rfl (by omega) (by decide) ?_
    refine em_tl (hK k (by omega)) ?_
    iterate 3 refine em_next rfl ?_
    refine em_z_ne (fun z => ?_) (fun z => ?_)
    · have z2 : ¬ tk_wi N = k := fun e => z ((lg_cmp_eq _ _).mpr (by rw [(tk_wi_eq (by omega)).mpr e]))
      have e : tk_kd N (k + 1) = tk_kd N k := by
        unfold tk_kd
        by_cases q : tk_wi N < k
        · rw [if_pos q, if_pos (by omega)]
        · rw [if_neg q, if_neg (by omega)]
      rw [e] at g
      iterate 2 refine em_next rfl ?_
      exact g
    · have z1 := lN_inj (by omega) (by omega) ((lg_cmp_eq _ _).mp z)
      have z2 : tk_wi N = k := (tk_wi_eq (by omega)).mp (tk_tr_inj hv hN z1)
      have e : tk_kd N (k + 1) = 20 + k := by
        unfold tk_kd
        rw [if_pos (by omega), z2]
      rw [e] at g
      iterate 3 refine em_next rfl ?_
      refine em_tp (y := nI (20 + k)) (em_nadd 20 k).symm ?_
      iterate 3 refine em_next rfl ?_
      exact g
theorem mt_T.add {I' : Nat → Nat → Int32} {J' : Nat → Nat → Int64} {t : Nat} (h : mt_T b L I J t) (hk : ∀ j, j ≠ t → I' 287 j = I 287 j ∧ I' 288 j = I 288 j ∧ I' 289 j = I 289 j ∧ J' 290 j = J 290 j) (h1 : I' 287 t = nI (tk_K b L t)) (h2 : I' 288 t = nI (tk_P b L t)) (h3 : tk_K b L t = 2 → I' 289 t = nI (tk_V b L t)) (h4 : tk_K b L t = 1 → J' 290 t = lN (tk_tr 8 (tk_N b L t))) : mt_T b L I' J' (t + 1) := fun s hs => by
  by_cases e : s = t
  · subst e
    exact ⟨h1, h2, h3, h4⟩
  · have := hk s e
    rw [this.1, this.2.1, this.2.2.1, this.2.2.2]
    exact h s (by omega)
theorem tk_sg_no (c : Nat) : ¬ tk_sg c = 2 ∧ ¬ tk_sg c = 1 ∧ ¬ tk_sg c = 0 := by
  unfold tk_sg
  repeat' split
  all_goals decide
/-- what is cut -/
def mt_n (b : Nat → Nat) (L n : Nat) : Prop := n = 401 ∨ (1 ≤ n ∧ n ≤ 401 ∧ tk_K b L (n - 1) = 0)
theorem me_cut_l (hX : mt_X b L I) (hK : mk_J J) {t i m : Nat} {o2 o3 o4 o5 o6 o7 : Option Value} (hm : L ≤ i + m) (hiL : i ≤ L) (ht : t ≤ 401) (hT : mt_T b L I J t) (htk : I 284 10 = nI t) (h0 : tk_x b L t ≤ i) (h1 : ∀ j, tk_x b L t ≤ j → j < i → j < L ∧ tk_b (b j) = true) (h : ∀ (I' : Nat → Nat → Int32) (J' : Nat → Nat → Int64) (n : Nat), mt_f I I' J J' → mt_T b L I' J' n → mt_n b L n → Q none (em_SH, I', J', em_RT lw)) : em_wp em_sc0 (d + 2) 177 7 [some (.ref 284), some (.int (nI i)), o2, o3, o4, o5, o6, o7] [] (em_SH, I, J, em_RT lw) Q := by
  have hL := hX.1
  induction m generalizing i t I J o2 o3 o4 o5 o6 o7 with
  | zero =>
    have e : i = L := by omega
    subst e
    iterate 4 refine em_next rfl ?_
    refine em_c_gtE htk (y' := nI 400) rfl (fun z => ?_) (fun z => ?_)
    · have := (nI_ltI (by decide) (by omega)).mp z
      have e : t = 401 := by omega
      exact em_done rfl (h I J t mt_f.rf hT (Or.inl e))
    · have z2 : ¬ 400 < t := fun e => z ((nI_ltI (by decide) (by omega)).mpr e)
      have hp : tk_P b i t = i := tk_end_eq h0 h1 (fun q => by omega)
      have hkk : tk_K b i t = 0 := by unfold tk_K tk_Kp; rw [hp, if_pos (Nat.le_refl _)]
      iterate 2 refine em_next rfl ?_
      refine em_inv_call rfl (me_byteAt hX rfl (by omega) ?_)
      iterate 5 refine em_next rfl ?_
      refine em_c_ltE rfl hX.2.1 (fun z => absurd z (nI_nlt (Nat.le_refl _) (by omega))) (fun _ => ?_)
      iterate 6 refine em_next rfl ?_
      refine em_inv_call rfl (me_token htk (by omega) (fun I' J' a1 a2 a3 a4 a5 a6 a7 => ?_))
      refine em_done rfl (h I' J' (t + 1) a1 (hT.add a7 (by rw [a3, hkk]; rfl) (by rw [a4, hp]; exact hX.2.1) (fun e => by rw [hkk] at e; exact absurd e (by decide)) (fun e => by rw [hkk] at e; exact absurd e (by decide))) (Or.inr ⟨by omega, by omega, hkk⟩))
  | succ m ih =>
    iterate 4 refine em_next rfl ?_
    refine em_c_gtE htk (y' := nI 400) rfl (fun z => ?_) (fun z => ?_)
    · have := (nI_ltI (by decide) (by omega)).mp z
      have e : t = 401 := by omega
      exact em_done rfl (h I J t mt_f.rf hT (Or.inl e))
    have z2 : ¬ 400 < t := fun e => z ((nI_ltI (by decide) (by omega)).mpr e)
    iterate 2 refine em_next rfl ?_
    refine em_inv_call rfl (me_byteAt hX rfl (by omega) ?_)
    iterate 5 refine em_next rfl ?_
    refine em_c_ltE rfl hX.2.1 (fun z => ?_) (fun z => ?_)
    · have hi := (nI_ltI (by omega) (by omega)).mp z
      rw [if_pos hi]
      have hb := (hX.2.2 i hi).2
      cases hbl : tk_b (b i) with
      | true =>
        have hbl2 : b i = 9 ∨ b i = 10 ∨ b i = 13 ∨ b i = 32 := of_decide_eq_true hbl
        have g := fun o2 => ih (i := i + 1) (t := t) (I := I) (J := J) (o2 := o2) (o3 := o3) (o4 := o4) (o5 := o5) (o6 := o6) (o7 := o7) hX hK (by omega) (by omega) ht hT htk (by omega) (fun j j1 j2 => by
          by_cases e : j = i
          · subst e; exact ⟨hi, hbl⟩
          · exact h1 j j1 (by omega)) h
        have fin : em_wp em_sc0 (d + 2) 177 67 [some (.ref 284), some (.int (nI i)), some (.int (nI (b i))), o3, o4, o5, o6, o7] [] (em_SH, I, J, em_RT lw) Q := by
          have g2 := g (some (.int (nI (b i))))
          rw [nI_succ] at g2
          iterate 3 refine em_next rfl ?_
          exact g2
        iterate 3 refine em_next rfl ?_
        refine em_c_eqE rfl (y' := nI 9) rfl (fun _ => fin) (fun y1 => ?_)
        iterate 3 refine em_next rfl ?_
        refine em_c_eqE rfl (y' := nI 10) rfl (fun _ => fin) (fun y2 => ?_)
        iterate 3 refine em_next rfl ?_
        refine em_c_eqE rfl (y' := nI 13) rfl (fun _ => fin) (fun y3 => ?_)
        iterate 3 refine em_next rfl ?_
        refine em_c_neE rfl (y' := nI 32) rfl (fun y4 => ?_) (fun _ => fin)
        rcases hbl2 with e | e | e | e
        · exact absurd (by rw [e]) y1
        · exact absurd (by rw [e]) y2
        · exact absurd (by rw [e]) y3
        · exact absurd (by rw [e]) y4
      | false =>
        have hbl2 : ¬ (b i = 9 ∨ b i = 10 ∨ b i = 13 ∨ b i = 32) := of_decide_eq_false hbl
        have hp : tk_P b L t = i := tk_end_eq h0 h1 (fun q => by rw [hbl] at q; exact absurd q.2 (by decide))
        have ne : ∀ k, k < 256 → ¬ b i = k → ¬ nI (b i) = nI k := fun k hk e q => e ((nI_eq (by omega) (by omega)).mp q)
        have hxs : tk_x b L (t + 1) = tk_np b L i := by rw [← hp]; rfl
        iterate 3 refine em_next rfl ?_
        refine em_c_eqE rfl (y' := nI 9) rfl (fun y => absurd y (ne 9 (by decide) (fun e => hbl2 (by omega)))) (fun _ => ?_)
        iterate 3 refine em_next rfl ?_
        refine em_c_eqE rfl (y' := nI 10) rfl (fun y => absurd y (ne 10 (by decide) (fun e => hbl2 (by omega)))) (fun _ => ?_)
        iterate 3 refine em_next rfl ?_
        refine em_c_eqE rfl (y' := nI 13) rfl (fun y => absurd y (ne 13 (by decide) (fun e => hbl2 (by omega)))) (fun _ => ?_)
        iterate 3 refine em_next rfl ?_
        refine em_c_neE rfl (y' := nI 32) rfl (fun _ => ?_) (fun y => absurd y (ne 32 (by decide) (fun e => hbl2 (by omega))))
        iterate 1 refine em_next rfl ?_
        refine em_inv_call rfl (me_isLetter hb ?_)
        iterate 1 refine em_next rfl ?_
        cases hl : tk_l (b i) with
        | true =>
          refine em_z_eq (fun y => absurd y (by decide)) (fun _ => ?_)
          iterate 4 refine em_next rfl ?_
          refine me_cutL (p := i) (k := 0) (m := L - i) hX (by omega) (fun j hj => absurd hj (Nat.not_lt_zero _)) (fun k hkL hke hkl => ?_)
          have hk1 : 1 ≤ k := by
            rcases Nat.eq_zero_or_pos k with e | e
            · subst e
              have : tk_le b L i = i := by omega
              have h2 : tk_le b L i ≠ i := by
                intro q
                unfold tk_le tk_end at q
                obtain ⟨f, hf⟩ : ∃ f, L - i = f + 1 := ⟨L - i - 1, by omega⟩
                rw [hf, tk_e, if_pos ⟨hi, hl⟩] at q
                have := tk_e_ge (fun j => tk_l (b j)) L f (i + 1)
                omega
              exact absurd this h2
            · exact e
          have hnp : tk_np b L i = i + k := by
            unfold tk_np
            rw [if_neg (by omega), if_pos hl, hke]
          have hkp : tk_Kp b L i = if 8 < k then 3 else if tk_wi (tk_en 32 b i k) < 21 then 20 + tk_wi (tk_en 32 b i k) else 1 := by
            unfold tk_Kp
            rw [if_neg (by omega), if_pos hl, ← hke, show i + k - i = k by omega]
          have hNt : tk_N b L t = tk_en 32 b i k := by
            unfold tk_N
            rw [hp, ← hke, show i + k - i = k by omega]
          have cont : ∀ (kd : Nat) (o7 : Option Value), tk_K b L t = kd → ¬ kd = 2 → (kd = 1 → lN (tk_en 27 b i (min k 8)) = lN (tk_tr 8 (tk_N b L t))) → em_wp em_sc0 (d + 2) 177 179 [some (.ref 284), some (.int (nI i)), some (.int (nI (b i))), some (.int (nI k)), some (.long (lN (tk_en 27 b i (min k 8)))), none, some (.int (nI kd)), o7] [] (em_SH, I, J, em_RT lw) Q := fun kd o7 hkd n2 hnm => by
            iterate 5 refine em_next rfl ?_
            refine em_inv_call rfl (me_token htk (by omega) (fun I' J' a1 a2 a3 a4 a5 a6 a7 => ?_))
            have g := ih (i := i + k) (t := t + 1) (I := I') (J := J') (o2 := some (.int (nI (b i)))) (o3 := some (.int (nI k))) (o4 := some (.long (lN (tk_en 27 b i (min k 8))))) (o5 := none) (o6 := some (.int (nI kd))) (o7 := o7) (a1.X hX) (a1.K hK) (by omega) (by omega) (by omega) (hT.add a7 (by rw [a3, hkd]) (by rw [a4, hp]) (fun e => absurd (hkd.symm.trans e) n2) (fun e => by rw [a6]; exact hnm (hkd.symm.trans e))) a2 (by rw [hxs, hnp]; exact Nat.le_refl _) (fun j j1 j2 => by rw [hxs, hnp] at j1; omega) (fun I'' J'' n f => h I'' J'' n (a1.tr f))
            iterate 3 refine em_next rfl ?_
            refine em_tp (y := nI (i + k)) (em_nadd i k).symm ?_
            iterate 3 refine em_next rfl ?_
            exact g
          iterate 3 refine em_next rfl ?_
          refine em_c_leE rfl (y' := nI 8) rfl (fun y => ?_) (fun y => ?_)
          · have y2 := (nI_leI (by omega) (by decide)).mp y
            have h8 := tk_en8 y2 hkl
            rw [if_neg (by omega)] at hkp
            have hkd : tk_K b L t = tk_kd (tk_en 32 b i k) 21 := by unfold tk_K; rw [hp, hkp]; rfl
            have hnm : lN (tk_en 27 b i (min k 8)) = lN (tk_tr 8 (tk_en 32 b i k)) := by rw [h8.2, show min k 8 = k by omega]
            iterate 5 refine em_next rfl ?_
            refine em_c_gtE rfl (y' := nI 8) rfl (fun y => absurd ((nI_ltI (by decide) (by omega)).mp y) (by omega)) (fun _ => ?_)
            iterate 2 refine em_next rfl ?_
            have cont2 := cont (tk_kd (tk_en 32 b i k) 21)
            rw [hnm] at cont2 ⊢
            refine me_cutK (N := tk_en 32 b i k) (k := 0) (m := 21) hK h8.1 (by omega) (fun o7 => ?_)
            exact cont2 o7 hkd (by unfold tk_kd; split <;> omega) (fun _ => by rw [hNt])
          · have y2 := Nat.not_le.mp (fun e => y ((nI_leI (by omega) (by decide)).mpr e))
            rw [if_pos y2] at hkp
            iterate 6 refine em_next rfl ?_
            refine em_c_gtE rfl (y' := nI 8) rfl (fun _ => ?_) (fun y => absurd (nI_lt y2 (by omega)) y)
            exact cont 3 o7 (by unfold tk_K; rw [hp, hkp]) (by decide) (fun e => absurd e (by decide))
        | false =>
          refine em_z_eq (fun _ => ?_) (fun y => absurd rfl y)
          iterate 1 refine em_next rfl ?_
          refine em_inv_call rfl (me_isDigit hb ?_)
          iterate 1 refine em_next rfl ?_
          cases hd : tk_d (b i) with
          | true =>
            refine em_z_eq (fun y => absurd y (by decide)) (fun _ => ?_)
            iterate 4 refine em_next rfl ?_
            refine me_cutD (p := i) (k := 0) (m := L - i) hX (by omega) (fun j hj => absurd hj (Nat.not_lt_zero _)) (fun k hkL hke hkl => ?_)
            have hk1 : 1 ≤ k := by
              rcases Nat.eq_zero_or_pos k with e | e
              · subst e
                have : tk_de b L i = i := by omega
                have h2 : tk_de b L i ≠ i := by
                  intro q
                  unfold tk_de tk_end at q
                  obtain ⟨f, hf⟩ : ∃ f, L - i = f + 1 := ⟨L - i - 1, by omega⟩
                  rw [hf, tk_e, if_pos ⟨hi, hd⟩] at q
                  have := tk_e_ge (fun j => tk_d (b j)) L f (i + 1)
                  omega
                exact absurd this h2
              · exact e
            have hnp : tk_np b L i = i + k := by
              unfold tk_np
              rw [if_neg (by omega), if_neg (by rw [hl]; decide), if_pos hd, hke]
            have hkp : tk_Kp b L i = if 4 < k then 3 else 2 := by
              unfold tk_Kp
              rw [if_neg (by omega), if_neg (by rw [hl]; decide), if_pos hd, ← hke, show i + k - i = k by omega]
            have cont : ∀ (kd : Nat), tk_K b L t = kd → ¬ kd = 1 → (kd = 2 → nI (tk_nv b i (min k 4)) = nI (tk_V b L t)) → em_wp em_sc0 (d + 2) 177 261 [some (.ref 284), some (.int (nI i)), some (.int (nI (b i))), some (.int (nI k)), some (.int (nI (tk_nv b i (min k 4)))), o5, o6, o7] [.int (nI kd), .ref 284] (em_SH, I, J, em_RT lw) Q := fun kd hkd n1 hvl => by
              iterate 3 refine em_next rfl ?_
              refine em_inv_call rfl (me_token htk (by omega) (fun I' J' a1 a2 a3 a4 a5 a6 a7 => ?_))
              have g := ih (i := i + k) (t := t + 1) (I := I') (J := J') (o2 := some (.int (nI (b i)))) (o3 := some (.int (nI k))) (o4 := some (.int (nI (tk_nv b i (min k 4))))) (o5 := o5) (o6 := o6) (o7 := o7) (a1.X hX) (a1.K hK) (by omega) (by omega) (by omega) (hT.add a7 (by rw [a3, hkd]) (by rw [a4, hp]) (fun e => by rw [a5]; exact hvl (hkd.symm.trans e)) (fun e => absurd (hkd.symm.trans e) n1)) a2 (by rw [hxs, hnp]; exact Nat.le_refl _) (fun j j1 j2 => by rw [hxs, hnp] at j1; omega) (fun I'' J'' n f => h I'' J'' n (a1.tr f))
              iterate 3 refine em_next rfl ?_
              refine em_tp (y := nI (i + k)) (em_nadd i k).symm ?_
              iterate 3 refine em_next rfl ?_
              exact g
            iterate 4 refine em_next rfl ?_
            refine em_c_leE rfl (y' := nI 4) rfl (fun y => ?_) (fun y => ?_)
            · have y2 := (nI_leI (by omega) (by decide)).mp y
              rw [if_neg (by omega)] at hkp
              iterate 1 refine em_next rfl ?_
              exact cont 2 (by unfold tk_K; rw [hp, hkp]) (by decide) (fun _ => by
                unfold tk_V
                rw [hp, ← hke, show i + k - i = k by omega, show min k 4 = k by omega])
            · have y2 := Nat.not_le.mp (fun e => y ((nI_leI (by omega) (by decide)).mpr e))
              rw [if_pos y2] at hkp
              iterate 2 refine em_next rfl ?_
              exact cont 3 (by unfold tk_K; rw [hp, hkp]) (by decide) (fun e => absurd e (by decide))
          | false =>
            refine em_z_eq (fun _ => ?_) (fun y => absurd rfl y)
            have hnp : tk_np b L i = i + 1 := by
              unfold tk_np
              rw [if_neg (by omega), if_neg (by rw [hl]; decide), if_neg (by rw [hd]; decide)]
            have hkd : tk_K b L t = tk_sg (b i) := by
              unfold tk_K tk_Kp
              rw [hp, if_neg (by omega), if_neg (by rw [hl]; decide), if_neg (by rw [hd]; decide)]
            have hno := tk_sg_no (b i)
            iterate 8 refine em_next rfl ?_
            refine em_inv_call rfl (me_byteAt hX (nI_succ i).symm (by omega) ?_)
            refine em_inv_call rfl (me_sign hX hb htk (by omega) (fun I' J' a1 a2 a3 a4 a7 => ?_))
            have g := ih (i := i + 1) (t := t + 1) (I := I') (J := J') (o2 := some (.int (nI (b i)))) (o3 := o3) (o4 := o4) (o5 := o5) (o6 := o6) (o7 := o7) (a1.X hX) (a1.K hK) (by omega) (by omega) (by omega) (hT.add a7 (by rw [a3, hkd]) (by rw [a4, hp]) (fun e => absurd (hkd.symm.trans e) hno.1) (fun e => absurd (hkd.symm.trans e) hno.2.1)) a2 (by rw [hxs, hnp]; exact Nat.le_refl _) (fun j j1 j2 => by rw [hxs, hnp] at j1; omega) (fun I'' J'' n f => h I'' J'' n (a1.tr f))
            rw [nI_succ] at g
            iterate 3 refine em_next rfl ?_
            exact g
    · have hi : ¬ i < L := fun e => z (nI_lt e (by omega))
      have e : i = L := by omega
      subst e
      have hp : tk_P b i t = i := tk_end_eq h0 h1 (fun q => by omega)
      have hkk : tk_K b i t = 0 := by unfold tk_K tk_Kp; rw [hp, if_pos (Nat.le_refl _)]
      iterate 6 refine em_next rfl ?_
      refine em_inv_call rfl (me_token htk (by omega) (fun I' J' a1 a2 a3 a4 a5 a6 a7 => ?_))
      refine em_done rfl (h I' J' (t + 1) a1 (hT.add a7 (by rw [a3, hkk]; rfl) (by rw [a4, hp]; exact hX.2.1) (fun e => by rw [hkk] at e; exact absurd e (by decide)) (fun e => by rw [hkk] at e; exact absurd e (by decide))) (Or.inr ⟨by omega, by omega, hkk⟩))
theorem me_cut (hX : mt_X b L I) (hK : mk_J J) (h : ∀ (I' : Nat → Nat → Int32) (J' : Nat → Nat → Int64) (n : Nat), mt_f I I' J J' → mt_T b L I' J' n → mt_n b L n → Q none (em_SH, I', J', em_RT lw)) : em_call (d + 2) 177 [.ref 284] (em_SH, I, J, em_RT lw) Q := by
  iterate 5 refine em_next rfl ?_
  show em_wp em_sc0 (d + 2) 177 _ _ _ (em_SH, em_u I 284 10 0, J, em_RT lw) Q
  have f0 : mt_f I (em_u I 284 10 0) J J := ⟨fun a ha => em_u_row (fun q => ha (by rw [q]; decide)), fun j hj => em_u_ne hj, fun _ _ => rfl⟩
  exact me_cut_l (i := 0) (t := 0) (m := L) (f0.X hX) hK (by omega) (by omega) (by omega) (fun t ht => absurd ht (Nat.not_lt_zero _)) em_u_self (Nat.le_refl _) (fun j j1 j2 => by omega) (fun I' J' n f => h I' J' n (f0.tr f))
end MCUT
