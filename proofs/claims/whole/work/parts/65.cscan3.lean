/-! the class finds its tokens, three -/
section CSCAN3
variable {d lw : Nat} {b : Nat → Nat} {L : Nat} {I I0 I' I'' : Nat → Nat → Int32} {J J0 J' J'' : Nat → Nat → Int64} {M : em_M} {Q : Option Value → em_M → Prop}
/-- a token found -/
def ct_1 (b : Nat → Nat) (L t : Nat) (I I' : Nat → Nat → Int32) (J J' : Nat → Nat → Int64) : Prop := ct_f I I' J J' ∧ I' 2 6 = nI (tk_x b L (t + 1)) ∧ tk_x b L (t + 1) ≤ L ∧ (I' 4 t = nI (ck (tk_K b L t)) ∧ I' 5 t = nI (tk_P b L t) ∧ (tk_K b L t = 2 → J' 6 t = lN (tk_V b L t)) ∧ (tk_K b L t = 1 → J' 6 t = lN (tk_N b L t))) ∧ ∀ j, j ≠ t → I' 4 j = I 4 j ∧ I' 5 j = I 5 j ∧ J' 6 j = J 6 j
theorem tk_pos {q : Nat → Bool} {i k : Nat} (hi : i < L) (hq : q i = true) (hk : i + k = tk_end q L i) : 1 ≤ k := by
  unfold tk_end at hk
  obtain ⟨f, hf⟩ : ∃ f, L - i = f + 1 := ⟨L - i - 1, by omega⟩
  rw [hf, tk_e, if_pos ⟨hi, hq⟩] at hk
  have := tk_e_ge q L f (i + 1)
  omega
theorem ce_tokenB (hX : ct_X b L I) (hK : ck_J J) {t i : Nat} {o2 : Option Value} (ht : t < 401) (hat : I 2 6 = nI i) (hiL : i ≤ L) (hp : tk_P b L t = i) (h : ∀ (I' : Nat → Nat → Int32) (J' : Nat → Nat → Int64), ct_1 b L t I I' J J' → Q none (em_SH, I', J', em_RT lw)) : em_wp em_sc0 (d + 6) 95 34 [some (.ref 2), some (.int (nI t)), o2] [] (em_SH, I, J, em_RT lw) Q := by
  have hL := hX.1
  have hxs : tk_x b L (t + 1) = tk_np b L i := by rw [← hp]; rfl
  have hKp : tk_K b L t = tk_Kp b L i := by unfold tk_K; rw [hp]
  iterate 4 refine em_next rfl ?_
  refine em_next rfl ?_
  refine em_tp hat ?_
  refine em_iasn rfl rfl (by omega) (by decide) ?_
  have f1 : ct_f I (em_u I 5 t (nI i)) J J := ct_f.row (by decide)
  have hX1 := f1.X hX
  have hat1 : em_u I 5 t (nI i) 2 6 = nI i := by rw [em_u_row (by decide)]; exact hat
  have s1 : em_u I 5 t (nI i) 5 t = nI i := em_u_self
  have s2 : ∀ j, j ≠ t → em_u I 5 t (nI i) 5 j = I 5 j := fun j hj => em_u_ne hj
  have s3 : em_u I 5 t (nI i) 4 = I 4 := em_u_row (by decide)
  generalize em_u I 5 t (nI i) = I1 at f1 hX1 hat1 s1 s2 s3 ⊢
  iterate 1 refine em_next rfl ?_
  refine em_inv_call rfl (ce_signAt hX1 hat1 (by omega) ?_)
  iterate 4 refine em_next rfl ?_
  by_cases hi : i < L
  · have hb := (hX.2.2 i hi).2
    rw [if_pos hi]
    refine em_c_neE (x' := nI (b i)) rfl (y' := -1) rfl (fun _ => ?_) (fun z => absurd z (fun e => by
      have h1 := nI_pos (n := b i) (by omega)
      rw [e] at h1
      exact h1 (by decide)))
    iterate 1 refine em_next rfl ?_
    refine em_inv_call rfl (ce_isLetter hb ?_)
    iterate 1 refine em_next rfl ?_
    cases hl : tk_l (b i) with
    | true =>
      refine em_z_eq (fun y => absurd y (by decide)) (fun _ => ?_)
      iterate 2 refine em_next rfl ?_
      refine em_inv_call rfl ?_
      iterate 2 refine em_next rfl ?_
      refine ce_letters_l (d := d + 4) (p := i) (k := 0) (m := L - i) hX1 (by omega) hat1 (fun j hj => absurd hj (Nat.not_lt_zero _)) (fun I2 k a1 a2 a3 hkL hke hkl => ?_)
      have hk1 : 1 ≤ k := tk_pos (q := fun j => tk_l (b j)) hi hl hke
      have hnp : tk_np b L i = i + k := by
        unfold tk_np
        rw [if_neg (by omega), if_pos hl, hke]
      have hkp : tk_Kp b L i = if 8 < k then 3 else if tk_wi (tk_en 32 b i k) < 21 then 20 + tk_wi (tk_en 32 b i k) else 1 := by
        unfold tk_Kp
        rw [if_neg (by omega), if_pos hl, ← hke, show i + k - i = k by omega]
      have hNt : tk_N b L t = tk_en 32 b i k := by
        unfold tk_N
        rw [hp, ← hke, show i + k - i = k by omega]
      iterate 4 refine em_next rfl ?_
      refine em_lasE (k := t) rfl rfl rfl (by omega) (by decide) ?_
      iterate 7 refine em_next rfl ?_
      refine em_next rfl ?_
      refine em_ialn rfl rfl (by omega) (by decide) ?_
      refine em_tp (y := nI i) (by rw [a2 _ (by decide)]; exact s1) ?_
      iterate 1 refine em_next rfl ?_
      refine em_tp (y := nI k) ?_ ?_
      · show I2 2 6 - nI i = nI k
        rw [a3, em_nadd, Int32.add_comm, Int32.add_sub_cancel]
      have fin : ∀ kd : Nat, tk_K b L t = kd → ¬ kd = 2 → em_wp em_sc0 (d + 5) 97 82 [some (.ref 2), some (.int (nI t)), some (.long (lN (tk_en 32 b i k))), none] [.int (nI (ck kd)), .int (nI t), .ref 4] (em_SH, I2, em_uj J 6 t (lN (tk_en 32 b i k)), em_RT lw) (fun r M' => em_wp em_sc0 (d + 5 + 1) 95 76 [some (.ref 2), some (.int (nI t)), some (.int (nI (b i)))] (r.toList ++ []) M' Q) := fun kd hkd n2 => by
        refine em_iasn rfl rfl (by omega) (by decide) ?_
        refine em_done rfl ?_
        iterate 1 refine em_next rfl ?_
        refine em_done rfl (h _ _ ⟨?_, ?_, by rw [hxs, hnp]; exact hkL, ⟨by rw [em_u_self, hkd], ?_, fun e => absurd (hkd.symm.trans e) n2, fun _ => by rw [em_uj_self, hNt]⟩, fun j hj => ⟨?_, ?_, em_uj_ne hj⟩⟩)
        · exact ((f1.tr a1).tr ct_f.val).tr (ct_f.row (by decide))
        · rw [em_u_row (by decide), a3, hxs, hnp]
        · rw [em_u_row (by decide), a2 _ (by decide), s1, hp]
        · rw [em_u_ne hj, a2 _ (by decide), s3]
        · rw [em_u_row (by decide), a2 _ (by decide), s2 j hj]
      iterate 2 refine em_next rfl ?_
      refine em_c_leE rfl (y' := nI 8) rfl (fun y => ?_) (fun y => ?_)
      · have y2 := (nI_leI (by omega) (by decide)).mp y
        have h8 := tk_en8 y2 hkl
        rw [if_neg (by omega)] at hkp
        have hkd : tk_K b L t = tk_kd (tk_en 32 b i k) 21 := by rw [hKp, hkp]; rfl
        iterate 2 refine em_next rfl ?_
        refine em_inv_call rfl ?_
        iterate 2 refine em_next rfl ?_
        refine ce_kind_l (N := tk_en 32 b i k) (k := 0) (m := 21) ((a1.tr ct_f.val).K hK) rfl h8.1 (by omega) (fun j hj => absurd hj (Nat.not_lt_zero _)) ?_
        exact fin _ hkd (by unfold tk_kd; split <;> omega)
      · have y2 := Nat.not_le.mp (fun e => y ((nI_leI (by omega) (by decide)).mpr e))
        rw [if_pos y2] at hkp
        iterate 2 refine em_next rfl ?_
        exact fin 3 (by rw [hKp, hkp]) (by decide)
    | false =>
      refine em_z_eq (fun _ => ?_) (fun y => absurd rfl y)
      iterate 1 refine em_next rfl ?_
      refine em_inv_call rfl (ce_isDigit hb ?_)
      iterate 1 refine em_next rfl ?_
      cases hd : tk_d (b i) with
      | true =>
        refine em_z_eq (fun y => absurd y (by decide)) (fun _ => ?_)
        iterate 2 refine em_next rfl ?_
        refine em_inv_call rfl ?_
        iterate 2 refine em_next rfl ?_
        refine ce_digits_l (d := d + 4) (p := i) (k := 0) (m := L - i) hX1 (by omega) hat1 (fun j hj => absurd hj (Nat.not_lt_zero _)) (fun I2 k a1 a2 a3 hkL hke => ?_)
        have hnp : tk_np b L i = i + k := by
          unfold tk_np
          rw [if_neg (by omega), if_neg (by rw [hl]; decide), if_pos hd, hke]
        have hkp : tk_Kp b L i = if 4 < k then 3 else 2 := by
          unfold tk_Kp
          rw [if_neg (by omega), if_neg (by rw [hl]; decide), if_pos hd, ← hke, show i + k - i = k by omega]
        have hVt : tk_V b L t = tk_nv b i k := by
          unfold tk_V
          rw [hp, ← hke, show i + k - i = k by omega]
        iterate 4 refine em_next rfl ?_
        refine em_lasE (k := t) rfl rfl rfl (by omega) (by decide) ?_
        iterate 7 refine em_next rfl ?_
        refine em_next rfl ?_
        refine em_ialn rfl rfl (by omega) (by decide) ?_
        refine em_tp (y := nI i) (by rw [a2 _ (by decide)]; exact s1) ?_
        iterate 1 refine em_next rfl ?_
        refine em_tp (y := nI k) ?_ ?_
        · show I2 2 6 - nI i = nI k
          rw [a3, em_nadd, Int32.add_comm, Int32.add_sub_cancel]
        have fin : ∀ kd : Nat, tk_K b L t = kd → ¬ kd = 1 → em_wp em_sc0 (d + 5) 99 84 [some (.ref 2), some (.int (nI t)), some (.long (lN (tk_nv b i k))), none] [.int (nI (ck kd)), .int (nI t), .ref 4] (em_SH, I2, em_uj J 6 t (lN (tk_nv b i k)), em_RT lw) (fun r M' => em_wp em_sc0 (d + 5 + 1) 95 91 [some (.ref 2), some (.int (nI t)), some (.int (nI (b i)))] (r.toList ++ []) M' Q) := fun kd hkd n1 => by
          refine em_iasn rfl rfl (by omega) (by decide) ?_
          refine em_done rfl ?_
          iterate 1 refine em_next rfl ?_
          refine em_done rfl (h _ _ ⟨?_, ?_, by rw [hxs, hnp]; exact hkL, ⟨by rw [em_u_self, hkd], ?_, fun _ => by rw [em_uj_self, hVt], fun e => absurd (hkd.symm.trans e) n1⟩, fun j hj => ⟨?_, ?_, em_uj_ne hj⟩⟩)
          · exact ((f1.tr a1).tr ct_f.val).tr (ct_f.row (by decide))
          · rw [em_u_row (by decide), a3, hxs, hnp]
          · rw [em_u_row (by decide), a2 _ (by decide), s1, hp]
          · rw [em_u_ne hj, a2 _ (by decide), s3]
          · rw [em_u_row (by decide), a2 _ (by decide), s2 j hj]
        iterate 2 refine em_next rfl ?_
        refine em_c_leE rfl (y' := nI 4) rfl (fun y => ?_) (fun y => ?_)
        · have y2 := (nI_leI (by omega) (by decide)).mp y
          rw [if_neg (by omega)] at hkp
          iterate 1 refine em_next rfl ?_
          exact fin 2 (by rw [hKp, hkp]) (by decide)
        · have y2 := Nat.not_le.mp (fun e => y ((nI_leI (by omega) (by decide)).mpr e))
          rw [if_pos y2] at hkp
          iterate 2 refine em_next rfl ?_
          exact fin 3 (by rw [hKp, hkp]) (by decide)
      | false =>
        refine em_z_eq (fun _ => ?_) (fun y => absurd rfl y)
        have hnp : tk_np b L i = i + 1 := by
          unfold tk_np
          rw [if_neg (by omega), if_neg (by rw [hl]; decide), if_neg (by rw [hd]; decide)]
        have hkd : tk_K b L t = tk_sg (b i) := by
          rw [hKp]
          unfold tk_Kp
          rw [if_neg (by omega), if_neg (by rw [hl]; decide), if_neg (by rw [hd]; decide)]
        have hno := tk_sg_no (b i)
        have hck := ck_sg (b i) hb
        iterate 5 refine em_next rfl ?_
        refine em_tp (y := nI (i + 1)) ?_ ?_
        · show I1 2 6 + 1 = nI (i + 1)
          rw [hat1, nI_succ]
        iterate 1 refine em_next rfl ?_
        show em_wp em_sc0 (d + 6) 95 _ _ _ (em_SH, em_u I1 2 6 (nI (i + 1)), J, em_RT lw) Q
        iterate 6 refine em_next rfl ?_
        refine em_tp (i2c_ok (b i) hb) ?_
        have fin : ∀ x : Int32, x = nI (ck (tk_sg (b i))) → em_wp em_sc0 (d + 6) 95 124 [some (.ref 2), some (.int (nI t)), some (.int (nI (b i)))] [.int x, .int (nI t), .ref 4] (em_SH, em_u I1 2 6 (nI (i + 1)), J, em_RT lw) Q := fun x hx => by
          refine em_iasn rfl rfl (by omega) (by decide) ?_
          refine em_done rfl (h _ _ ⟨?_, ?_, by rw [hxs, hnp]; omega, ⟨by rw [em_u_self, hkd, hx], ?_, fun e => absurd (hkd.symm.trans e) hno.1, fun e => absurd (hkd.symm.trans e) hno.2.1⟩, fun j hj => ⟨?_, ?_, rfl⟩⟩)
          · exact (f1.tr ct_f.at).tr (ct_f.row (by decide))
          · rw [em_u_row (by decide), em_u_self, hxs, hnp]
          · rw [em_u_row (by decide), em_u_row (by decide), s1, hp]
          · rw [em_u_ne hj, em_u_row (by decide), s3]
          · rw [em_u_row (by decide), em_u_row (by decide), s2 j hj]
        refine em_inv_call rfl (ce_signs hb (fun r r1 r2 => ?_))
        iterate 1 refine em_next rfl ?_
        refine em_z_lt (fun y => ?_) (fun y => ?_)
        · have e : tk_sg (b i) = 3 := Classical.byContradiction (fun q => r2 q y)
          iterate 1 refine em_next rfl ?_
          exact fin _ (by rw [hck.1 e]; rfl)
        · have e : ¬ tk_sg (b i) = 3 := fun q => y (r1 q)
          iterate 2 refine em_next rfl ?_
          exact fin _ (by rw [hck.2 e])
  · have e : i = L := by omega
    rw [if_neg hi]
    have hnp : tk_np b L i = i := by unfold tk_np; rw [if_pos (by omega)]
    have hkd : tk_K b L t = 0 := by rw [hKp]; unfold tk_Kp; rw [if_pos (by omega)]
    refine em_c_ne (fun z => absurd rfl z) (fun _ => ?_)
    iterate 4 refine em_next rfl ?_
    refine em_iasn rfl rfl (by omega) (by decide) ?_
    iterate 1 refine em_next rfl ?_
    refine em_done rfl (h _ _ ⟨?_, ?_, by rw [hxs, hnp]; omega, ⟨by rw [em_u_self, hkd]; rfl, ?_, fun e => by rw [hkd] at e; exact absurd e (by decide), fun e => by rw [hkd] at e; exact absurd e (by decide)⟩, fun j hj => ⟨?_, ?_, rfl⟩⟩)
    · exact f1.tr (ct_f.row (by decide))
    · rw [em_u_row (by decide), hat1, hxs, hnp]
    · rw [em_u_row (by decide), s1, hp]
    · rw [em_u_ne hj, s3]
    · rw [em_u_row (by decide), s2 j hj]
theorem ct_1.pre {t : Nat} (h : ct_1 b L t I' I'' J J') (hf : ct_f I I' J J) (ha : ∀ a, a ≠ 2 → I' a = I a) : ct_1 b L t I I'' J J' := ⟨hf.tr h.1, h.2.1, h.2.2.1, h.2.2.2.1, fun j hj => by
  have := h.2.2.2.2 j hj
  rw [ha _ (by decide), ha _ (by decide)] at this
  exact this⟩
theorem ce_token_l (hX : ct_X b L I) (hK : ck_J J) {t i m : Nat} {o2 : Option Value} (ht : t < 401) (hm : i + m = L) (hat : I 2 6 = nI i) (h0 : tk_x b L t ≤ i) (h1 : ∀ j, tk_x b L t ≤ j → j < i → j < L ∧ tk_b (b j) = true) (h : ∀ (I' : Nat → Nat → Int32) (J' : Nat → Nat → Int64), ct_1 b L t I I' J J' → Q none (em_SH, I', J', em_RT lw)) : em_wp em_sc0 (d + 6) 95 0 [some (.ref 2), some (.int (nI t)), o2] [] (em_SH, I, J, em_RT lw) Q := by
  have hL := hX.1
  induction m generalizing i I with
  | zero =>
    iterate 5 refine em_next rfl ?_
    refine em_c_geE hat hX.2.1 (fun _ => ?_) (fun z => absurd (nI_le (by omega) (by omega)) z)
    exact ce_tokenB (i := i) hX hK ht hat (by omega) (tk_end_eq h0 h1 (fun q => by omega)) h
  | succ m ih =>
    have hi : i < L := by omega
    have hb := (hX.2.2 i hi).2
    iterate 5 refine em_next rfl ?_
    refine em_c_geE hat hX.2.1 (fun z => absurd z (nI_ge (by omega) (by omega))) (fun _ => ?_)
    iterate 1 refine em_next rfl ?_
    refine em_inv_call rfl (ce_signAt hX hat (by omega) ?_)
    rw [if_pos hi]
    refine em_inv_call rfl (ce_isBlank hb ?_)
    iterate 1 refine em_next rfl ?_
    cases hc : tk_b (b i) with
    | false =>
      refine em_z_eq (fun _ => ?_) (fun z => absurd rfl z)
      exact ce_tokenB (i := i) hX hK ht hat (by omega) (tk_end_eq h0 h1 (fun q => by rw [hc] at q; exact absurd q.2 (by decide))) h
    | true =>
      refine em_z_eq (fun z => absurd z (by decide)) (fun _ => ?_)
      iterate 5 refine em_next rfl ?_
      refine em_tp (y := nI (i + 1)) ?_ ?_
      · show I 2 6 + 1 = nI (i + 1)
        rw [hat, nI_succ]
      iterate 2 refine em_next rfl ?_
      exact ih (i := i + 1) (I := em_u I 2 6 (nI (i + 1))) (ct_f.X (J := J) (J' := J) ct_f.at hX) (by omega) em_u_self (by omega) (fun j j1 j2 => by
        by_cases e : j = i
        · subst e; exact ⟨hi, hc⟩
        · exact h1 j j1 (by omega)) (fun I' J' f => h I' J' (f.pre ct_f.at (fun a ha => em_u_row ha)))
def cs_n (b : Nat → Nat) (L n : Nat) : Prop := n = 401 ∨ (1 ≤ n ∧ n ≤ 401 ∧ (tk_K b L (n - 1) = 0 ∨ tk_K b L (n - 1) = 3))
theorem tk_Kr (b : Nat → Nat) (L t : Nat) : tk_K b L t ≤ 40 := by
  unfold tk_K tk_Kp tk_sg
  repeat' split
  all_goals omega
theorem ck_3 : ∀ k, k < 41 → (ck k = 3 ↔ k = 0) ∧ (ck k = 0 ↔ k = 3) ∧ ck k < 300 := by decide
theorem ce_scan_l (hX : ct_X b L I) (hK : ck_J J) {t m : Nat} (hm : t + m = 401) (hT : ct_T b L I J t) (hat : I 2 6 = nI (tk_x b L t)) (hx : tk_x b L t ≤ L) (h : ∀ (I' : Nat → Nat → Int32) (J' : Nat → Nat → Int64) (n : Nat), ct_f I I' J J' → ct_T b L I' J' n → cs_n b L n → Q none (em_SH, I', J', em_RT lw)) : em_wp em_sc0 (d + 7) 94 7 [some (.ref 2), some (.int (nI t))] [] (em_SH, I, J, em_RT lw) Q := by
  have hL := hX.1
  induction m generalizing t I J with
  | zero =>
    have e : t = 401 := by omega
    subst e
    iterate 3 refine em_next rfl ?_
    refine em_c_gt (fun _ => ?_) (fun z => absurd (by decide) z)
    exact em_done rfl (h I J 401 ct_f.rf hT (Or.inl rfl))
  | succ m ih =>
    iterate 3 refine em_next rfl ?_
    refine em_c_gt (fun z => absurd z (nI_nlt (a := 400) (by omega) (by decide))) (fun _ => ?_)
    iterate 2 refine em_next rfl ?_
    refine em_inv_call rfl ?_
    refine ce_token_l (d := d) (i := tk_x b L t) (m := L - tk_x b L t) hX hK (by omega) (by omega) hat (Nat.le_refl _) (fun j j1 j2 => by omega) (fun I1 J1 a1 => ?_)
    obtain ⟨a1, a2, a3, a4, a5⟩ := a1
    have hr := tk_Kr b L t
    have hc := ck_3 (tk_K b L t) (by omega)
    have hT1 : ct_T b L I1 J1 (t + 1) := fun s hs => by
      by_cases e : s = t
      · subst e; exact a4
      · have := a5 s e
        rw [this.1, this.2.1, this.2.2]
        exact hT s (by omega)
    iterate 3 refine em_next rfl ?_
    refine em_ialn rfl rfl (by omega) (by decide) ?_
    iterate 2 refine em_next rfl ?_
    refine em_c_eqE a4.1 (y' := nI 3) rfl (fun z => ?_) (fun z => ?_)
    · have e := hc.1.mp ((nI_eq (by omega) (by decide)).mp z)
      exact em_done rfl (h I1 J1 (t + 1) a1 hT1 (Or.inr ⟨by omega, by omega, Or.inl e⟩))
    · iterate 3 refine em_next rfl ?_
      refine em_ialn rfl rfl (by omega) (by decide) ?_
      iterate 1 refine em_next rfl ?_
      refine em_z_neE a4.1 (fun y => ?_) (fun y => ?_)
      · iterate 2 refine em_next rfl ?_
        have g := ih (t := t + 1) (I := I1) (J := J1) (a1.X hX) (a1.K hK) (by omega) hT1 a2 a3 (fun I' J' n f => h I' J' n (a1.tr f))
        rw [nI_succ] at g
        exact g
      · have e := hc.2.1.mp ((nI_eq (b := 0) (by omega) (by decide)).mp y)
        iterate 1 refine em_next rfl ?_
        exact em_done rfl (h I1 J1 (t + 1) a1 hT1 (Or.inr ⟨by omega, by omega, Or.inr e⟩))
theorem ce_scan (hX : ct_X b L I) (hK : ck_J J) (h : ∀ (I' : Nat → Nat → Int32) (J' : Nat → Nat → Int64) (n : Nat), ct_f I I' J J' → ct_T b L I' J' n → cs_n b L n → Q none (em_SH, I', J', em_RT lw)) : em_call (d + 7) 94 [.ref 2] (em_SH, I, J, em_RT lw) Q := by
  iterate 5 refine em_next rfl ?_
  show em_wp em_sc0 (d + 7) 94 _ _ _ (em_SH, em_u I 2 6 0, J, em_RT lw) Q
  exact ce_scan_l (t := 0) (m := 401) (ct_f.X (J := J) (J' := J) ct_f.at hX) hK (by omega) (fun t ht => absurd ht (Nat.not_lt_zero _)) em_u_self (Nat.zero_le _) (fun I' J' n f => h I' J' n (ct_f.at.tr f))
end CSCAN3
