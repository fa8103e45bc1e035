/-! the class: its questions, eight: how all lay, where to look -/
section CQ9
variable {d lw : Nat} {P : em_Pl} {X Y : em_Nt} {D : em_Td} {lp : Bool} {part : Nat → Int32} {I I0 : Nat → Nat → Int32} {J : Nat → Nat → Int64} {M : em_M} {Q : Option Value → em_M → Prop} {v : List Int32} {sd : Int32}
theorem ce_gather_l (hS : cl_S I lp P X) {T : Nat} (hT : cs_T I P.1 T D) {kk k m : Nat} (hkk : kk ≤ T) (hk : k + m = 2 ^ P.1) (hg : cg_st I P.1 (em_kn P X D kk) k) (h : ∀ I' : Nat → Nat → Int32, em_fW I I' → cl_S I' lp P X → cg_st I' P.1 (em_kn P X D kk) (2 ^ P.1) → Q none (em_SH, I', J, em_RT lw)) : em_wp em_sc0 (d + 5) 63 44 [some (.ref 281), some (.int (nI kk)), some (.int (nI (ec_lh D kk))), some (.int (nI k))] [] (em_SH, I, J, em_RT lw) Q := by
  have hn := hS.1.1.1
  have hp9 := em_pow9 hn
  have hp := Nat.two_pow_pos P.1
  induction m generalizing k I with
  | zero =>
    have e : k = 2 ^ P.1 := by omega
    subst e
    iterate 3 refine em_next rfl ?_
    refine em_inv_call rfl (ce_allLeft hS.1 ?_)
    iterate 1 refine em_next rfl ?_
    refine em_c_gt (fun _ => ?_) (fun h1 => absurd (nI_lt (by omega) (by omega)) h1)
    exact em_done rfl (h I em_fW.rf hS hg)
  | succ m ih =>
    iterate 3 refine em_next rfl ?_
    refine em_inv_call rfl (ce_allLeft hS.1 ?_)
    iterate 1 refine em_next rfl ?_
    refine em_c_gt (fun h1 => absurd h1 (nI_nlt (by omega) (by omega))) (fun _ => ?_)
    iterate 3 refine em_next rfl ?_
    refine em_c_ge (fun q => absurd q (nI_ge (b := 512) (by omega) (by decide))) (fun _ => ?_)
    iterate 7 refine em_next rfl ?_
    refine em_inv_call rfl (ce_fits hS hT (s := k) (by omega) hkk (fun I1 a1 a2 => ?_))
    refine em_basn (y := em_bb (em_kn P X D kk k)) rfl rfl (by omega) (by decide) (by cases em_kn P X D kk k <;> rfl) ?_
    iterate 3 refine em_next rfl ?_
    refine em_baln rfl rfl (by omega) (by decide) ?_
    have hr1 : ∀ c, c ≠ 282 → em_u I1 282 k (em_bb (em_kn P X D kk k)) c = I1 c := fun c hc => em_u_row hc
    have hf1 : em_fW I (em_u I1 282 k (em_bb (em_kn P X D kk k))) := a1.W.tr (em_fW.row (a := 282) (by decide) hr1)
    have hm1 : ∀ s, s < k + 1 → em_u I1 282 k (em_bb (em_kn P X D kk k)) 282 s = em_bb (em_kn P X D kk s) := fun s hs => by
      by_cases e : s = k
      · subst e; exact em_u_self
      · rw [em_u_ne e, a1 _ (by decide)]
        exact hg.2 s (by omega)
    have hS1 : cl_S (em_u I1 282 k (em_bb (em_kn P X D kk k))) lp P X := a2.row (a := 282) (by decide) hr1
    have hg1 : em_u I1 282 k (em_bb (em_kn P X D kk k)) 281 = I 281 := by rw [hr1 _ (by decide), a1 _ (by decide)]
    generalize em_u I1 282 k (em_bb (em_kn P X D kk k)) = I2 at hr1 hf1 hm1 hS1 hg1 ⊢
    obtain ⟨⟨g1, g2, g3, g4⟩, -⟩ := hg
    have ec : em_ct (k + 1) (em_kn P X D kk) = em_ct k (em_kn P X D kk) + (if em_kn P X D kk k then 1 else 0) := rfl
    have ef := em_ff_s (em_kn P X D kk) 0 k
    rw [Nat.zero_add] at ef
    have el := em_inL_s (p := em_kn P X D kk) (n := P.1) (k := k) (by omega)
    have er := em_inR_s (p := em_kn P X D kk) (n := P.1) (k := k) (by omega)
    iterate 1 refine em_next rfl ?_
    refine em_z_eqE (hm1 k (by omega)) (fun q => ?_) (fun q => ?_)
    · have q2 : em_kn P X D kk k = false := by
        cases e : em_kn P X D kk k
        · rfl
        · rw [e] at q; exact absurd q (by decide)
      rw [q2, if_neg (by decide)] at ec ef el er
      have ef2 : em_ff (em_kn P X D kk) 0 (k + 1) = em_ff (em_kn P X D kk) 0 k := by
        rw [ef]
        cases em_ff (em_kn P X D kk) 0 k <;> rfl
      have g := ih (k := k + 1) (I := I2) hS1 (hT.keep hf1) (by omega) ⟨⟨by rw [hg1, ec]; exact g1, by rw [hg1, ef2]; exact g2, by rw [hg1, el]; exact g3, by rw [hg1, er]; exact g4⟩, hm1⟩ (fun I' f => h I' (hf1.tr f))
      rw [nI_succ] at g
      iterate 2 refine em_next rfl ?_
      exact g
    · have q2 : em_kn P X D kk k = true := by
        cases e : em_kn P X D kk k
        · rw [e] at q; exact absurd rfl q
        · rfl
      rw [q2, if_pos rfl] at ec el er
      have c0 := em_ff_ct (em_kn P X D kk) k
      have c1 := em_ct_le k (em_kn P X D kk)
      have fin : ∀ x : Int32, x = em_oi (em_ff (em_kn P X D kk) 0 (k + 1)) → em_wp em_sc0 (d + 5) 63 44 [some (.ref 281), some (.int (nI kk)), some (.int (nI (ec_lh D kk))), some (.int (nI k + 1))] [] (em_SH, em_u (em_u (em_u (em_u I2 281 7 x) 281 6 (I2 281 6 + 1)) 281 8 (I2 281 8 &&& nI k)) 281 9 (I2 281 9 &&& (nI k ^^^ -1)), J, em_RT lw) Q := fun x ex => by
        have hr2 : ∀ c, c ≠ 281 → em_u (em_u (em_u (em_u I2 281 7 x) 281 6 (I2 281 6 + 1)) 281 8 (I2 281 8 &&& nI k)) 281 9 (I2 281 9 &&& (nI k ^^^ -1)) c = I2 c := fun c hc => by rw [em_u_row hc, em_u_row hc, em_u_row hc, em_u_row hc]
        have hf2 := hf1.tr (em_fW.row (a := 281) (by decide) hr2)
        have g := ih (k := k + 1) (I := _) (hS1.row (a := 281) (by decide) hr2) (hT.keep hf2) (by omega) ⟨⟨?_, ?_, ?_, ?_⟩, fun s hs => by rw [hr2 _ (by decide)]; exact hm1 s hs⟩ (fun I' f => h I' (hf2.tr f))
        · rw [nI_succ] at g
          exact g
        · rw [em_u_ne (by decide), em_u_ne (by decide), em_u_self, hg1, g1, ec, nI_succ]
        · rw [em_u_ne (by decide), em_u_ne (by decide), em_u_ne (by decide), em_u_self, ex]
        · rw [em_u_ne (by decide), em_u_self, hg1, g3, el, em_and2]
        · rw [em_u_self, hg1, g4, er]
          exact em_not9b P.1 (by omega) _ (em_or_lt _ _) k (by omega)
      iterate 4 refine em_next rfl ?_
      refine em_z_neE (x' := nI (em_ct k (em_kn P X D kk))) (by rw [← g1, ← hg1]) (fun z => ?_) (fun z => ?_)
      · have z2 : ¬ em_ct k (em_kn P X D kk) = 0 := fun e => z (by rw [e]; rfl)
        iterate 25 refine em_next rfl ?_
        refine fin (I2 281 7) ?_
        rw [hg1, g2, ef]
        cases e : em_ff (em_kn P X D kk) 0 k with
        | none => exact absurd (c0.mpr e) z2
        | some b => rfl
      · have z2 : em_ct k (em_kn P X D kk) = 0 := (nI_eq (b := 0) (by omega) (by decide)).mp z
        iterate 25 refine em_next rfl ?_
        refine fin (nI k) ?_
        rw [ef, c0.mp z2]
        dsimp only
        rw [q2]
        rfl
theorem ce_gather (hS : cl_S I lp P X) {T : Nat} (hT : cs_T I P.1 T D) {kk : Nat} (hkk : kk ≤ T) (h : ∀ I' : Nat → Nat → Int32, em_fW I I' → cl_S I' lp P X → cg_st I' P.1 (em_kn P X D kk) (2 ^ P.1) → Q none (em_SH, I', J, em_RT lw)) : em_call (d + 5) 63 [.ref 281, .int (nI kk)] (em_SH, I, J, em_RT lw) Q := by
  have hn := hS.1.1.1
  iterate 9 refine em_next rfl ?_
  show em_wp em_sc0 (d + 5) 63 _ _ _ (em_SH, em_u (em_u I 281 6 0) 281 7 (-2), J, em_RT lw) Q
  have hr1 : ∀ c, c ≠ 281 → em_u (em_u I 281 6 0) 281 7 (-2) c = I c := fun c hc => by rw [em_u_row hc, em_u_row hc]
  have hS1 := hS.row (a := 281) (by decide) hr1
  refine em_inv_call rfl (ce_allLeft hS1.1 ?_)
  iterate 4 refine em_next rfl ?_
  show em_wp em_sc0 (d + 5) 63 _ _ _ (em_SH, em_u (em_u (em_u I 281 6 0) 281 7 (-2)) 281 8 (nI (2 ^ P.1 - 1)), J, em_RT lw) Q
  have hr2 : ∀ c, c ≠ 281 → em_u (em_u (em_u I 281 6 0) 281 7 (-2)) 281 8 (nI (2 ^ P.1 - 1)) c = I c := fun c hc => by rw [em_u_row hc, hr1 c hc]
  have hS2 := hS.row (a := 281) (by decide) hr2
  refine em_inv_call rfl (ce_allLeft hS2.1 ?_)
  iterate 4 refine em_next rfl ?_
  show em_wp em_sc0 (d + 5) 63 _ _ _ (em_SH, em_u (em_u (em_u (em_u I 281 6 0) 281 7 (-2)) 281 8 (nI (2 ^ P.1 - 1))) 281 9 (nI (2 ^ P.1 - 1)), J, em_RT lw) Q
  have hr3 : ∀ c, c ≠ 281 → em_u (em_u (em_u (em_u I 281 6 0) 281 7 (-2)) 281 8 (nI (2 ^ P.1 - 1))) 281 9 (nI (2 ^ P.1 - 1)) c = I c := fun c hc => by rw [em_u_row hc, hr2 c hc]
  have hS3 := hS.row (a := 281) (by decide) hr3
  have hf3 : em_fW I _ := em_fW.row (a := 281) (by decide) hr3
  refine em_inv_call rfl (ce_last (hT.keep hf3) hkk ?_)
  iterate 3 refine em_next rfl ?_
  refine ce_gather_l (k := 0) (m := 2 ^ P.1) hS3 (hT.keep hf3) hkk (by omega) ⟨⟨?_, ?_, ?_, ?_⟩, fun s hs => absurd hs (Nat.not_lt_zero _)⟩ (fun I' f => h I' (hf3.tr f))
  · rw [em_u_ne (by decide), em_u_ne (by decide), em_u_ne (by decide), em_u_self]; rfl
  · rw [em_u_ne (by decide), em_u_ne (by decide), em_u_self]; rfl
  · rw [em_u_ne (by decide), em_u_self, em_all_bits]; rfl
  · rw [em_u_self, em_all_bits]; rfl
theorem cq_lay (hS : cl_S I lp P X) {T : Nat} (hT : cs_T I P.1 T D) {k w : Int32} (h : ∀ I' : Nat → Nat → Int32, em_fW I I' → cl_S I' lp P X → Q (some (.int (sp_lay P X D T k w))) (em_SH, I', J, em_RT lw)) : em_call (d + 9) 157 [.ref 1, .int k, .int w] (em_SH, I, J, em_RT lw) Q := by
  have hn := hS.1.1.1
  have hp9 := em_pow9 hn
  have hT20 := hT.1.1
  unfold sp_lay at h
  iterate 4 refine em_next rfl ?_
  refine em_next rfl ?_
  refine em_tp hT.1.2 ?_
  refine em_inv_call rfl (ce_within (a := 0) ?_)
  iterate 1 refine em_next rfl ?_
  refine em_b_eq (fun g => ?_) (fun g => ?_)
  · rw [if_neg (fun q => g q.1)] at h
    iterate 1 refine em_next rfl ?_
    exact em_done rfl (h I em_fW.rf hS)
  iterate 3 refine em_next rfl ?_
  refine em_inv_call rfl (ce_within (a := 0) (b := 3) ?_)
  iterate 1 refine em_next rfl ?_
  refine em_b_ne (fun g2 => ?_) (fun g2 => ?_)
  · rw [if_pos ⟨g, g2⟩] at h
    obtain ⟨kk, hkk, rfl, ek⟩ := em_nat (m := T) (by omega) g.1 g.2
    rw [ek] at h
    have ct := em_ct_le (2 ^ P.1) (em_kn P X D kk)
    iterate 3 refine em_next rfl ?_
    refine em_inv_call rfl (ce_gather hS hT hkk (fun I1 a1 a2 a3 => ?_))
    have h := h I1 a1 a2
    obtain ⟨⟨b1, b2, b3, b4⟩, -⟩ := a3
    iterate 2 refine em_next rfl ?_
    refine em_z_ne (fun q => ?_) (fun q => ?_)
    · rw [if_neg q] at h
      iterate 4 refine em_next rfl ?_
      refine em_z_neE b1 (fun z => ?_) (fun z => ?_)
      · rw [if_neg (fun e => z (by rw [e]; rfl))] at h
        obtain ⟨s, hs, rfl, -⟩ := em_nat (m := 3) (by decide) g2.1 g2.2
        rcases (show s = 0 ∨ s = 1 ∨ s = 2 ∨ s = 3 by omega) with rfl | rfl | rfl | rfl
        · exact absurd rfl q
        · rw [if_pos (by decide)] at h
          iterate 5 refine em_next rfl ?_
          exact em_doneE rfl b2 h
        · rw [if_neg (by decide), if_pos (by decide)] at h
          iterate 5 refine em_next rfl ?_
          exact em_doneE rfl b3 h
        · rw [if_neg (by decide), if_neg (by decide)] at h
          iterate 5 refine em_next rfl ?_
          exact em_doneE rfl b4 h
      · rw [if_pos ((nI_eq (b := 0) (by omega) (by decide)).mp z)] at h
        iterate 1 refine em_next rfl ?_
        exact em_done rfl h
    · rw [if_pos q] at h
      iterate 3 refine em_next rfl ?_
      exact em_doneE rfl b1 h
  · rw [if_neg (fun q => g2 q.2)] at h
    iterate 1 refine em_next rfl ?_
    exact em_done rfl (h I em_fW.rf hS)
theorem ce_addLeft_l (hS : cl_S I lp P X) {t k m : Nat} {u : Nat → Nat} (ht : t < 2 ^ P.1) (hk : k + m = P.1) (h1 : ∀ b, b < k → I 283 b = nI (u b + (if t.testBit b then 1 else 0))) (h2 : ∀ b, k ≤ b → b < P.1 → I 283 b = nI (u b)) (h : ∀ I' : Nat → Nat → Int32, (∀ c, c ≠ 283 → I' c = I c) → (∀ b, b < P.1 → I' 283 b = nI (u b + (if t.testBit b then 1 else 0))) → Q none (em_SH, I', J, em_RT lw)) : em_wp em_sc0 d 66 2 [some (.ref 281), some (.int (nI t)), some (.int (nI k))] [] (em_SH, I, J, em_RT lw) Q := by
  have hn := hS.1.1.1
  have hp9 := em_pow9 hn
  induction m generalizing k I with
  | zero =>
    have e : k = P.1 := by omega
    subst e
    iterate 5 refine em_next rfl ?_
    refine em_c_geE rfl hS.mn (fun _ => ?_) (fun h1 => absurd (nI_le (Nat.le_refl _) (by omega)) h1)
    exact em_done rfl (h I (fun _ _ => rfl) h1)
  | succ m ih =>
    iterate 5 refine em_next rfl ?_
    refine em_c_geE rfl hS.mn (fun h1 => absurd h1 (nI_ge (by omega) (by omega))) (fun _ => ?_)
    iterate 4 refine em_next rfl ?_
    refine em_ialn rfl rfl (by omega) (by decide) ?_
    have eb : (nI t >>> (nI k &&& 31)) &&& 1 = nI (if t.testBit k then 1 else 0) := by
      rw [em_bitC t (by omega) k (by omega)]
      unfold em_bit
      split <;> rfl
    iterate 5 refine em_next rfl ?_
    refine em_tp eb ?_
    iterate 1 refine em_next rfl ?_
    refine em_tp (em_addN (h2 k (Nat.le_refl _) (by omega)) rfl) ?_
    refine em_iasn rfl rfl (by omega) (by decide) ?_
    iterate 2 refine em_next rfl ?_
    have hr1 : ∀ c, c ≠ 283 → em_u I 283 k (nI (u k + (if t.testBit k then 1 else 0))) c = I c := fun c hc => em_u_row hc
    have g := ih (k := k + 1) (I := em_u I 283 k (nI (u k + (if t.testBit k then 1 else 0)))) (hS.row (a := 283) (by decide) hr1) (by omega) (fun b hb => by
      by_cases e : b = k
      · subst e; exact em_u_self
      · rw [em_u_ne e]; exact h1 b (by omega)) (fun b hb hb2 => by rw [em_u_ne (by omega)]; exact h2 b (by omega) hb2) (fun I' f => h I' (fun c hc => (f c hc).trans (hr1 c hc)))
    rw [nI_succ] at g
    exact g
theorem ce_look_1 (hS : cl_S I lp P X) {kk n k m : Nat} (hnn : n < 25) (hv : ∀ s, s < 2 ^ P.1 → I 282 s = em_bb (em_kn P X D kk s)) (hk : k + m = 2 ^ P.1) (h0 : ∀ b, b < P.1 → I 283 b = nI (em_sl1 P X D kk n b k)) (h : ∀ I' : Nat → Nat → Int32, em_fW I I' → cl_S I' lp P X → I' 281 = I 281 → (∀ b, b < P.1 → I' 283 b = nI (em_sl1 P X D kk n b (2 ^ P.1))) → em_wp em_sc0 (d + 5) 65 56 [some (.ref 281), some (.int (nI n)), some (.int (nI (2 ^ P.1))), none, none, none] [] (em_SH, I', J, em_RT lw) Q) : em_wp em_sc0 (d + 5) 65 10 [some (.ref 281), some (.int (nI n)), some (.int (nI k)), none, none, none] [] (em_SH, I, J, em_RT lw) Q := by
  have hn := hS.1.1.1
  have hp9 := em_pow9 hn
  have hp := Nat.two_pow_pos P.1
  induction m generalizing k I with
  | zero =>
    have e : k = 2 ^ P.1 := by omega
    subst e
    iterate 3 refine em_next rfl ?_
    refine em_inv_call rfl (ce_allLeft hS.1 ?_)
    iterate 1 refine em_next rfl ?_
    refine em_c_gt (fun _ => ?_) (fun h1 => absurd (nI_lt (by omega) (by omega)) h1)
    exact h I em_fW.rf hS rfl h0
  | succ m ih =>
    have es : ∀ b, em_sl1 P X D kk n b (k + 1) = em_sl1 P X D kk n b k + (if (em_kn P X D kk k && (em_R P X n k).testBit b) then 1 else 0) := fun b => rfl
    iterate 3 refine em_next rfl ?_
    refine em_inv_call rfl (ce_allLeft hS.1 ?_)
    iterate 1 refine em_next rfl ?_
    refine em_c_gt (fun h1 => absurd h1 (nI_nlt (by omega) (by omega))) (fun _ => ?_)
    iterate 3 refine em_next rfl ?_
    refine em_c_ge (fun q => absurd q (nI_ge (b := 512) (by omega) (by decide))) (fun _ => ?_)
    iterate 3 refine em_next rfl ?_
    refine em_baln rfl rfl (by omega) (by decide) ?_
    iterate 1 refine em_next rfl ?_
    cases hq : em_kn P X D kk k with
    | false =>
      refine em_z_eqE (x' := em_bb false) ((hv k (by omega)).trans (by rw [hq])) (fun _ => ?_) (fun z => absurd rfl z)
      iterate 2 refine em_next rfl ?_
      have g := ih (k := k + 1) (I := I) hS hv (by omega) (fun b hb => by rw [es, hq]; exact h0 b hb) h
      rw [nI_succ] at g
      exact g
    | true =>
      refine em_z_eqE (x' := em_bb true) ((hv k (by omega)).trans (by rw [hq])) (fun z => absurd z (by decide)) (fun _ => ?_)
      iterate 5 refine em_next rfl ?_
      refine em_inv_call rfl (ce_Ra (s := k) hS rfl (by omega) (by omega) (fun I1 a1 a2 => ?_))
      have hlt : em_R P X n k < 2 ^ P.1 := em_R_lt (by omega)
      refine em_inv_call rfl ?_
      iterate 2 refine em_next rfl ?_
      refine ce_addLeft_l (d := d + 4) (k := 0) (m := P.1) (u := fun b => em_sl1 P X D kk n b k) a2 hlt (by omega) (fun b hb => absurd hb (Nat.not_lt_zero _)) (fun b _ hb => by rw [a1 _ (by decide)]; exact h0 b hb) (fun I2 b1 b2 => ?_)
      iterate 2 refine em_next rfl ?_
      have f2 : em_fW I I2 := a1.W.tr (em_fW.row (a := 283) (by decide) b1)
      have g := ih (k := k + 1) (I := I2) (a2.row (a := 283) (by decide) b1) (fun s hs => by rw [b1 _ (by decide), a1 _ (by decide)]; exact hv s hs) (by omega) (fun b hb => by rw [b2 b hb, es, hq, Bool.true_and]) (fun I' f g1 g2 => h I' (f2.tr f) g1 (g2.trans (by rw [b1 _ (by decide), a1 _ (by decide)])))
      rw [nI_succ] at g
      exact g
theorem ce_look_2 (hS : cl_S I lp P X) {n : Int32} {kk j k m c : Nat} {o : Option Value} (hc : c = em_ct (2 ^ P.1) (em_kn P X D kk)) (hkn : I 281 6 = nI c) (hv : ∀ b, b < P.1 → I 283 b = nI (em_sl1 P X D kk j b (2 ^ P.1))) (hc0 : 0 < c) (hk : k + m = P.1) (h : Q (some (.int (em_oi (em_ai (fun _ => true) (em_ww P X D kk j) P.1)))) (em_SH, I, J, em_RT lw)) : em_wp em_sc0 (d + 5) 65 64 [some (.ref 281), some (.int (n)), some (.int (em_oi (em_ai (fun _ => true) (em_ww P X D kk j) k))), some (.int (em_x0 (em_ww P X D kk j) (em_ai (fun _ => true) (em_ww P X D kk j) k))), some (.int (nI k)), o] [] (em_SH, I, J, em_RT lw) Q := by
  have hn := hS.1.1.1
  have hp9 := em_pow9 hn
  have c1 := em_ct_le (2 ^ P.1) (em_kn P X D kk)
  induction m generalizing k o with
  | zero =>
    have e : k = P.1 := by omega
    subst e
    iterate 5 refine em_next rfl ?_
    refine em_c_geE rfl hS.mn (fun _ => ?_) (fun h1 => absurd (nI_le (Nat.le_refl _) (by omega)) h1)
    iterate 1 refine em_next rfl ?_
    exact em_done rfl h
  | succ m ih =>
    have sl : ∀ b, em_sl1 P X D kk j b (2 ^ P.1) ≤ c := fun b => by
      rw [hc]
      exact em_ct_mono (fun s hs => by rw [Bool.and_eq_true] at hs; exact hs.1) _
    have slk := sl k
    have ww : ∀ b, em_ww P X D kk j b ≤ c := fun b => by
      unfold em_ww
      have := sl b
      rw [← hc]
      split <;> omega
    have wwk := ww k
    have ew : (if nI (em_sl1 P X D kk j k (2 ^ P.1)) < nI (c - em_sl1 P X D kk j k (2 ^ P.1)) then nI (c - em_sl1 P X D kk j k (2 ^ P.1)) else nI (em_sl1 P X D kk j k (2 ^ P.1))) = nI (em_ww P X D kk j k) := by
      rw [em_mxE (by omega) (by omega)]
      congr 1
      unfold em_ww
      rw [← hc]
      split <;> split <;> omega
    iterate 5 refine em_next rfl ?_
    refine em_c_geE rfl hS.mn (fun h1 => absurd h1 (nI_ge (by omega) (by omega))) (fun _ => ?_)
    iterate 3 refine em_next rfl ?_
    refine em_z_leE hkn (fun q => absurd q (nI_nle hc0 (by omega))) (fun _ => ?_)
    iterate 3 refine em_next rfl ?_
    refine em_ialn rfl rfl (by omega) (by decide) ?_
    refine em_tp (hv k (by omega)) ?_
    iterate 5 refine em_next rfl ?_
    refine em_ialn rfl rfl (by omega) (by decide) ?_
    refine em_tp (hv k (by omega)) ?_
    iterate 1 refine em_next rfl ?_
    refine em_tp (y := nI (c - em_sl1 P X D kk j k (2 ^ P.1))) ?_ ?_
    · show I 281 6 - _ = _
      rw [hkn]
      have e := em_nadd (c - em_sl1 P X D kk j k (2 ^ P.1)) (em_sl1 P X D kk j k (2 ^ P.1))
      rw [Nat.sub_add_cancel slk] at e
      rw [e, Int32.add_sub_cancel]
    iterate 1 refine em_next rfl ?_
    refine em_tp ew ?_
    have g := ih (k := k + 1) (o := some (.int (nI (em_ww P X D kk j k)))) (by omega)
    rw [em_ai, nI_succ] at g
    iterate 4 refine em_next rfl ?_
    cases e : em_ai (fun _ => true) (em_ww P X D kk j) k with
    | none =>
      rw [e] at g
      refine em_c_eq (fun _ => ?_) (fun q => absurd rfl q)
      iterate 6 refine em_next rfl ?_
      exact g
    | some b =>
      rw [e] at g
      dsimp only at g
      have hb : b < k := em_ai_lt e
      have wwb := ww b
      rw [Bool.true_and] at g
      have hno2 : ∀ b, b < 9 → ¬ nI b = -2 := by decide +kernel
      refine em_c_eq (fun q => absurd q (hno2 b (by omega))) (fun _ => ?_)
      iterate 3 refine em_next rfl ?_
      refine em_c_geE (x' := nI (em_ww P X D kk j k)) rfl (y' := nI (em_ww P X D kk j b)) rfl (fun q => ?_) (fun q => ?_)
      · rw [decide_eq_false (Nat.not_lt.mpr ((nI_leI (by omega) (by omega)).mp q)), if_neg (by decide)] at g
        iterate 2 refine em_next rfl ?_
        exact g
      · rw [decide_eq_true (Nat.not_le.mp (fun z => q ((nI_leI (by omega) (by omega)).mpr z))), if_pos rfl] at g
        iterate 6 refine em_next rfl ?_
        exact g
theorem cq_look (hS : cl_S I lp P X) {T : Nat} (hT : cs_T I P.1 T D) {k n : Int32} (h : ∀ I' : Nat → Nat → Int32, em_fW I I' → cl_S I' lp P X → Q (some (.int (sp_look P X D T k n))) (em_SH, I', J, em_RT lw)) : em_call (d + 9) 158 [.ref 1, .int k, .int n] (em_SH, I, J, em_RT lw) Q := by
  have hn := hS.1.1.1
  have hp9 := em_pow9 hn
  have hT20 := hT.1.1
  unfold sp_look at h
  iterate 5 refine em_next rfl ?_
  refine em_tp hT.1.2 ?_
  refine em_inv_call rfl (ce_within (a := 0) ?_)
  iterate 1 refine em_next rfl ?_
  refine em_b_eq (fun g => ?_) (fun g => ?_)
  · rw [if_neg (fun q => g q.1)] at h
    iterate 1 refine em_next rfl ?_
    exact em_done rfl (h I em_fW.rf hS)
  iterate 3 refine em_next rfl ?_
  refine em_inv_call rfl (ce_within (a := 0) (b := 24) ?_)
  iterate 1 refine em_next rfl ?_
  refine em_b_ne (fun g2 => ?_) (fun g2 => ?_)
  · rw [if_pos ⟨g, g2⟩] at h
    obtain ⟨kk, hkk, rfl, ek⟩ := em_nat (m := T) (by omega) g.1 g.2
    obtain ⟨j, hj, rfl, ej⟩ := em_nat (m := 24) (by decide) g2.1 g2.2
    rw [ek, ej] at h
    have ct := em_ct_le (2 ^ P.1) (em_kn P X D kk)
    iterate 3 refine em_next rfl ?_
    refine em_inv_call rfl (ce_gather hS hT hkk (fun I1 a1 a2 a3 => ?_))
    iterate 3 refine em_next rfl ?_
    refine em_inv_call rfl ?_
    iterate 3 refine em_next rfl ?_
    refine em_inv_call rfl (ce_fill_rows_seenLeft ?_)
    have hr1 : ∀ c, c ≠ 283 → em_flr I1 283 9 0 c = I1 c := fun c hc => em_flr_row hc
    have f1 := a1.tr (em_fW.row (a := 283) (by decide) hr1)
    iterate 2 refine em_next rfl ?_
    refine ce_look_1 (d := d + 3) (D := D) (kk := kk) (n := j) (k := 0) (m := 2 ^ P.1) (a2.row (a := 283) (by decide) hr1) (by omega) (fun s hs => by rw [hr1 _ (by decide)]; exact a3.2 s hs) (by omega) (fun b hb => em_flr_at (by omega)) (fun I2 b1 b2 b3 b4 => ?_)
    have hkn : I2 281 6 = nI (em_ct (2 ^ P.1) (em_kn P X D kk)) := by
      rw [b3, hr1 _ (by decide)]
      exact a3.1.1
    have h := h I2 (f1.tr b1) b2
    by_cases hc : em_ct (2 ^ P.1) (em_kn P X D kk) = 0
    · rw [if_pos hc] at h
      iterate 6 refine em_next rfl ?_
      iterate 5 refine em_next rfl ?_
      refine em_c_geE rfl b2.mn (fun q => ?_) (fun q => ?_)
      · iterate 1 refine em_next rfl ?_
        refine em_done rfl ?_
        exact em_done rfl h
      · iterate 3 refine em_next rfl ?_
        refine em_z_leE hkn (fun q => ?_) (fun q => absurd (by rw [hc]; decide) q)
        iterate 1 refine em_next rfl ?_
        refine em_done rfl ?_
        exact em_done rfl h
    · rw [if_neg hc] at h
      iterate 6 refine em_next rfl ?_
      exact ce_look_2 (d := d + 3) (k := 0) (m := P.1) (kk := kk) (j := j) b2 rfl hkn b4 (by omega) (by omega) (em_done rfl h)
  · rw [if_neg (fun q => g2 q.2)] at h
    iterate 1 refine em_next rfl ?_
    exact em_done rfl (h I em_fW.rf hS)
end CQ9
