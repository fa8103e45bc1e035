/-! the reference: what is done, two -/
section MCH2
variable {d lw lv : Nat} {p : em_Pn} {W W' : em_Wt} {u : Nat} {H : Nat → em_Wt} {hl : Nat → Bool} {S : Nat → em_Wt} {T : Nat} {D : em_Td} {L : Nat} {tp : Nat → Int32} {pc : Int32} {I I0 : Nat → Nat → Int32} {J : Nat → Nat → Int64} {Q : Option Value → em_M → Prop} {B : Nat}
theorem mr.sw {g g' : Nat → Int32} {n bg a b : Nat} (h : mr g n bg W) (hn : n ≤ 9) (ha : a < n) (hb : b < n) (he : ∀ j, g' j = em_chg g a b 5 j) : mr g' n bg (ew_change a b W) := by
  obtain ⟨⟨m1, m2, m3, m4, m5⟩, m6, m7⟩ := h
  have hi : ∀ j, 45 ≤ j → g' j = g j := fun j hj => by rw [he]; exact if_neg (by omega)
  have lo : ∀ k j, k < 5 → j < 9 → g' (9 * k + j) = ey_sw (fun j => g (9 * k + j)) a b j := fun k j hk hj => by rw [he]; exact em_chg_at hk hj (by omega) (by omega)
  have sw : ∀ (v w : Nat → Int32) (j : Nat), j < n → (∀ i, i < n → v i = w i) → ey_sw v a b j = ey_sw w a b j := fun v w j hj hv => by
    unfold ey_sw
    split
    · exact hv b hb
    · split
      · exact hv a ha
      · exact hv j hj
  refine ⟨⟨em_swr_lt hn m1 ha hb, by rw [hi _ (by decide)]; exact m2, by rw [hi _ (by decide)]; exact m3, by rw [hi _ (by decide)]; exact m4, m5⟩, fun j hj => ⟨?_, ?_, ?_, ?_, ?_⟩, fun j hj hj2 => ⟨?_, ?_⟩⟩
  · have e := lo 0 j (by decide) (by omega)
    rw [show 9 * 0 + j = j by omega] at e
    rw [e]
    refine (sw _ (em_bit W.1) j hj (fun i hi => ?_)).trans (em_swr_bit (by omega)).symm
    rw [show 9 * 0 + i = i by omega]
    exact (m6 i hi).1
  · exact (lo 1 j (by decide) (by omega)).trans (sw _ _ j hj (fun i hi => (m6 i hi).2.1))
  · exact (lo 2 j (by decide) (by omega)).trans (sw _ _ j hj (fun i hi => (m6 i hi).2.2.1))
  · exact (lo 3 j (by decide) (by omega)).trans (sw _ _ j hj (fun i hi => (m6 i hi).2.2.2.1))
  · exact (lo 4 j (by decide) (by omega)).trans (sw _ _ j hj (fun i hi => (m6 i hi).2.2.2.2))
  · refine (lo 1 j (by decide) hj2).trans ?_
    unfold ey_sw
    rw [if_neg (by omega), if_neg (by omega)]
    exact (m7 j hj hj2).1
  · refine (lo 4 j (by decide) hj2).trans ?_
    unfold ey_sw
    rw [if_neg (by omega), if_neg (by omega)]
    exact (m7 j hj hj2).2
abbrev ok_ch (p : em_Pn) (W : em_Wt) (a b : Int32) : Prop := em_okB (eq_P p W) a ∧ em_okB (eq_P p W) b ∧ ¬ a = b
theorem ma_change (hM : MI I lv p W u H hl S T D L tp pc) {a b : Int32} (h : ∀ I' : Nat → Nat → Int32, (∀ a, a < 284 → I' a = I a) → (ok_ch p W a b → MI I' lv p (ew_change a.toNatClampNeg b.toNatClampNeg W) (eh_u u) (eh_H u H W) hl S T D L tp pc) → (¬ ok_ch p W a b → MI I' lv p W u H hl S T D L tp pc) → Q (some (.int (em_bo (ok_ch p W a b)))) (em_SH, I', J, em_RT lw)) : em_call (d + 3) 231 [.ref 284, .int a, .int b] (em_SH, I, J, em_RT lw) Q := by
  have hn := hM.1.1.2.1
  have no : ¬ ok_ch p W a b → Q (some (.int 0)) (em_SH, I, J, em_RT lw) := fun g => by
    have g2 := h I (fun _ _ => rfl) (fun z => absurd z g) (fun _ => hM)
    rw [em_bo_f g] at g2
    exact g2
  iterate 2 refine em_next rfl ?_
  refine em_inv_call rfl (me_isBed hM.1 ?_)
  iterate 1 refine em_next rfl ?_
  refine em_b_eq (fun g => ?_) (fun g => ?_)
  · iterate 1 refine em_next rfl ?_
    exact em_done rfl (no (fun z => g z.1))
  iterate 2 refine em_next rfl ?_
  refine em_inv_call rfl (me_isBed hM.1 ?_)
  iterate 1 refine em_next rfl ?_
  refine em_b_eq (fun g2 => ?_) (fun g2 => ?_)
  · iterate 1 refine em_next rfl ?_
    exact em_done rfl (no (fun z => g2 z.2.1))
  iterate 3 refine em_next rfl ?_
  refine em_c_ne (fun g3 => ?_) (fun g3 => ?_)
  · have gg : ok_ch p W a b := ⟨g, g2, g3⟩
    have hb1 := h
    obtain ⟨s, hs, rfl, es⟩ := em_bedN hn g
    obtain ⟨t, ht, rfl, et⟩ := em_bedN hn g2
    iterate 1 refine em_next rfl ?_
    refine em_inv_call rfl (mc_copies hM (fun I1 a1 a2 a3 _ _ => ?_))
    iterate 3 refine em_next rfl ?_
    refine em_inv_call rfl (me_changes (by omega) (by omega) (fun e => g3 (by rw [e])) (fun I2 b1 b2 => ?_))
    iterate 1 refine em_next rfl ?_
    refine em_inv_call rfl (ma_records (W' := ew_change s t W) (a2.keepQ (em_fQ.row (a := 315) (by decide) b1)) (a3.sw hn hs ht b2) (fun I' c1 c2 => ?_))
    iterate 1 refine em_next rfl ?_
    have g5 := h I' (fun a ha => by rw [c1 a ha, b1 a (by omega), a1.lo a ha]) (fun _ => by rw [es, et]; exact c2) (fun z => absurd gg z)
    rw [em_bo_t gg] at g5
    exact em_done rfl g5
  · iterate 1 refine em_next rfl ?_
    exact em_done rfl (no (fun z => z.2.2 g3))
theorem ma_hours (hM : MI I lv p W u H hl S T D L tp pc) (hB : W.2.1 + 1000 < 1000000) {n : Int32} (h : ∀ I' : Nat → Nat → Int32, (∀ a, a < 284 → I' a = I a) → (em_ok 0 48 n ∧ ¬ n = 0 → MI I' lv p (ew_hours p n.toNatClampNeg W) (eh_u u) (eh_H u H W) hl S T D L tp pc) → (¬ (em_ok 0 48 n ∧ ¬ n = 0) → MI I' lv p W u H hl S T D L tp pc) → Q (some (.int (if em_ok 0 48 n then nI (W.2.1 + n.toNatClampNeg) else -1))) (em_SH, I', J, em_RT lw)) : em_call (d + 8) 234 [.ref 284, .int n] (em_SH, I, J, em_RT lw) Q := by
  have hn := hM.1.1.2.1
  iterate 1 refine em_next rfl ?_
  refine em_inv_call rfl (me_isLong ?_)
  iterate 1 refine em_next rfl ?_
  refine em_b_ne (fun g => ?_) (fun g => ?_)
  · rw [if_pos g] at h
    iterate 2 refine em_next rfl ?_
    refine em_z_ne (fun z => ?_) (fun z => ?_)
    · obtain ⟨m, hm, rfl, em⟩ := em_nat (m := 48) (by decide) g.1 g.2
      rw [em] at h
      iterate 1 refine em_next rfl ?_
      refine em_inv_call rfl (mc_copies hM (fun I1 a1 a2 a3 a4 a5 => ?_))
      iterate 2 refine em_next rfl ?_
      refine em_inv_call rfl (me_goes (P := eq_P p W) (X := eq_X W) (stl := false) (sd := p.2.2.2.2.1) a2.1 (by omega) hB ⟨⟨a3.1.1, by show W.2.1 < 1000000; omega, a3.1.2.1⟩, fun b hb => ⟨(a3.2.1 b hb).1, (a3.2.1 b hb).2.1, (a3.2.1 b hb).2.2.2.1⟩⟩ a5 a4 (fun I2 b1 b2 b3 b4 b5 b6 b7 => ?_))
      have hh := em_it_h (eq_P p W) false p.2.2.2.2.1 m (eq_X W)
      have hr : mr (I2 315) p.1 p.2.2.2.2.2 (ew_hours p m W) := by
        obtain ⟨⟨m1, m2, m3, m4, m5⟩, m6, m7⟩ := a3
        refine ⟨⟨b2.1.1, b2.1.2.2, ?_, ?_, ?_⟩, fun b hb => ⟨(b2.2 b hb).1, (b2.2 b hb).2.1, ?_, (b2.2 b hb).2.2, ?_⟩, fun b hb hb2 => ⟨?_, ?_⟩⟩
        · rw [b5, m3]; rfl
        · rw [b6, m4, ← em_nadd]
          show nI (W.2.1 - p.2.2.2.2.2 + m) = nI ((em_it (eq_P p W) false p.2.2.2.2.1 m (eq_X W)).2.1 - p.2.2.2.2.2)
          rw [hh]
          congr 1
          show W.2.1 - p.2.2.2.2.2 + m = W.2.1 + m - p.2.2.2.2.2
          omega
        · show p.2.2.2.2.2 ≤ (em_it (eq_P p W) false p.2.2.2.2.1 m (eq_X W)).2.1
          rw [hh]
          show p.2.2.2.2.2 ≤ W.2.1 + m
          omega
        · rw [b7 _ (by show p.1 ≤ 18 + b; omega) (by show ¬ (27 ≤ 18 + b ∧ 18 + b < 27 + p.1); omega) (by omega)]
          exact (m6 b hb).2.2.1
        · rw [b7 _ (by show p.1 ≤ 36 + b; omega) (by show ¬ (27 ≤ 36 + b ∧ 36 + b < 27 + p.1); omega) (by omega)]
          exact (m6 b hb).2.2.2.2
        · rw [b7 _ (by show p.1 ≤ 9 + b; omega) (by show ¬ (27 ≤ 9 + b ∧ 9 + b < 27 + p.1); omega) (by omega)]
          exact (m7 b hb hb2).1
        · rw [b7 _ (by show p.1 ≤ 36 + b; omega) (by show ¬ (27 ≤ 36 + b ∧ 36 + b < 27 + p.1); omega) (by omega)]
          exact (m7 b hb hb2).2
      iterate 1 refine em_next rfl ?_
      refine em_inv_call rfl (ma_records (W' := ew_hours p m W) (a2.keepQ b1.Q) hr (fun I' c1 c2 => ?_))
      iterate 3 refine em_next rfl ?_
      refine em_ialE (k := 45) rfl rfl rfl (by decide) (by decide) ?_
      refine em_doneE rfl (y := nI (W.2.1 + m)) (c2.2.2.1.1.2.1.trans (congrArg nI hh)) ?_
      exact h I' (fun a ha => by rw [c1 a ha, b1.lo a ha, a1.lo a ha]) (fun _ => c2) (fun q => absurd ⟨g, z⟩ q)
    · subst z
      iterate 3 refine em_next rfl ?_
      refine em_ialE (k := 45) rfl rfl rfl (by decide) (by decide) ?_
      exact em_doneE rfl hM.2.2.1.1.2.1 (h I (fun _ _ => rfl) (fun q => absurd rfl q.2) (fun _ => hM))
  · rw [if_neg g] at h
    iterate 1 refine em_next rfl ?_
    exact em_done rfl (h I (fun _ _ => rfl) (fun q => absurd q.1 g) (fun _ => hM))
theorem me_undo_l {u1 k m : Nat} (hu : u1 < 40) (hU : I0 284 53 = nI u1) (hk : k + m = 48) (h0 : ∀ c, c ≠ 314 → I c = I0 c) (h1 : ∀ j, j < k → I 314 j = I0 318 (48 * u1 + j)) (h : ∀ I' : Nat → Nat → Int32, (∀ c, c ≠ 314 → I' c = I0 c) → (∀ j, j < 48 → I' 314 j = I0 318 (48 * u1 + j)) → Q (some (.int 1)) (em_SH, I', J, em_RT lw)) : em_wp em_sc0 d 235 21 [some (.ref 284), some (.int (nI k))] [] (em_SH, I, J, em_RT lw) Q := by
  induction m generalizing k I with
  | zero =>
    have e : k = 48 := by omega
    subst e
    iterate 3 refine em_next rfl ?_
    refine em_c_ge (fun _ => ?_) (fun h1 => absurd (by decide) h1)
    iterate 1 refine em_next rfl ?_
    exact em_done rfl (h I h0 h1)
  | succ m ih =>
    have hU1 : I 284 53 = nI u1 := by rw [h0 _ (by decide)]; exact hU
    iterate 3 refine em_next rfl ?_
    refine em_c_ge (fun h1 => absurd h1 (nI_ge (b := 48) (by omega) (by decide))) (fun _ => ?_)
    iterate 11 refine em_next rfl ?_
    refine em_ialE (k := 48 * u1 + k) rfl rfl (em_idxE (c := 48) hU1) (by omega) (by decide) ?_
    refine em_iasn rfl rfl (by omega) (by decide) ?_
    iterate 2 refine em_next rfl ?_
    have g := ih (k := k + 1) (I := em_u I 314 k (I 318 (48 * u1 + k))) (by omega) (fun c hc => by rw [em_u_row hc]; exact h0 c hc) (fun j hj => by
      by_cases e : j = k
      · subst e
        rw [em_u_self, h0 _ (by decide)]
      · rw [em_u_ne e]
        exact h1 j (by omega))
    rw [nI_succ] at g
    exact g
theorem em_pred1 {u : Nat} (hu : 0 < u) : nI u - 1 = nI (u - 1) := em_pred hu
theorem ma_undo (hM : MI I lv p W u H hl S T D L tp pc) (h : ∀ I' : Nat → Nat → Int32, (∀ a, a < 284 → I' a = I a) → (¬ u = 0 → MI I' lv p (H (u - 1)) (u - 1) H hl S T D L tp pc) → (u = 0 → MI I' lv p W u H hl S T D L tp pc) → Q (some (.int (em_bo (¬ u = 0)))) (em_SH, I', J, em_RT lw)) : em_call (d + 1) 235 [.ref 284] (em_SH, I, J, em_RT lw) Q := by
  obtain ⟨h1, h2, h3, ⟨h4, h5, h6⟩, h7, h8, h9, h10⟩ := id hM
  have hn := h1.1.2.1
  iterate 3 refine em_next rfl ?_
  refine em_z_neE h5 (fun g => ?_) (fun g => ?_)
  · have g0 : ¬ u = 0 := fun e => g (by rw [e]; rfl)
    iterate 8 refine em_next rfl ?_
    show em_wp em_sc0 (d + 1) 235 _ _ _ (em_SH, em_u I 284 53 (I 284 53 - 1), J, em_RT lw) Q
    refine me_undo_l (u1 := u - 1) (k := 0) (m := 48) (I0 := em_u I 284 53 (I 284 53 - 1)) (by omega) (by rw [em_u_self, h5, em_pred1 (by omega)]) (by omega) (fun _ _ => rfl) (fun j hj => absurd hj (Nat.not_lt_zero _)) (fun I' b1 b2 => ?_)
    have k1 : ∀ c, c ∉ [284, 314] → I' c = I c := fun c hc => by rw [b1 c (fun q => hc (by rw [q]; decide)), em_u_row (fun q => hc (by rw [q]; decide))]
    have k2 : ∀ j, j ≠ 53 → I' 284 j = I 284 j := fun j hj => by rw [b1 _ (by decide), em_u_ne hj]
    have g2 := h I' (fun a ha => k1 a (by simp; omega)) (fun _ => ⟨h1.keepG (k2 _ (by decide)) (fun a ha => k1 a (by revert a; decide)), by rw [k1 _ (by decide)]; exact h2, (h6 (u - 1) (by omega)).keep hn (fun j hj => by rw [b2 j hj, em_u_row (by decide)]), ⟨by omega, by rw [b1 _ (by decide), em_u_self, h5, em_pred1 (by omega)], fun i hi => by rw [k1 _ (by decide)]; exact h6 i (by omega)⟩, by rw [k1 326 (by decide), k1 327 (by decide)]; exact h7, by
      unfold mo_T
      rw [k1 322 (by decide), k1 323 (by decide), k1 324 (by decide), k2 _ (by decide)]
      exact h8, by rw [k1 285 (by decide), k2 _ (by decide)]; exact h9, (k2 _ (by decide)).trans h10⟩) (fun z => absurd z g0)
    rw [em_bo_t g0] at g2
    exact g2
  · have g0 : u = 0 := (nI_eq (b := 0) (by omega) (by decide)).mp g
    iterate 1 refine em_next rfl ?_
    have g2 := h I (fun _ _ => rfl) (fun z => absurd g0 z) (fun _ => hM)
    rw [em_bo_f (fun z => z g0)] at g2
    exact em_done rfl g2
abbrev ok_tl (p : em_Pn) (W : em_Wt) (T : Nat) (b n : Int32) : Prop := ¬ T = 20 ∧ em_okB (eq_P p W) b ∧ em_ok 0 24 n
def ed_tl (D : em_Td) (T b n : Nat) (l : Bool) : em_Td := ((fun i => if i = T then b else D.1 i), (fun i => if i = T then n else D.2.1 i), (fun i => if i = T then l else D.2.2 i))
theorem em_nadd1 (T : Nat) : nI (T + 1) - 1 = nI T := nI_pred T
theorem ma_tell (hM : MI I lv p W u H hl S T D L tp pc) {b n : Int32} {l : Bool} (h : ∀ I' : Nat → Nat → Int32, (∀ a, a < 284 → I' a = I a) → (ok_tl p W T b n → MI I' lv p W u H hl S (T + 1) (ed_tl D T b.toNatClampNeg n.toNatClampNeg l) L tp pc) → (¬ ok_tl p W T b n → MI I' lv p W u H hl S T D L tp pc) → Q (some (.int (if ok_tl p W T b n then nI T else -1))) (em_SH, I', J, em_RT lw)) : em_call (d + 3) 269 [.ref 284, .int b, .int n, .int (em_bb l)] (em_SH, I, J, em_RT lw) Q := by
  obtain ⟨h1, h2, h3, ⟨h4, h5, h6⟩, h7, ⟨⟨t1, t2⟩, t3⟩, h9, h10⟩ := id hM
  have hn := h1.1.2.1
  have no : ¬ ok_tl p W T b n → Q (some (.int (-1))) (em_SH, I, J, em_RT lw) := fun g => by
    have g2 := h I (fun _ _ => rfl) (fun z => absurd z g) (fun _ => hM)
    rw [if_neg g] at g2
    exact g2
  iterate 4 refine em_next rfl ?_
  refine em_c_eqE t2 (y' := nI 20) rfl (fun g => ?_) (fun g => ?_)
  · iterate 1 refine em_next rfl ?_
    exact em_done rfl (no (fun z => z.1 ((nI_eq (by omega) (by decide)).mp g)))
  have g0 : ¬ T = 20 := fun e => g (by rw [e])
  iterate 2 refine em_next rfl ?_
  refine em_inv_call rfl (me_isBed h1 ?_)
  iterate 1 refine em_next rfl ?_
  refine em_b_eq (fun g1 => ?_) (fun g1 => ?_)
  · iterate 1 refine em_next rfl ?_
    exact em_done rfl (no (fun z => g1 z.2.1))
  iterate 1 refine em_next rfl ?_
  refine em_inv_call rfl (me_isShort ?_)
  iterate 1 refine em_next rfl ?_
  refine em_b_ne (fun g2 => ?_) (fun g2 => ?_)
  · have gg : ok_tl p W T b n := ⟨g0, g1, g2⟩
    rw [if_pos gg] at h
    obtain ⟨s, hs, rfl, es⟩ := em_bedN hn g1
    obtain ⟨t, ht, rfl, et⟩ := em_nat (m := 24) (by decide) g2.1 g2.2
    rw [es, et] at h
    iterate 5 refine em_next rfl ?_
    refine em_iasE (k := T) rfl rfl t2 (by omega) (by decide) ?_
    iterate 5 refine em_next rfl ?_
    refine em_iasE (k := T) rfl rfl t2 (by omega) (by decide) ?_
    have fin : em_wp em_sc0 (d + 3) 269 63 [some (.ref 284), some (.int (nI s)), some (.int (nI t)), some (.int (em_bb l))] [.int (em_bb l), .int (I 284 58), .ref 324] (em_SH, em_u (em_u I 322 T (nI s)) 323 T (nI t), J, em_RT lw) Q := by
      refine em_iasE (k := T) rfl rfl t2 (by omega) (by decide) ?_
      iterate 10 refine em_next rfl ?_
      refine em_doneE rfl (y := nI T) ?_ ?_
      · show I 284 58 + 1 - 1 = nI T
        rw [t2, ← nI_succ, em_nadd1]
      show Q (some (.int (nI T))) (em_SH, em_u (em_u (em_u (em_u I 322 T (nI s)) 323 T (nI t)) 324 T (em_bb l)) 284 58 (I 284 58 + 1), J, em_RT lw)
      have k1 : ∀ c, c ∉ [284, 322, 323, 324] → em_u (em_u (em_u (em_u I 322 T (nI s)) 323 T (nI t)) 324 T (em_bb l)) 284 58 (I 284 58 + 1) c = I c := fun c hc => by rw [em_u_row (fun q => hc (by rw [q]; decide)), em_u_row (fun q => hc (by rw [q]; decide)), em_u_row (fun q => hc (by rw [q]; decide)), em_u_row (fun q => hc (by rw [q]; decide))]
      have k2 : ∀ j, j ≠ 58 → em_u (em_u (em_u (em_u I 322 T (nI s)) 323 T (nI t)) 324 T (em_bb l)) 284 58 (I 284 58 + 1) 284 j = I 284 j := fun j hj => by rw [em_u_ne hj, em_u_row (by decide), em_u_row (by decide), em_u_row (by decide)]
      refine h _ (fun a ha => k1 a (by simp; omega)) (fun _ => ⟨h1.keepG (k2 _ (by decide)) (fun a ha => k1 a (by revert a; decide)), by rw [k1 _ (by decide)]; exact h2, by rw [k1 _ (by decide)]; exact h3, ⟨h4, (k2 _ (by decide)).trans h5, by rw [k1 _ (by decide)]; exact h6⟩, by rw [k1 326 (by decide), k1 327 (by decide)]; exact h7, ⟨⟨by omega, by rw [em_u_self, t2, nI_succ]⟩, fun i hi => ?_⟩, by rw [k1 285 (by decide), k2 _ (by decide)]; exact h9, (k2 _ (by decide)).trans h10⟩) (fun z => absurd gg z)
      unfold ed_tl
      dsimp only
      by_cases e : i = T
      · subst e
        rw [if_pos rfl, if_pos rfl, if_pos rfl]
        refine ⟨?_, ?_, ?_, hs, ht⟩
        · rw [em_u_row (by decide), em_u_row (by decide), em_u_row (by decide), em_u_self]
        · rw [em_u_row (by decide), em_u_row (by decide), em_u_self]
        · rw [em_u_row (by decide), em_u_self]
      · rw [if_neg e, if_neg e, if_neg e]
        refine ⟨?_, ?_, ?_, (t3 i (by omega)).2.2.2⟩
        · rw [em_u_row (by decide), em_u_row (by decide), em_u_row (by decide), em_u_ne e]; exact (t3 i (by omega)).1
        · rw [em_u_row (by decide), em_u_row (by decide), em_u_ne e, em_u_row (by decide)]; exact (t3 i (by omega)).2.1
        · rw [em_u_row (by decide), em_u_ne e, em_u_row (by decide), em_u_row (by decide)]; exact (t3 i (by omega)).2.2.1
    iterate 6 refine em_next rfl ?_
    cases l with
    | false =>
      refine em_z_eq (fun _ => ?_) (fun q => absurd rfl q)
      iterate 1 refine em_next rfl ?_
      exact fin
    | true =>
      refine em_z_eq (fun q => absurd q (by decide)) (fun _ => ?_)
      iterate 2 refine em_next rfl ?_
      exact fin
  · iterate 1 refine em_next rfl ?_
    exact em_done rfl (no (fun z => g2 z.2.2))
theorem ma_forget (hM : MI I lv p W u H hl S T D L tp pc) (h : ∀ I' : Nat → Nat → Int32, (∀ a, a < 284 → I' a = I a) → MI I' lv p W u H hl S 0 D L tp pc → Q (some (.int (nI T))) (em_SH, I', J, em_RT lw)) : em_call d 270 [.ref 284] (em_SH, I, J, em_RT lw) Q := by
  obtain ⟨h1, h2, h3, ⟨h4, h5, h6⟩, h7, ⟨⟨t1, t2⟩, t3⟩, h9, h10⟩ := hM
  iterate 7 refine em_next rfl ?_
  refine em_doneE rfl t2 ?_
  show Q (some (.int (nI T))) (em_SH, em_u I 284 58 0, J, em_RT lw)
  have k1 : ∀ c, c ≠ 284 → em_u I 284 58 0 c = I c := fun c hc => em_u_row hc
  have k2 : ∀ j, j ≠ 58 → em_u I 284 58 0 284 j = I 284 j := fun j hj => em_u_ne hj
  exact h _ (fun a ha => k1 a (by omega)) ⟨h1.keepG (k2 _ (by decide)) (fun a ha => k1 a (by revert a; decide)), by rw [k1 _ (by decide)]; exact h2, by rw [k1 _ (by decide)]; exact h3, ⟨h4, (k2 _ (by decide)).trans h5, by rw [k1 _ (by decide)]; exact h6⟩, by rw [k1 326 (by decide), k1 327 (by decide)]; exact h7, ⟨⟨Nat.zero_le _, em_u_self⟩, fun i hi => absurd hi (Nat.not_lt_zero _)⟩, by rw [k1 285 (by decide), k2 _ (by decide)]; exact h9, (k2 _ (by decide)).trans h10⟩
end MCH2
