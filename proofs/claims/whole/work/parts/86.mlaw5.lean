/-! the reference is told a law, three -/
section MLAW5
variable {d lw : Nat} {b : Nat → Nat} {L nT sd C0 B0 k : Nat} {I I0 I' I'' : Nat → Nat → Int32} {J J0 J' J'' : Nat → Nat → Int64} {M : em_M} {Q : Option Value → em_M → Prop}
theorem me_tl_ifs {i m t C : Nat} {ds : List ek_br} (him : i + m = 4) (hsd : sd < 2) (hk4 : k < 4) (hx : mx b L nT I0 J) (hside : I0 284 19 = nI sd) (hm : mat b L t I) (ho : I 284 12 = nI 0) (hcd : I 284 39 = nI (420 * sd + C)) (hC : C ≤ t) (hC0 : C0 ≤ C) (hbr : I 284 33 = nI (130 * sd + (B0 + ds.length))) (hb4 : 4 * (B0 + ds.length) + 2 ≤ t) (hl : lf sd C0 B0 k I0 I) (hds : mbl I (420 * sd) (420 * sd + C) (130 * sd + B0) ds) (h : lO b L sd C0 B0 k lw I0 J Q ds (tl_ifs (tk_K b L) (tk_V b L) m t)) : em_wp em_sc0 (d + 5) 193 12 [some (.ref 284), some (.int (nI k)), some (.int (nI (130 * sd + B0))), some (.int (nI i))] [] (em_SH, I, J, em_RT lw) Q := by
  induction m generalizing i t C ds I with
  | zero =>
    have e : i = 4 := by omega
    subst e
    rw [tl_ifs] at h
    iterate 3 refine em_next rfl ?_
    refine em_z_neE hm.2.2.2 (fun z => absurd rfl z) (fun _ => ?_)
    iterate 2 refine em_next rfl ?_
    refine em_inv_call rfl (me_is (k := 29) (hl.x hx) hm (by decide) (fun z => ?_) (fun z => ?_))
    · rw [if_pos z] at h
      iterate 1 refine em_next rfl ?_
      refine em_z_eq (fun z => absurd z (by decide)) (fun _ => ?_)
      iterate 3 refine em_next rfl ?_
      refine em_c_ne (fun z => absurd rfl z) (fun _ => ?_)
      iterate 2 refine em_next rfl ?_
      refine em_inv_call rfl (me_fail (k := 2) (hl.x hx) hm (by decide) (by decide) (fun I1 a1 a2 _ => ?_))
      iterate 3 refine em_next rfl ?_
      refine em_z_leE a2.1 (fun z => absurd z a2.gt) (fun _ => ?_)
      exact em_done rfl (h I1 (hl.g a1) a2)
    · rw [if_neg z] at h
      iterate 1 refine em_next rfl ?_
      refine em_z_eq (fun _ => ?_) (fun z => absurd rfl z)
      exact me_tl_end hsd hk4 hx hside hm ho hcd hC hC0 hbr hb4 hl hds h
  | succ m ih =>
    have ht := hm.1
    rw [tl_ifs] at h
    iterate 3 refine em_next rfl ?_
    refine em_z_neE hm.2.2.2 (fun z => absurd rfl z) (fun _ => ?_)
    iterate 2 refine em_next rfl ?_
    refine em_inv_call rfl (me_is (k := 29) (hl.x hx) hm (by decide) (fun z => ?_) (fun z => ?_))
    rotate_left
    · rw [if_neg z] at h
      iterate 1 refine em_next rfl ?_
      refine em_z_eq (fun _ => ?_) (fun z => absurd rfl z)
      exact me_tl_end hsd hk4 hx hside hm ho hcd hC hC0 hbr hb4 hl hds h
    rw [if_pos z] at h
    unfold tl_br at h
    have hb : ∀ a ∈ brows, a ≠ 284 ∧ a ≠ 309 ∧ a ≠ 310 ∧ a ∉ [284, 311, 309, 310] := by decide
    iterate 1 refine em_next rfl ?_
    refine em_z_eq (fun z => absurd z (by decide)) (fun _ => ?_)
    iterate 3 refine em_next rfl ?_
    refine em_c_neE rfl (y' := nI 4) rfl (fun _ => ?_) (fun z => absurd ((nI_eq (by omega) (by decide)).mp z) (by omega))
    iterate 3 refine em_next rfl ?_
    refine em_z_leE hm.2.2.2 (fun _ => ?_) (fun z => absurd (by decide) z)
    iterate 2 refine em_next rfl ?_
    -- hasTest and testFrom are written, fault or not
    have wr : ∀ (K : Nat → Nat → Int32), K 284 33 = nI (130 * sd + (B0 + ds.length)) → em_wp em_sc0 (d + 5) 193 76 [some (.ref 284), some (.int (nI k)), some (.int (nI (130 * sd + B0))), some (.int (nI i + 1))] [] (em_SH, em_u (em_u K 304 (130 * sd + (B0 + ds.length)) 1) 305 (130 * sd + (B0 + ds.length)) (K 284 39), J, em_RT lw) Q → em_wp em_sc0 (d + 5) 193 53 [some (.ref 284), some (.int (nI k)), some (.int (nI (130 * sd + B0))), some (.int (nI i + 1))] [] (em_SH, K, J, em_RT lw) Q := fun K k1 k2 => by
      iterate 5 refine em_next rfl ?_
      refine em_basE (k := 130 * sd + (B0 + ds.length)) (y := 1) rfl rfl k1 (by omega) (by decide) rfl ?_
      iterate 6 refine em_next rfl ?_
      refine em_iasE (k := 130 * sd + (B0 + ds.length)) rfl rfl (by show em_u K 304 (130 * sd + (B0 + ds.length)) 1 284 33 = _; rw [em_u_row (by decide)]; exact k1) (by omega) (by decide) ?_
      exact k2
    refine em_inv_call rfl (me_goesOn (hl.x hx) hm (by omega) (fun y I1 a1 a2 => ?_) (fun y I1 a1 a2 => ?_))
    rotate_left
    · rw [show tl_acc t none = .inl (2, t) from if_neg y, tl_b_inl, tl_b_inl] at h
      have b1 : I1 284 33 = nI (130 * sd + (B0 + ds.length)) := (a1.2 _ (by decide)).trans hbr
      refine wr I1 b1 ?_
      have l1 := ((hl.g a1).u (a := 304) (i := 130 * sd + (B0 + ds.length)) (x := 1) (by decide) (by omega)).u (a := 305) (i := 130 * sd + (B0 + ds.length)) (x := I1 284 39) (by decide) (by omega)
      have q1 : ∀ j, em_u (em_u I1 304 (130 * sd + (B0 + ds.length)) 1) 305 (130 * sd + (B0 + ds.length)) (I1 284 39) 284 j = I1 284 j := fun j => by rw [em_u_row (by decide), em_u_row (by decide)]
      generalize em_u (em_u I1 304 (130 * sd + (B0 + ds.length)) 1) 305 (130 * sd + (B0 + ds.length)) (I1 284 39) = K at l1 q1 ⊢
      iterate 1 refine em_next rfl ?_
      refine em_inv_call rfl (me_expression_b (a2.keep (q1 _) (q1 _)) ?_)
      have q2 : ∀ j, j ≠ 43 → em_u K 284 43 0 284 j = I1 284 j := fun j hj => by rw [em_u_ne hj]; exact q1 j
      exact me_tlb_l (B := B0 + ds.length) hsd (a2.keep (q2 _ (by decide)) (q2 _ (by decide))) (by omega) (by omega) ((q2 _ (by decide)).trans b1) (l1.m (by decide)) h
    rw [show tl_acc t none = .inr (t + 1, none) from if_pos y, tl_b_inr] at h
    have b1 : I1 284 33 = nI (130 * sd + (B0 + ds.length)) := (a1.2 _ (by decide)).trans hbr
    have cd1 : I1 284 39 = nI (420 * sd + C) := (a1.2 _ (by decide)).trans hcd
    have o1 : I1 284 12 = nI 0 := (a1.2 _ (by decide)).trans ho
    refine wr I1 b1 ?_
    rw [cd1]
    have l1 := ((hl.g a1).u (a := 304) (i := 130 * sd + (B0 + ds.length)) (x := 1) (by decide) (by omega)).u (a := 305) (i := 130 * sd + (B0 + ds.length)) (x := nI (420 * sd + C)) (by decide) (by omega)
    have q1 : ∀ j, em_u (em_u I1 304 (130 * sd + (B0 + ds.length)) 1) 305 (130 * sd + (B0 + ds.length)) (nI (420 * sd + C)) 284 j = I1 284 j := fun j => by rw [em_u_row (by decide), em_u_row (by decide)]
    have hT1 : em_u (em_u I1 304 (130 * sd + (B0 + ds.length)) 1) 305 (130 * sd + (B0 + ds.length)) (nI (420 * sd + C)) 304 (130 * sd + (B0 + ds.length)) = 1 := by rw [em_u_row (by decide), em_u_self]
    have fT1 : em_u (em_u I1 304 (130 * sd + (B0 + ds.length)) 1) 305 (130 * sd + (B0 + ds.length)) (nI (420 * sd + C)) 305 (130 * sd + (B0 + ds.length)) = nI (420 * sd + C) := em_u_self
    have ds1 : mbl (em_u (em_u I1 304 (130 * sd + (B0 + ds.length)) 1) 305 (130 * sd + (B0 + ds.length)) (nI (420 * sd + C))) (420 * sd) (420 * sd + C) (130 * sd + B0) ds := hds.kp (Nat.le_refl _) (fun j _ _ => by rw [em_u_row (by decide), em_u_row (by decide), em_u_row (by decide), em_u_row (by decide), a1.1 _ (by decide), a1.1 _ (by decide)]; exact ⟨rfl, rfl⟩) (fun a ha j z1 z2 => by
      have e3 : ∀ (K : Nat → Nat → Int32) c (x : Int32), em_u K c (130 * sd + (B0 + ds.length)) x a j = K a j := fun K c x => by
        by_cases e : a = c
        · subst e; rw [em_u_ne (by omega)]
        · rw [em_u_row e]
      rw [e3, e3, a1.1 a (hb a ha).1])
    generalize em_u (em_u I1 304 (130 * sd + (B0 + ds.length)) 1) 305 (130 * sd + (B0 + ds.length)) (nI (420 * sd + C)) = K1 at l1 q1 hT1 fT1 ds1 ⊢
    iterate 1 refine em_next rfl ?_
    refine em_inv_call rfl (me_expression (sd := sd) (C0 := C) hsd (l1.x hx) (a2.keep (q1 _) (q1 _)) ((q1 _).trans o1) ((q1 _).trans cd1) (by omega) (fun w1 e1 g1 g2 g3 I2 c1 c2 c3 c4 c5 => ?_) (fun e e1 I2 c1 c2 => ?_))
    rotate_left
    · rw [e1, tl_b_inl, tl_b_inl] at h
      exact me_tlb_l (B := B0 + ds.length) hsd c2 (by omega) (by omega) (by rw [c1.2.1 _ (by decide), q1]; exact b1) (l1.e c1 hC0) h
    rw [e1, tl_b_inr] at h
    have l2 := l1.e c1 hC0
    have b2 : I2 284 33 = nI (130 * sd + (B0 + ds.length)) := by rw [c1.2.1 _ (by decide), q1]; exact b1
    have rw2 : ∀ a ∈ brows, I2 a = K1 a := fun a ha => c1.1 a (hb a ha).2.2.2
    iterate 2 refine em_next rfl ?_
    refine em_inv_call rfl (me_must (k := 13) (l2.x hx) c2 (by decide) (by decide) (by decide) (fun z1 z2 e2 I3 d1 d2 => ?_) (fun e e2 I3 d1 d2 => ?_))
    rotate_left
    · rw [e2, tl_b_inl, tl_b_inl] at h
      exact me_tlb_m (B := B0 + ds.length) hsd d2 (by omega) (by omega) ((d1.2 _ (by decide)).trans b2) (l2.g d1) h
    rw [e2, tl_b_inr] at h
    have l3 := l2.g d1
    have b3 : I3 284 33 = nI (130 * sd + (B0 + ds.length)) := (d1.2 _ (by decide)).trans b2
    have cd3 : I3 284 39 = nI (420 * sd + (C + w1.2.length)) := (d1.2 _ (by decide)).trans c4
    iterate 6 refine em_next rfl ?_
    refine em_iasE (k := 130 * sd + (B0 + ds.length)) rfl rfl b3 (by omega) (by decide) ?_
    have l4 := l3.u (a := 306) (i := 130 * sd + (B0 + ds.length)) (x := I3 284 39) (by decide) (by omega)
    have q4 : ∀ a, a ≠ 306 → em_u I3 306 (130 * sd + (B0 + ds.length)) (I3 284 39) a = I3 a := fun a ha => em_u_row ha
    have mT4 : em_u I3 306 (130 * sd + (B0 + ds.length)) (I3 284 39) 306 (130 * sd + (B0 + ds.length)) = nI (420 * sd + (C + w1.2.length)) := by rw [em_u_self]; exact cd3
    have mN4 : ∀ j, j ≠ 130 * sd + (B0 + ds.length) → em_u I3 306 (130 * sd + (B0 + ds.length)) (I3 284 39) 306 j = I3 306 j := fun j hj => em_u_ne hj
    show em_wp em_sc0 (d + 5) 193 _ _ _ (em_SH, em_u I3 306 (130 * sd + (B0 + ds.length)) (I3 284 39), J, em_RT lw) Q
    generalize em_u I3 306 (130 * sd + (B0 + ds.length)) (I3 284 39) = K4 at l4 q4 mT4 mN4 ⊢
    have m4 : mat b L (w1.1 + 1) K4 := d2.keep (by rw [q4 _ (by decide)]) (by rw [q4 _ (by decide)])
    iterate 3 refine em_next rfl ?_
    refine em_z_neE m4.2.2.2 (fun z => absurd rfl z) (fun _ => ?_)
    iterate 1 refine em_next rfl ?_
    refine em_inv_call rfl (me_expression (sd := sd) (C0 := C + w1.2.length) hsd (l4.x hx) m4 (by rw [q4 _ (by decide), d1.2 _ (by decide)]; exact c3) (by rw [q4 _ (by decide)]; exact cd3) (by omega) (fun w2 e3 g4 g5 g6 I5 f1 f2 f3 f4 f5 => ?_) (fun e e3 I5 f1 f2 => ?_))
    rotate_left
    · rw [e3, tl_b_inl, tl_b_inl] at h
      iterate 2 refine em_next rfl ?_
      refine em_inv_call rfl (me_must_b (k := 30) f2 ?_)
      exact me_tlb_t (B := B0 + ds.length) hsd f2 (by omega) (by omega) (by rw [f1.2.1 _ (by decide), q4 _ (by decide)]; exact b3) (l4.e f1 (by omega)) h
    rw [e3, tl_b_inr] at h
    have l5 := l4.e f1 (show C0 ≤ C + w1.2.length by omega)
    have b5 : I5 284 33 = nI (130 * sd + (B0 + ds.length)) := by rw [f1.2.1 _ (by decide), q4 _ (by decide)]; exact b3
    iterate 2 refine em_next rfl ?_
    refine em_inv_call rfl (me_must (k := 30) (l5.x hx) f2 (by decide) (by decide) (by decide) (fun z3 z4 e4 I6 p1 p2 => ?_) (fun e e4 I6 p1 p2 => ?_))
    rotate_left
    · rw [e4, tl_b_inl, tl_b_inl] at h
      exact me_tlb_t (B := B0 + ds.length) hsd p2 (by omega) (by omega) ((p1.2 _ (by decide)).trans b5) (l5.g p1) h
    rw [e4, tl_b_inr] at h
    have l6 := l5.g p1
    have b6 : I6 284 33 = nI (130 * sd + (B0 + ds.length)) := (p1.2 _ (by decide)).trans b5
    have cd6 : I6 284 39 = nI (420 * sd + (C + w1.2.length + w2.2.length)) := (p1.2 _ (by decide)).trans f4
    iterate 1 refine em_next rfl ?_
    refine em_inv_call rfl (me_term (C := C + w1.2.length + w2.2.length) (B := B0 + ds.length) (C0 := C0) (B0 := B0) (k := k) (I0 := I0) hsd hx p2 ((p1.2 _ (by decide)).trans f3) cd6 (by omega) (by omega) (by omega) (by omega) b6 l6 (fun w3 e5 g7 g8 g9 I7 r1 r2 r3 r4 r5 r6 r7 r8 r9 r10 r11 => ?_) (fun e e5 I7 r1 r2 r3 => ?_))
    rotate_left
    · rw [e5, tl_b_inl, tl_b_inl] at h
      iterate 2 refine em_next rfl ?_
      refine em_inv_call rfl (me_must_b (k := 31) r2 ?_)
      iterate 1 refine em_next rfl ?_
      exact me_tlb_h (B := B0 + ds.length + 1) hsd r2 (by omega) (by omega) r3 r1 h
    rw [e5, tl_b_inr] at h
    iterate 2 refine em_next rfl ?_
    refine em_inv_call rfl (me_must (k := 31) (r1.x hx) r2 (by decide) (by decide) (by decide) (fun z5 z6 e6 I8 s1 s2 => ?_) (fun e e6 I8 s1 s2 => ?_))
    rotate_left
    · rw [e6, tl_b_inl, tl_b_inl] at h
      iterate 1 refine em_next rfl ?_
      exact me_tlb_h (B := B0 + ds.length + 1) hsd s2 (by omega) (by omega) ((s1.2 _ (by decide)).trans r5) (r1.g s1) h
    rw [e6, tl_b_inr, tl_b_inr] at h
    have l8 := r1.g s1
    have b8 : I8 284 33 = nI (130 * sd + (B0 + ds.length + 1)) := (s1.2 _ (by decide)).trans r5
    -- how code and rows of I8 come to be
    have c36 : ∀ j, j < 420 * sd + (C + w1.2.length) → I6 309 j = I2 309 j ∧ I6 310 j = I2 310 j := fun j hj => by
      have := f1.2.2 j (by omega)
      rw [p1.1 _ (by decide), p1.1 _ (by decide), this.1, this.2, q4 _ (by decide), q4 _ (by decide), d1.1 _ (by decide), d1.1 _ (by decide)]
      exact ⟨rfl, rfl⟩
    have c68 : ∀ j, j < 420 * sd + (C + w1.2.length + w2.2.length) → I8 309 j = I6 309 j ∧ I8 310 j = I6 310 j := fun j hj => by
      have := r9 j (by omega)
      rw [s1.1 _ (by decide), s1.1 _ (by decide)]
      exact this
    have c28 : ∀ j, j < 420 * sd + (C + w1.2.length) → I8 309 j = I2 309 j ∧ I8 310 j = I2 310 j := fun j hj => by
      have x1 := c68 j (by omega)
      have x2 := c36 j hj
      exact ⟨x1.1.trans x2.1, x1.2.trans x2.2⟩
    have r26 : ∀ a ∈ brows, a ≠ 306 → I6 a = K1 a := fun a ha hne => by rw [p1.1 a (hb a ha).1, f1.1 a (hb a ha).2.2.2, q4 a hne, d1.1 a (hb a ha).1, rw2 a ha]
    have rB : ∀ a ∈ brows, ∀ j, j ≠ 130 * sd + (B0 + ds.length) → I8 a j = K1 a j := fun a ha j hj => by
      rw [s1.1 a (hb a ha).1, r10 a ha j hj]
      by_cases e : a = 306
      · subst e
        rw [p1.1 _ (by decide), f1.1 _ (by decide), mN4 j hj, d1.1 _ (by decide), rw2 _ (by decide)]
      · rw [r26 a ha e]
    have en : mbe I8 (420 * sd) (420 * sd + (C + w1.2.length + w2.2.length + w3.2.length)) (130 * sd + B0 + ds.length) (w1.2, w2.2, w3.2) := by
      rw [show 130 * sd + B0 + ds.length = 130 * sd + (B0 + ds.length) by omega]
      refine ⟨?_, 420 * sd + C, by omega, by dsimp only; omega, ?_, ?_, ?_, ?_, ?_, ?_, ?_⟩
      · rw [s1.1 _ (by decide), r11 _ (by decide), r26 _ (by decide) (by decide)]; exact hT1
      · rw [s1.1 _ (by decide), r11 _ (by decide), r26 _ (by decide) (by decide)]; exact fT1
      · rw [s1.1 _ (by decide), r11 _ (by decide), p1.1 _ (by decide), f1.1 _ (by decide), mT4]; congr 1; dsimp only; omega
      · rw [s1.1 _ (by decide), r7]; congr 1; dsimp only; omega
      · rw [s1.1 _ (by decide), r8]; congr 1; dsimp only; omega
      · exact c5.keep (lo := 0) (hi := 420 * sd + (C + w1.2.length)) (by omega) (by omega) (fun j _ hj => c28 j hj)
      · have f5' : mcd I6 (420 * sd + (C + w1.2.length)) w2.2 := f5.keep (lo := 0) (hi := 420 * sd + (C + w1.2.length) + w2.2.length) (by omega) (by omega) (fun j _ _ => by rw [p1.1 _ (by decide), p1.1 _ (by decide)]; exact ⟨rfl, rfl⟩)
        have := f5'.keep (I' := I8) (lo := 0) (hi := 420 * sd + (C + w1.2.length + w2.2.length)) (by omega) (by omega) (fun j _ hj => c68 j hj)
        rw [show 420 * sd + (C + w1.2.length) = 420 * sd + C + w1.2.length by omega] at this
        exact this
      · have := r6.keep (I' := I8) (lo := 0) (hi := 420 * sd + (C + w1.2.length + w2.2.length) + w3.2.length) (by omega) (by omega) (fun j _ _ => by rw [s1.1 _ (by decide), s1.1 _ (by decide)]; exact ⟨rfl, rfl⟩)
        rw [show 420 * sd + (C + w1.2.length + w2.2.length) = 420 * sd + C + w1.2.length + w2.2.length by omega] at this
        exact this
    have ds8 : mbl I8 (420 * sd) (420 * sd + (C + w1.2.length + w2.2.length + w3.2.length)) (130 * sd + B0) (ds ++ [(w1.2, w2.2, w3.2)]) := by
      refine mbl_snoc (ds1.kp (by omega) (fun j j1 j2 => ?_) (fun a ha j z1 z2 => rB a ha j (by omega))) en
      have x1 := c28 j (by omega)
      have x2 := c1.2.2 j (by omega)
      exact ⟨x1.1.trans x2.1, x1.2.trans x2.2⟩
    have el : (ds ++ [(w1.2, w2.2, w3.2)]).length = ds.length + 1 := by rw [List.length_append]; rfl
    have g := ih (i := i + 1) (t := w3.1 + 1) (C := C + w1.2.length + w2.2.length + w3.2.length) (ds := ds ++ [(w1.2, w2.2, w3.2)]) (I := I8) (by omega) s2 ((s1.2 _ (by decide)).trans r3) ((s1.2 _ (by decide)).trans r4) (by omega) (by omega) (by rw [el]; exact b8) (by rw [el]; omega) l8 ds8 (by
      cases hr : tl_ifs (tk_K b L) (tk_V b L) m (w3.1 + 1) with
      | inl e =>
        rw [hr, tl_b_inl] at h
        exact h
      | inr y =>
        rw [hr, tl_b_inr] at h
        intro I' C' y1 y2 y3 y4 y5 y6 y7 y8 y9 y10 y11 y12
        have ea : (ds ++ [(w1.2, w2.2, w3.2)]) ++ y.2.1 = ds ++ (w1.2, w2.2, w3.2) :: y.2.1 := by rw [List.append_assoc]; rfl
        rw [ea] at y7 y8 y9 y11
        refine h I' C' y1 y2 y3 y4 y5 y6 y7 y8 y9 y10 y11 ⟨fun x hx => ?_, y12.2⟩
        rcases List.mem_cons.mp hx with rfl | hx
        · exact ⟨g3, g6, g9⟩
        · exact y12.1 x hx)
    rw [nI_succ] at g
    iterate 1 refine em_next rfl ?_
    exact g
/-- a law is told -/
theorem me_tellLaw {t C : Nat} (hsd : sd < 2) (hk4 : k < 4) (hx : mx b L nT I J) (hside : I 284 19 = nI sd) (hm : mat b L t I) (ho : I 284 12 = nI 0) (hcd : I 284 39 = nI (420 * sd + C0)) (hC : C0 ≤ t) (hbr : I 284 33 = nI (130 * sd + B0)) (hb4 : 4 * B0 + 1 ≤ t) (h : lO b L sd C0 B0 k lw I J Q [] (tl_b (tl_tk (tk_K b L) 5 t none) (fun x => tl_ifs (tk_K b L) (tk_V b L) 4 x.1))) : em_call (d + 5) 193 [.ref 284, .int (nI k)] (em_SH, I, J, em_RT lw) Q := by
  have ht := hm.1
  iterate 2 refine em_next rfl ?_
  refine em_inv_call rfl (me_must (k := 5) hx hm (by decide) (by decide) (by decide) (fun z1 z2 e2 I1 a1 a2 => ?_) (fun e e2 I1 a1 a2 => ?_))
  · rw [e2, tl_b_inr] at h
    have b1 : I1 284 33 = nI (130 * sd + B0) := (a1.2 _ (by decide)).trans hbr
    iterate 2 refine em_next rfl ?_
    refine em_tp b1 ?_
    iterate 3 refine em_next rfl ?_
    exact me_tl_ifs (i := 0) (m := 4) (C := C0) (ds := []) (by decide) hsd hk4 hx hside a2 ((a1.2 _ (by decide)).trans ho) ((a1.2 _ (by decide)).trans hcd) (by omega) (Nat.le_refl _) b1 (by dsimp only [List.length]; omega) (lf.rf.g a1) trivial h
  · rw [e2, tl_b_inl] at h
    have b1 : I1 284 33 = nI (130 * sd + B0) := (a1.2 _ (by decide)).trans hbr
    iterate 2 refine em_next rfl ?_
    refine em_tp b1 ?_
    iterate 3 refine em_next rfl ?_
    exact me_tlb_h (B := B0) hsd a2 (by omega) (Nat.le_refl _) b1 (lf.rf.g a1) h
theorem me_tellLaw_b {e : tl_E} (hsd : sd < 2) (hf : mfl b L I e) (hbr : I 284 33 = nI (130 * sd + B0)) (hB : B0 < 128) (h : ∀ I' : Nat → Nat → Int32, lf sd C0 B0 k I I' → mfl b L I' e → Q none (em_SH, I', J, em_RT lw)) : em_call (d + 5) 193 [.ref 284, .int (nI k)] (em_SH, I, J, em_RT lw) Q := by
  iterate 2 refine em_next rfl ?_
  refine em_inv_call rfl (me_must_b (k := 5) hf ?_)
  iterate 2 refine em_next rfl ?_
  refine em_tp hbr ?_
  iterate 3 refine em_next rfl ?_
  exact me_tlb_h (B := B0) hsd hf (by omega) (Nat.le_refl _) hbr lf.rf h
end MLAW5
