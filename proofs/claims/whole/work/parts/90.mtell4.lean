/-! the reference is told a sleeper -/
theorem bit_add : ∀ n, n < 9 → ∀ r, r < 2 ^ n → (∀ j, j < n → em_bit (r + 2 ^ n) j = em_bit r j) ∧ em_bit (r + 2 ^ n) n = 1 ∧ em_bit r n = 0 := by decide +kernel
theorem tk_N_vd {b : Nat → Nat} {L t : Nat} (h : tk_K b L t = 1) : tk_vd 8 (tk_N b L t) := by
  unfold tk_N
  generalize hp : tk_P b L t = p
  have hk : tk_Kp b L p = 1 := by rw [← hp]; exact h
  unfold tk_Kp at hk
  split at hk
  · exact absurd hk (by decide)
  · split at hk
    · split at hk
      · exact absurd hk (by decide)
      · exact (tk_en8 (b := b) (i := p) (n := tk_le b L p - p) (by omega) (fun k hk => tk_e_all (q := fun j => tk_l (b j)) (L := L) (f := L - p) (i := p) (by omega) (by unfold tk_le tk_end at hk; omega))).1
    · split at hk
      · split at hk <;> exact absurd hk (by decide)
      · exact absurd hk (tk_sg_no _).2.1
section MTELL4
variable {d lw : Nat} {b : Nat → Nat} {L nT sd : Nat} {I I0 I' I'' : Nat → Nat → Int32} {J J0 J' J'' : Nat → Nat → Int64} {M : em_M} {Q : Option Value → em_M → Prop}
theorem me_sl_b3 {e : tl_E} {x1 x2 : Int32} {o3 : Option Value} (hf : mfl b L I e) (h : Q none (em_SH, I, J, em_RT lw)) : em_wp em_sc0 (d + 4) 192 98 [some (.ref 284), some (.int (x1)), some (.int (x2)), o3] [] (em_SH, I, J, em_RT lw) Q := by
  iterate 2 refine em_next rfl ?_
  refine em_inv_call rfl (me_must_b (k := 4) hf ?_)
  iterate 3 refine em_next rfl ?_
  refine em_z_leE hf.1 (fun z => absurd z hf.gt) (fun _ => ?_)
  exact em_done rfl h
theorem me_sl_b2 {e : tl_E} {n : Nat} {x2 : Int32} {o3 : Option Value} (hsd : sd < 2) (hn : n < 9) (hf : mfl b L I e) (hr : rfr sd I0 I J0 J) (h : mO b L sd lw I0 J0 Q (.inl e)) : em_wp em_sc0 (d + 4) 192 85 [some (.ref 284), some (.int (nI (9 * sd + n))), some (.int (x2)), o3] [] (em_SH, I, J, em_RT lw) Q := by
  iterate 6 refine em_next rfl ?_
  refine em_inv_call rfl (me_bounded_b hf ?_)
  refine em_iasE (k := 9 * sd + n) rfl rfl rfl (by omega) (by decide) ?_
  have f1 : mfl b L (em_u I 295 (9 * sd + n) (nI 0)) e := hf.keep (by rw [em_u_row (by decide)]) (by rw [em_u_row (by decide)])
  exact me_sl_b3 f1 (h _ J (hr.tr (rfr.u (by decide) (by rw [show hwd 295 = 9 from rfl]; omega))) f1)
theorem me_sl_b {e : tl_E} {n : Nat} {x2 : Int32} {o3 : Option Value} (hsd : sd < 2) (hn : n < 9) (hf : mfl b L I e) (hr : rfr sd I0 I J0 J) (h : mO b L sd lw I0 J0 Q (.inl e)) : em_wp em_sc0 (d + 4) 192 73 [some (.ref 284), some (.int (nI (9 * sd + n))), some (.int (x2)), o3] [] (em_SH, I, J, em_RT lw) Q := by
  iterate 6 refine em_next rfl ?_
  refine em_inv_call rfl (me_bounded_b hf ?_)
  refine em_iasE (k := 9 * sd + n) rfl rfl rfl (by omega) (by decide) ?_
  have f1 : mfl b L (em_u I 294 (9 * sd + n) (nI 0)) e := hf.keep (by rw [em_u_row (by decide)]) (by rw [em_u_row (by decide)])
  exact me_sl_b2 hsd hn f1 (hr.tr (rfr.u (by decide) (by rw [show hwd 294 = 9 from rfl]; omega))) h
/-- names are held against the new one -/
theorem me_names {u i m nn : Nat} {nt : Nat → Nat} {la : tl_F} {x1 : Int32} (hL : L ≤ 2000) (hx : mx b L nT I J) (hm : mat b L (u + 1) I) (hu : tk_K b L u = 1) (hnm : I 284 20 = nI nn) (hn9 : nn ≤ 9) (hN : ∀ j, j < nn → J 292 j = lN (tk_tr 8 (tk_N b L (nt j))) ∧ tk_K b L (nt j) = 1) (him : i + m = nn) (hl : mlt b L (u + 1) I (if tl_has (tk_N b L) nt (tk_N b L u) i = true then tl_note 3 (tk_P b L u) la else la)) (hq : ∀ q, (if tl_has (tk_N b L) nt (tk_N b L u) i = true then tl_note 3 (tk_P b L u) la else la) = some q → q.2 < tk_P b L u ∨ q = (3, tk_P b L u)) (h : ∀ (I' : Nat → Nat → Int32) (o3 : Option Value), bg I I' → mat b L (u + 1) I' → mlt b L (u + 1) I' (if tl_has (tk_N b L) nt (tk_N b L u) nn = true then tl_note 3 (tk_P b L u) la else la) → em_wp em_sc0 (d + 4) 192 73 [some (.ref 284), some (.int (x1)), some (.int (nI u)), o3] [] (em_SH, I', J, em_RT lw) Q) : em_wp em_sc0 (d + 4) 192 30 [some (.ref 284), some (.int (x1)), some (.int (nI u)), some (.int (nI i))] [] (em_SH, I, J, em_RT lw) Q := by
  have hu4 := hm.1
  induction m generalizing i I with
  | zero =>
    have e : i = nn := by omega
    subst e
    iterate 4 refine em_next rfl ?_
    refine em_c_geE rfl hnm (fun _ => ?_) (fun z => absurd (nI_le (Nat.le_refl _) (by omega)) z)
    exact h I _ bg.rf hm hl
  | succ m ih =>
    have hun : u < nT := by have := hx.lt hm.1 hm.2.1; omega
    have hgu : tk_gd (tk_K b L) u := fun r hr => hm.2.1 r (by omega)
    have hT := hx.1 u hun
    obtain ⟨n1, n2⟩ := hN i (by omega)
    have v1 := tk_N_vd n2
    have v2 := tk_N_vd hu
    have w1 := (tk_vd_lt v1).2
    have w2 := (tk_vd_lt v2).2
    iterate 4 refine em_next rfl ?_
    refine em_c_geE rfl hnm (fun z => absurd z (nI_ge (by omega) (by omega))) (fun _ => ?_)
    iterate 3 refine em_next rfl ?_
    refine em_z_neE hm.2.2.2 (fun z => absurd rfl z) (fun _ => ?_)
    iterate 3 refine em_next rfl ?_
    refine em_lalE (k := i) rfl rfl rfl (by omega) (by decide) ?_
    refine em_tl n1 ?_
    iterate 3 refine em_next rfl ?_
    refine em_lalE (k := u) rfl rfl rfl (by omega) (by decide) ?_
    refine em_tl (hT.2.2.2 hu) ?_
    iterate 2 refine em_next rfl ?_
    have eh : tl_has (tk_N b L) nt (tk_N b L u) (i + 1) = (tl_has (tk_N b L) nt (tk_N b L u) i || decide (tk_N b L (nt i) = tk_N b L u)) := rfl
    refine em_z_ne (fun z => ?_) (fun z => ?_)
    · have z2 : ¬ tk_N b L (nt i) = tk_N b L u := fun e => z ((lg_cmp_eq _ _).mpr (by rw [e]))
      rw [decide_eq_false z2, Bool.or_false] at eh
      have g := ih (i := i + 1) (I := I) hx hm hnm (by omega) (by rw [eh]; exact hl) (by rw [eh]; exact hq) h
      rw [nI_succ] at g
      iterate 2 refine em_next rfl ?_
      exact g
    · have z2 : tk_N b L (nt i) = tk_N b L u := tk_tr_inj v1 v2 (lN_inj (by omega) (by omega) ((lg_cmp_eq _ _).mp z))
      rw [decide_eq_true z2, Bool.or_true] at eh
      iterate 3 refine em_next rfl ?_
      refine em_inv_call rfl (me_wrong (k := 3) (u := u) (la := if tl_has (tk_N b L) nt (tk_N b L u) i = true then tl_note 3 (tk_P b L u) la else la) hL hx (by omega) hun hgu hm.2.2.2 (by decide) ?_ (fun I1 a1 a2 a3 => ?_))
      · generalize (if tl_has (tk_N b L) nt (tk_N b L u) i = true then tl_note 3 (tk_P b L u) la else la) = lx at hl hq
        cases lx with
        | none => exact Or.inl hl
        | some q =>
          rcases hq q rfl with g | g
          · obtain ⟨y1, y2, y3, s, y4, y5⟩ := hl
            refine Or.inl ⟨y1, y2, y3, s, ?_, y5⟩
            by_cases e : s = u
            · rw [y5, e] at g; omega
            · omega
          · exact Or.inr ⟨by rw [g], hl⟩
      · have e3 : tl_note 3 (tk_P b L u) (if tl_has (tk_N b L) nt (tk_N b L u) i = true then tl_note 3 (tk_P b L u) la else la) = tl_note 3 (tk_P b L u) la := by
          by_cases e : tl_has (tk_N b L) nt (tk_N b L u) i = true
          · rw [if_pos e, tl_note_i]
          · rw [if_neg e]
        have b1 : bg I I1 := ⟨a1, fun j hj => a2 j (fun e => hj (by rw [e]; decide)) (fun e => hj (by rw [e]; decide))⟩
        have g := ih (i := i + 1) (I := I1) (hx.bg b1) (hm.keep (a2 _ (by decide) (by decide)) (a2 _ (by decide) (by decide))) ((a2 _ (by decide) (by decide)).trans hnm) (by omega) (by rw [eh, if_pos rfl, ← e3]; exact a3) (fun q hh => ?_) (fun I' o3 c1 c2 c3 => h I' o3 (b1.tr c1) c2 c3)
        · rw [nI_succ] at g
          iterate 2 refine em_next rfl ?_
          exact g
        · rw [eh, if_pos rfl, ← e3] at hh
          generalize (if tl_has (tk_N b L) nt (tk_N b L u) i = true then tl_note 3 (tk_P b L u) la else la) = lx at hh hq
          cases lx with
          | none => exact Or.inr (Option.some.inj hh).symm
          | some q2 =>
            have : q2 = q := Option.some.inj hh
            subst this
            exact hq q2 rfl
/-- a sleeper's ints -/
theorem me_sl_rest {u t C B : Nat} {s : tl_S} {hc : Nat → Bool} {la : tl_F} {o3 : Option Value} (hL : L ≤ 2000) (hsd : sd < 2) (hx : mx b L nT I J) (hm : mat b L (u + 1) I) (ho : I 284 12 = nI 0) (hu : tk_K b L u = 1) (htu : t ≤ u) (hl : mlt b L (u + 1) I la) (hla : la = none → s.la = none) (hg : tl_g s) (hn : s.n < 9) (hS : mS0 b L sd t s I J C B hc) (hr : rfr sd I0 I J J)
    (h : mO b L sd lw I0 J Q (tl_b (tl_int (tk_K b L) (tk_V b L) (tk_P b L) 1 (u + 1) la) (fun e => tl_b (tl_int (tk_K b L) (tk_V b L) (tk_P b L) 9 e.1 e.2) (fun g => tl_b (tl_tk (tk_K b L) 4 g.1 g.2) (fun x => .inr (x.1, tl_m (s.n + 1) (s.rw + (if tk_V b L (u + 1) = 1 then 2 ^ s.n else 0)) (tl_up s.hb s.n (tk_V b L e.1)) (tl_up s.nt s.n u) s.cc s.co s.fc s.rg s.bg s.sd s.F (x.2))))))) : em_wp em_sc0 (d + 4) 192 73 [some (.ref 284), some (.int (nI (9 * sd + s.n))), some (.int (nI u)), o3] [] (em_SH, I, J, em_RT lw) Q := by
  have hu4 := hm.1
  have hun : u < nT := by have := hx.lt hm.1 hm.2.1; omega
  have bt := bit_add s.n hn s.rw hg.2.2.2
  iterate 6 refine em_next rfl ?_
  refine em_inv_call rfl (me_bounded (m := 1) (la := la) hL hx hm hl (by decide) (fun z1 z2 e2 I2 b1 b2 b3 => ?_) (fun e e2 I2 j hj b1 b2 => ?_))
  rotate_left
  · rw [e2, tl_b_inl] at h
    refine em_iasE (k := 9 * sd + s.n) rfl rfl rfl (by omega) (by decide) ?_
    exact me_sl_b2 hsd hn (b2.keep (by rw [em_u_row (by decide)]) (by rw [em_u_row (by decide)])) ((hr.tr (rfr.bg b1)).tr (rfr.u (by decide) (by rw [show hwd 294 = 9 from rfl]; omega))) h
  rw [e2, tl_b_inr] at h
  generalize hla1 : (if 1 < tk_V b L (u + 1) then tl_note 5 (tk_P b L (u + 1)) la else la) = la1 at h b3
  refine em_iasE (k := 9 * sd + s.n) rfl rfl rfl (by omega) (by decide) ?_
  have r3 : rfr sd I0 (em_u I2 294 (9 * sd + s.n) (nI (tk_V b L (u + 1)))) J J := (hr.tr (rfr.bg b1)).tr (rfr.u (by decide) (by rw [show hwd 294 = 9 from rfl]; omega))
  have q3 : ∀ a, a ≠ 294 → em_u I2 294 (9 * sd + s.n) (nI (tk_V b L (u + 1))) a = I2 a := fun a ha => em_u_row ha
  have p3 : em_u I2 294 (9 * sd + s.n) (nI (tk_V b L (u + 1))) 294 (9 * sd + s.n) = nI (tk_V b L (u + 1)) := em_u_self
  have p4 : ∀ j, j ≠ 9 * sd + s.n → em_u I2 294 (9 * sd + s.n) (nI (tk_V b L (u + 1))) 294 j = I2 294 j := fun j hj => em_u_ne hj
  generalize em_u I2 294 (9 * sd + s.n) (nI (tk_V b L (u + 1))) = K3 at r3 q3 p3 p4 ⊢
  iterate 6 refine em_next rfl ?_
  refine em_inv_call rfl (me_bounded (m := 9) (la := la1) hL ((hx.bg b1).keep (q3 _ (by decide)) (q3 _ (by decide)) (q3 _ (by decide)) rfl) (b2.keep (by rw [q3 _ (by decide)]) (by rw [q3 _ (by decide)])) (b3.keep (by rw [q3 _ (by decide)]) (by rw [q3 _ (by decide)])) (by decide) (fun z3 z4 e3 I4 c1 c2 c3 => ?_) (fun e e3 I4 j hj c1 c2 => ?_))
  rotate_left
  · dsimp only at h
    rw [e3, tl_b_inl] at h
    refine em_iasE (k := 9 * sd + s.n) rfl rfl rfl (by omega) (by decide) ?_
    have f1 : mfl b L (em_u I4 295 (9 * sd + s.n) (nI j)) e := c2.keep (by rw [em_u_row (by decide)]) (by rw [em_u_row (by decide)])
    exact me_sl_b3 f1 (h _ J ((r3.tr (rfr.bg c1)).tr (rfr.u (by decide) (by rw [show hwd 295 = 9 from rfl]; omega))) f1)
  dsimp only at h
  rw [e3, tl_b_inr] at h
  generalize hla2 : (if 9 < tk_V b L (u + 1 + 1) then tl_note 5 (tk_P b L (u + 1 + 1)) la1 else la1) = la2 at h c3
  refine em_iasE (k := 9 * sd + s.n) rfl rfl rfl (by omega) (by decide) ?_
  have r5 : rfr sd I0 (em_u I4 295 (9 * sd + s.n) (nI (tk_V b L (u + 1 + 1)))) J J := (r3.tr (rfr.bg c1)).tr (rfr.u (by decide) (by rw [show hwd 295 = 9 from rfl]; omega))
  have q5 : ∀ a, a ≠ 295 → em_u I4 295 (9 * sd + s.n) (nI (tk_V b L (u + 1 + 1))) a = I4 a := fun a ha => em_u_row ha
  have p5 : em_u I4 295 (9 * sd + s.n) (nI (tk_V b L (u + 1 + 1))) 295 (9 * sd + s.n) = nI (tk_V b L (u + 1 + 1)) := em_u_self
  have p6 : ∀ j, j ≠ 9 * sd + s.n → em_u I4 295 (9 * sd + s.n) (nI (tk_V b L (u + 1 + 1))) 295 j = I4 295 j := fun j hj => em_u_ne hj
  generalize em_u I4 295 (9 * sd + s.n) (nI (tk_V b L (u + 1 + 1))) = K5 at r5 q5 p5 p6 ⊢
  have x4 : mx b L nT I4 J := ((hx.bg b1).keep (I' := K3) (q3 _ (by decide)) (q3 _ (by decide)) (q3 _ (by decide)) rfl).bg c1
  have x5 : mx b L nT K5 J := x4.keep (q5 _ (by decide)) (q5 _ (by decide)) (q5 _ (by decide)) rfl
  iterate 2 refine em_next rfl ?_
  refine em_inv_call rfl (me_must (k := 4) x5 (c2.keep (by rw [q5 _ (by decide)]) (by rw [q5 _ (by decide)])) (by decide) (by decide) (by decide) (fun z5 z6 _ I6 d1 d2 => ?_) (fun e e4 I6 d1 d2 => ?_))
  rotate_left
  · dsimp only at h
    rw [e4, tl_b_inl] at h
    iterate 3 refine em_next rfl ?_
    refine em_z_leE d2.1 (fun z => absurd z d2.gt) (fun _ => ?_)
    exact em_done rfl (h I6 J (r5.tr (rfr.bg (bg.g d1))) d2)
  have e4 : tl_tk (tk_K b L) 4 (u + 1 + 1 + 1) la2 = .inr (u + 1 + 1 + 1 + 1, la2) := by
    unfold tl_tk tl_acc
    rw [if_pos z5, if_pos z6]
  dsimp only at h
  rw [e4, tl_b_inr] at h
  have hno : la2 = none → s.la = none ∧ tk_V b L (u + 1) ≤ 1 := fun e => by
    rw [← hla2] at e
    have g1 := (tl_if_n e).2
    rw [← hla1] at g1
    have g2 := tl_if_n g1
    exact ⟨hla g2.2, by omega⟩
  -- from I to I6: all but the two rows and mo's places
  have w6 : ∀ a, a ≠ 284 → a ≠ 294 → a ≠ 295 → I6 a = I a := fun a y1 y2 y3 => by rw [d1.1 a y1, q5 a y3, c1.1 a y1, q3 a y2, b1.1 a y1]
  have m6 : ∀ j, j ∉ [11, 13, 14, 15, 16] → I6 284 j = I 284 j := fun j hj => by
    rw [(bg.g d1).2 j hj, q5 _ (by decide), c1.2 j hj, q3 _ (by decide), b1.2 j hj]
  obtain ⟨⟨s1, s1'⟩, s2, s3, s4, ⟨k1, k2, k3⟩, s6⟩ := hS
  have n6 : I6 284 20 = nI s.n := (m6 _ (by decide)).trans s1'
  have x6 := x5.g d1
  have hT := x6.1 u hun
  iterate 3 refine em_next rfl ?_
  refine em_z_leE d2.2.2.2 (fun _ => ?_) (fun z => absurd (by decide) z)
  iterate 7 refine em_next rfl ?_
  refine em_lalE (k := u) rfl rfl rfl (by omega) (by decide) ?_
  refine em_tl (hT.2.2.2 hu) ?_
  refine em_lasE (k := s.n) rfl rfl n6 hn (by decide) ?_
  iterate 6 refine em_next rfl ?_
  show em_wp em_sc0 (d + 4) 192 _ _ _ (em_SH, em_u I6 284 20 (I6 284 20 + 1), em_uj J 292 s.n (lN (tk_tr 8 (tk_N b L u))), em_RT lw) Q
  have q7 : ∀ a, a ≠ 284 → em_u I6 284 20 (I6 284 20 + 1) a = I6 a := fun a ha => em_u_row ha
  have q8 : ∀ j, j ≠ 20 → em_u I6 284 20 (I6 284 20 + 1) 284 j = I6 284 j := fun j hj => em_u_ne hj
  have q9 : em_u I6 284 20 (I6 284 20 + 1) 284 20 = nI (s.n + 1) := by rw [em_u_self, n6, nI_succ]
  have r7 : rfr sd I0 (em_u I6 284 20 (I6 284 20 + 1)) J (em_uj J 292 s.n (lN (tk_tr 8 (tk_N b L u)))) := ((r5.tr (rfr.bg (bg.g d1))).tr rfr.nm).tr rfr.j
  generalize em_u I6 284 20 (I6 284 20 + 1) = K7 at q7 q8 q9 r7 ⊢
  have sd7 : K7 284 19 = nI sd := by rw [q8 _ (by decide), m6 _ (by decide)]; exact s1
  have sl7 : K7 293 sd = nI s.n := by rw [q7 _ (by decide), w6 _ (by decide) (by decide) (by decide)]; exact s2.1
  iterate 5 refine em_next rfl ?_
  refine em_ialE (k := sd) rfl rfl sd7 hsd (by decide) ?_
  iterate 2 refine em_next rfl ?_
  refine em_tp (y := nI (s.n + 1)) (by show K7 293 sd + 1 = _; rw [sl7, nI_succ]) ?_
  refine em_iasE (k := sd) rfl rfl sd7 hsd (by decide) ?_
  have f8 : ∀ a, a ≠ 293 → em_u K7 293 sd (nI (s.n + 1)) a = K7 a := fun a ha => em_u_row ha
  have g8 : ∀ a, a ≠ 284 → a ≠ 294 → a ≠ 295 → a ≠ 293 → em_u K7 293 sd (nI (s.n + 1)) a = I a := fun a y1 y2 y3 y4 => by rw [f8 a y4, q7 a y1, w6 a y1 y2 y3]
  have hmr : ∀ a ∈ mrows, a ≠ 284 ∧ a ≠ 294 ∧ a ≠ 295 ∧ a ≠ 293 := by decide
  have lf8 : em_u K7 293 sd (nI (s.n + 1)) 294 = K3 294 := by rw [f8 _ (by decide), q7 _ (by decide), d1.1 _ (by decide), q5 _ (by decide), c1.1 _ (by decide)]
  have hb8 : em_u K7 293 sd (nI (s.n + 1)) 295 = K5 295 := by rw [f8 _ (by decide), q7 _ (by decide), d1.1 _ (by decide)]
  refine em_done rfl (h _ _ (r7.tr (rfr.u (by decide) (by rw [show hwd 293 = 1 from rfl]; omega))) ⟨d2.keep ?_ ?_, ?_, ((c3.keep (by rw [q5 _ (by decide)]) (by rw [q5 _ (by decide)])).g d1 |>.mono (show u + 1 + 1 + 1 ≤ u + 1 + 1 + 1 + 1 by omega)).keep ?_ ?_, C, B, hc, ⟨?_, ?_⟩, ⟨?_, ?_, ?_, ?_, ?_⟩, ⟨fun j hj => ?_, fun j hj hla0 => ?_, ?_, fun j hj => ?_⟩, ⟨?_, fun z => s4.2 (hno z).1⟩, ⟨?_, ?_, fun k hk => ⟨(k3 k hk).1.rows (fun a ha => g8 a (hmr a ha).1 (hmr a ha).2.1 (hmr a ha).2.2.1 (hmr a ha).2.2.2), (k3 k hk).2⟩⟩, by dsimp only; omega, by dsimp only; omega⟩)
  · rw [f8 _ (by decide), q8 _ (by decide)]
  · rw [f8 _ (by decide), q8 _ (by decide)]
  · rw [f8 _ (by decide), q8 _ (by decide), m6 _ (by decide)]; exact ho
  · rw [f8 _ (by decide), q8 _ (by decide)]
  · rw [f8 _ (by decide), q8 _ (by decide)]
  · rw [f8 _ (by decide)]; exact sd7
  · rw [f8 _ (by decide)]; exact q9
  · exact em_u_self
  · rw [g8 _ (by decide) (by decide) (by decide) (by decide)]; exact s2.2.1
  · rw [g8 _ (by decide) (by decide) (by decide) (by decide)]; exact s2.2.2.1
  · rw [g8 _ (by decide) (by decide) (by decide) (by decide)]; exact s2.2.2.2.1
  · rw [g8 _ (by decide) (by decide) (by decide) (by decide)]; exact s2.2.2.2.2
  · have hj' : j < s.n + 1 := hj
    show _ = nI (tl_up s.hb s.n (tk_V b L (u + 1 + 1)) j)
    unfold tl_up
    rw [hb8]
    by_cases e : j = s.n
    · rw [if_pos e, e]; exact p5
    · rw [if_neg e, p6 _ (by omega), c1.1 _ (by decide), q3 _ (by decide), b1.1 _ (by decide)]
      exact s3.1 j (by omega)
  · have hj' : j < s.n + 1 := hj
    have g := hno hla0
    show _ = em_bit (s.rw + (if tk_V b L (u + 1) = 1 then 2 ^ s.n else 0)) j
    rw [lf8]
    by_cases e : j = s.n
    · rw [e, p3]
      by_cases v : tk_V b L (u + 1) = 1
      · rw [if_pos v, v, bt.2.1]; rfl
      · rw [if_neg v, show s.rw + 0 = s.rw from rfl, bt.2.2, show tk_V b L (u + 1) = 0 by omega]; rfl
    · rw [p4 _ (by omega), b1.1 _ (by decide)]
      have := s3.2.1 j (by omega) g.1
      rw [this]
      by_cases v : tk_V b L (u + 1) = 1
      · rw [if_pos v, bt.1 j (by omega)]
      · rw [if_neg v, Nat.add_zero]
  · rw [g8 _ (by decide) (by decide) (by decide) (by decide)]; exact s3.2.2.1
  · have hj' : j < s.n + 1 := hj
    show em_uj J 292 s.n (lN (tk_tr 8 (tk_N b L u))) 292 j = lN (tk_tr 8 (tk_N b L (tl_up s.nt s.n u j)))
    unfold tl_up
    by_cases e : j = s.n
    · rw [if_pos e, e, em_uj_self]
    · rw [if_neg e, em_uj_ne e]
      exact s3.2.2.2 j (by omega)
  · rw [g8 _ (by decide) (by decide) (by decide) (by decide)]; exact s4.1
  · rw [f8 _ (by decide), q8 _ (by decide), m6 _ (by decide)]; exact k1
  · rw [f8 _ (by decide), q8 _ (by decide), m6 _ (by decide)]; exact k2
end MTELL4
