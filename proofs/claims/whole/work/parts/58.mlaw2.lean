/-! the reference's laws, told -/
section MLAW2
variable {d lw lv : Nat} {I I0 : Nat → Nat → Int32} {J : Nat → Nat → Int64} {Q : Option Value → em_M → Prop}
theorem me_termOf {c : ek_cd} {a : Nat} {x1 x2 : Int32} (hc : mcd I a c) (hw : ek_wx c) (hb : a + c.length ≤ 840) (e1 : x1 = nI a) (e2 : x2 = nI (a + c.length)) (h1 : ∀ (I' : Nat → Nat → Int32) (x : Int32), ek_ex (I 312) c = some x → (∀ y, y ≠ 313 → I' y = I y) → Q (some (.int x)) (em_SH, I', J, em_RT lw))
    (h2 : ∀ I' : Nat → Nat → Int32, ek_ex (I 312) c = none → (∀ y, y ≠ 313 → y ≠ 284 → I' y = I y) → I' 284 46 = 1 → (∀ j, j ≠ 46 → I' 284 j = I 284 j) → Q (some (.int 0)) (em_SH, I', J, em_RT lw)) : em_call d 199 [.ref 284, .int x1, .int x2] (em_SH, I, J, em_RT lw) Q := by
  subst e1
  subst e2
  unfold ek_ex at h1 h2
  iterate 4 refine em_next rfl ?_
  refine me_term_l (k := 0) (n := 0) (g := fun _ => 0) (hi := a + c.length) hc (wd_mono (by decide) hw) rfl hb (fun i hi => absurd hi (Nat.not_lt_zero _)) (by decide) (fun w e => by cases e) (fun w e => by cases e) (fun w e => by cases e) (fun I' r e f => h1 I' (r 0) (by rw [e]; rfl) f) (fun I' e f f2 f3 => h2 I' (by rw [e]; rfl) f f2 f3)
theorem me_laws_l {bs : List ek_br} {t : ek_cd} {b at' k n : Nat} {x2 : Int32} {o1 o2 : Option Value} (hw : ek_wl (some (bs, t))) (hlv : lv < 2) (hat : at' = 4 * lv + k) (hk : k < 4) (hbl : 130 * lv ≤ b) (hb2 : b + bs.length + 1 ≤ 130 * lv + 130) (hL : I 303 at' = nI (b + bs.length + 1)) (hm : mbr I (420 * lv) (420 * lv + 420) b bs t) (h0 : I 284 46 = 0)
    (h : ∀ I' : Nat → Nat → Int32, (∀ a j : Nat, a ≠ 313 → ¬ (a = 284 ∧ j = 46) → I' a j = I a j) → Q (some (.int (lbr (I 312) bs t))) (em_SH, I', J, em_RT lw)) : em_wp em_sc0 (d + 1) 215 39 [some (.ref 284), some (.int (nI n)), some (.int (x2)), some (.int (nI at')), some (.int (nI b)), o1, o2] [] (em_SH, I, J, em_RT lw) Q := by
  have hat8 : at' < 8 := by omega
  have last : ∀ (K : Nat → Nat → Int32) (o1 o2 : Option Value) (c : ek_cd) (a b : Nat), ek_wx c → b < 260 → (∀ x, x ≠ 313 → K x = I x) → I 307 b = nI a → I 308 b = nI (a + c.length) → a + c.length ≤ 840 → mcd I a c → (∀ I' : Nat → Nat → Int32, (∀ a j : Nat, a ≠ 313 → ¬ (a = 284 ∧ j = 46) → I' a j = I a j) → Q (some (.int ((ek_ex (I 312) c).getD 0))) (em_SH, I', J, em_RT lw)) → em_wp em_sc0 (d + 1) 215 119 [some (.ref 284), some (.int (nI n)), some (.int (x2)), some (.int (nI at')), some (.int (nI b)), o1, o2] [] (em_SH, K, J, em_RT lw) Q := fun K o1 o2 c a b hwc hb hK e1 e2 ha hc hq => by
    have eK : K 312 = I 312 := hK _ (by decide)
    iterate 4 refine em_next rfl ?_
    refine em_ialn rfl rfl (by omega) (by decide) ?_
    iterate 3 refine em_next rfl ?_
    refine em_ialn rfl rfl (by omega) (by decide) ?_
    refine em_inv_call rfl (me_termOf (c := c) (a := a) (hc.keep (lo := 0) (hi := 840) (by omega) (by omega) (fun j _ _ => ⟨by rw [hK _ (by decide)], by rw [hK _ (by decide)]⟩)) hwc ha (by rw [hK _ (by decide)]; exact e1) (by rw [hK _ (by decide)]; exact e2) (fun I1 x a1 a2 => ?_) (fun I1 a1 a2 a3 a4 => ?_))
    · rw [eK] at a1
      rw [a1] at hq
      iterate 4 refine em_next rfl ?_
      refine em_z_eqE (x' := 0) (by show I1 284 46 = 0; rw [a2 _ (by decide), hK _ (by decide)]; exact h0) (fun _ => ?_) (fun q => absurd rfl q)
      iterate 1 refine em_next rfl ?_
      exact em_done rfl (hq I1 (fun a j z1 z2 => by rw [a2 a z1, hK a z1]))
    · rw [eK] at a1
      rw [a1] at hq
      iterate 4 refine em_next rfl ?_
      refine em_z_eqE (x' := 1) a3 (fun q => absurd q (by decide)) (fun _ => ?_)
      iterate 2 refine em_next rfl ?_
      refine em_done rfl (hq I1 (fun a j z1 z2 => ?_))
      by_cases e : a = 284
      · subst e
        rw [a4 j (fun q => z2 ⟨rfl, q⟩), hK _ (by decide)]
      · rw [a2 a z1 e, hK a z1]
  induction bs generalizing b o1 o2 I with
  | nil =>
    rw [List.length_nil] at hb2 hL
    obtain ⟨m1, a, m2, m3, m4, m5, m6⟩ := hm
    iterate 4 refine em_next rfl ?_
    refine em_ialn rfl rfl (by omega) (by decide) ?_
    iterate 1 refine em_next rfl ?_
    refine em_c_geE rfl hL (fun h1 => absurd h1 (nI_ge (by omega) (by omega))) (fun _ => ?_)
    iterate 3 refine em_next rfl ?_
    refine em_baln rfl rfl (by omega) (by decide) ?_
    iterate 1 refine em_next rfl ?_
    refine em_z_eqE m1 (fun _ => ?_) (fun q => absurd rfl q)
    exact last I o1 o2 t a b hw.2 (by omega) (fun _ _ => rfl) m4 m5 (by omega) m6 h
  | cons q bs ih =>
    rw [List.length_cons] at hb2 hL
    obtain ⟨⟨m1, a, m2, m3, m4, m5, m6, m7, m8, m9, m10⟩, m11⟩ := hm
    have hq := hw.1 q List.mem_cons_self
    have hh := h
    rw [lbr] at h
    iterate 4 refine em_next rfl ?_
    refine em_ialn rfl rfl (by omega) (by decide) ?_
    iterate 1 refine em_next rfl ?_
    refine em_c_geE rfl hL (fun h1 => absurd h1 (nI_ge (by omega) (by omega))) (fun _ => ?_)
    iterate 3 refine em_next rfl ?_
    refine em_baln rfl rfl (by omega) (by decide) ?_
    iterate 1 refine em_next rfl ?_
    refine em_z_eqE m1 (fun q => absurd q (by decide)) (fun _ => ?_)
    iterate 4 refine em_next rfl ?_
    refine em_ialn rfl rfl (by omega) (by decide) ?_
    iterate 3 refine em_next rfl ?_
    refine em_ialn rfl rfl (by omega) (by decide) ?_
    refine em_inv_call rfl (me_termOf (c := q.1) (a := a) m8 hq.1 (by omega) m4 m5 (fun I1 x a1 a2 => ?_) (fun I1 a1 a2 a3 a4 => ?_))
    · iterate 5 refine em_next rfl ?_
      refine em_ialn rfl rfl (by omega) (by decide) ?_
      iterate 3 refine em_next rfl ?_
      refine em_ialn rfl rfl (by omega) (by decide) ?_
      have eK : I1 312 = I 312 := a2 _ (by decide)
      refine em_inv_call rfl (me_termOf (c := q.2.1) (a := a + q.1.length) (m9.keep (lo := 0) (hi := 840) (by omega) (by omega) (fun j _ _ => ⟨by rw [a2 _ (by decide)], by rw [a2 _ (by decide)]⟩)) hq.2.1 (by omega) (by rw [a2 _ (by decide)]; exact m5) (by rw [a2 _ (by decide)]; exact m6) (fun I2 y b1 b2 => ?_) (fun I2 b1 b2 b3 b4 => ?_))
      · rw [eK] at b1
        rw [a1, b1] at h
        dsimp only at h
        have k2 : ∀ x, x ≠ 313 → I2 x = I x := fun x hx => (b2 x hx).trans (a2 x hx)
        iterate 4 refine em_next rfl ?_
        refine em_z_eqE (x' := 0) (by show I2 284 46 = 0; rw [k2 _ (by decide)]; exact h0) (fun _ => ?_) (fun q => absurd rfl q)
        iterate 3 refine em_next rfl ?_
        refine em_c_lt (fun z => ?_) (fun z => ?_)
        · rw [if_pos z] at h
          exact last I2 _ _ q.2.2 (a + q.1.length + q.2.1.length) b hq.2.2 (by omega) k2 m6 m7 (by omega) m10 h
        · rw [if_neg z] at h
          have hd : ∀ a ∈ brows, a ≠ 313 := by decide
          have g := ih (b := b + 1) (I := I2) (o1 := some (.int (x))) (o2 := some (.int (y))) ⟨fun x hx => hw.1 x (List.mem_cons_of_mem _ hx), hw.2⟩ (by omega) (by omega) (by rw [k2 _ (by decide), hL]; congr 1; omega) (m11.keep (l2 := 0) (h2 := 260) (by omega) (by omega) (fun j _ _ => ⟨by rw [k2 _ (by decide)], by rw [k2 _ (by decide)]⟩) (fun a ha j _ _ => by rw [k2 a (hd a ha)])) (by rw [k2 _ (by decide)]; exact h0) (fun I' f => by
            rw [k2 _ (by decide)]
            exact h I' (fun a j z1 z2 => (f a j z1 z2).trans (by rw [k2 a z1]))) (fun K o1 o2 c a b w1 w2 w3 w4 w5 w6 w7 w8 => last K o1 o2 c a b w1 w2 (fun x hx => (w3 x hx).trans (k2 x hx)) (by rw [k2 _ (by decide)] at w4; exact w4) (by rw [k2 _ (by decide)] at w5; exact w5) w6 (w7.keep (lo := 0) (hi := 840) (by omega) (by omega) (fun j _ _ => ⟨by rw [k2 _ (by decide)], by rw [k2 _ (by decide)]⟩)) (fun I' f => by
            have := w8 I' (fun a j z1 z2 => (f a j z1 z2).trans (by rw [k2 a z1]))
            rw [k2 _ (by decide)] at this
            exact this))
          rw [nI_succ] at g
          iterate 3 refine em_next rfl ?_
          exact g
      · rw [eK] at b1
        rw [a1, b1] at h
        dsimp only at h
        iterate 4 refine em_next rfl ?_
        refine em_z_eqE (x' := 1) b3 (fun q => absurd q (by decide)) (fun _ => ?_)
        iterate 1 refine em_next rfl ?_
        refine em_done rfl (h I2 (fun a j z1 z2 => ?_))
        by_cases e : a = 284
        · subst e
          rw [b4 j (fun q => z2 ⟨rfl, q⟩), a2 _ (by decide)]
        · rw [b2 a z1 e, a2 a z1]
    · iterate 5 refine em_next rfl ?_
      refine em_ialn rfl rfl (by omega) (by decide) ?_
      iterate 3 refine em_next rfl ?_
      refine em_ialn rfl rfl (by omega) (by decide) ?_
      have eK : I1 312 = I 312 := a2 _ (by decide) (by decide)
      have hz : lbr (I 312) (q :: bs) t = 0 := by rw [lbr, a1]
      rw [hz] at hh
      have out : ∀ (I2 : Nat → Nat → Int32) (y : Int32), I2 284 46 = 1 → (∀ a j : Nat, a ≠ 313 → ¬ (a = 284 ∧ j = 46) → I2 a j = I a j) → em_wp em_sc0 (d + 1) 215 98 [some (.ref 284), some (.int (nI n)), some (.int (x2)), some (.int (nI at')), some (.int (nI b)), some (.int (0)), o2] [.int y] (em_SH, I2, J, em_RT lw) Q := fun I2 y z1 z2 => by
        iterate 4 refine em_next rfl ?_
        refine em_z_eqE (x' := 1) z1 (fun q => absurd q (by decide)) (fun _ => ?_)
        iterate 1 refine em_next rfl ?_
        exact em_done rfl (hh I2 z2)
      have k1 : ∀ a j : Nat, a ≠ 313 → ¬ (a = 284 ∧ j = 46) → I1 a j = I a j := fun a j z1 z2 => by
        by_cases e : a = 284
        · subst e
          exact a4 j (fun q => z2 ⟨rfl, q⟩)
        · rw [a2 a z1 e]
      refine em_inv_call rfl (me_termOf (c := q.2.1) (a := a + q.1.length) (m9.keep (lo := 0) (hi := 840) (by omega) (by omega) (fun j _ _ => ⟨by rw [a2 _ (by decide) (by decide)], by rw [a2 _ (by decide) (by decide)]⟩)) hq.2.1 (by omega) (by rw [a2 _ (by decide) (by decide)]; exact m5) (by rw [a2 _ (by decide) (by decide)]; exact m6) (fun I2 y b1 b2 => ?_) (fun I2 b1 b2 b3 b4 => ?_))
      · exact out I2 y (by rw [b2 _ (by decide)]; exact a3) (fun a j z1 z2 => by rw [b2 a z1]; exact k1 a j z1 z2)
      · refine out I2 0 b3 (fun a j z1 z2 => ?_)
        by_cases e : a = 284
        · subst e
          rw [b4 j (fun q => z2 ⟨rfl, q⟩)]
          exact k1 _ j z1 z2
        · rw [b2 a z1 e]
          exact k1 a j z1 z2
theorem ml.sem {k : Nat} {l : ek_lw} (hlv : lv < 2) (hk : k < 4) (hw : ek_wl l) (h : ml I lv k l) : mo_sem I lv k (lsem k l) := by
  intro I' J lw d Q hr hl hq
  have h' : ml I' lv k l := h.rows hk (fun a ha => hr a (by revert a; decide))
  have e4 : nI 4 * I' 284 18 + nI k = nI (4 * lv + k) := em_idxE hl
  cases l with
  | none =>
    have e : I' 302 (4 * lv + k) = I' 303 (4 * lv + k) := h'
    have ep : lsem k none (em_v9 (I' 312)) = em_pl k (I' 312) := by
      unfold lsem em_pl
      dsimp only
      rw [v9_get (by decide)]
    rw [ep] at hq
    iterate 6 refine em_next rfl ?_
    refine em_tp e4 ?_
    iterate 4 refine em_next rfl ?_
    refine em_ialn rfl rfl (by omega) (by decide) ?_
    iterate 3 refine em_next rfl ?_
    refine em_ialn rfl rfl (by omega) (by decide) ?_
    iterate 1 refine em_next rfl ?_
    refine em_c_neE e rfl (fun q => absurd rfl q) (fun _ => ?_)
    iterate 1 refine em_next rfl ?_
    exact em_done rfl (hq I' (fun _ _ _ _ => rfl))
  | some q =>
    obtain ⟨bs, t⟩ := q
    obtain ⟨b0, g1, g2, g3, g4, g5⟩ := h'
    have ep : lsem k (some (bs, t)) (em_v9 (I' 312)) = lbr (I' 312) bs t := lbr_v hw (fun x hx => v9_get hx)
    rw [ep] at hq
    iterate 6 refine em_next rfl ?_
    refine em_tp e4 ?_
    iterate 4 refine em_next rfl ?_
    refine em_ialn rfl rfl (by omega) (by decide) ?_
    iterate 3 refine em_next rfl ?_
    refine em_ialn rfl rfl (by omega) (by decide) ?_
    iterate 1 refine em_next rfl ?_
    refine em_c_neE g3 g4 (fun _ => ?_) (fun q => absurd ((nI_eq (by omega) (by omega)).mp q) (by omega))
    iterate 6 refine em_next rfl ?_
    show em_wp em_sc0 (d + 1) 215 _ _ _ (em_SH, em_u I' 284 46 0, J, em_RT lw) Q
    have k1 : ∀ a, a ≠ 284 → em_u I' 284 46 0 a = I' a := fun a ha => em_u_row ha
    refine em_ialn rfl rfl (by omega) (by decide) ?_
    refine em_tp (y := nI b0) (by rw [k1 _ (by decide)]; exact g3) ?_
    iterate 1 refine em_next rfl ?_
    have hd : ∀ a ∈ brows, a ≠ 284 := by decide
    refine me_laws_l (k := k) (b := b0) (bs := bs) (t := t) (n := k) hw hlv rfl hk g1 (by omega) (by rw [k1 _ (by decide)]; exact g4) (g5.keep (l2 := 0) (h2 := 260) (by omega) (by omega) (fun j _ _ => ⟨by rw [k1 _ (by decide)], by rw [k1 _ (by decide)]⟩) (fun a ha j _ _ => by rw [k1 a (hd a ha)])) em_u_self (fun I'' f => ?_)
    rw [k1 _ (by decide)]
    refine hq I'' (fun a j z1 z2 => (f a j z1 z2).trans ?_)
    by_cases e : a = 284
    · subst e
      exact em_u_ne (fun q => z2 ⟨rfl, q⟩)
    · rw [k1 a e]
theorem ml.law {k : Nat} {l : ek_lw} (hlv : lv < 2) (hk : k < 4) (hw : ek_wl l) (h : ml I lv k l) : mo_law I lv k (lsem k l) := ⟨h.sem hlv hk hw, l, fun _ => h, hw, rfl⟩
end MLAW2
