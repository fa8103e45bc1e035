/-! the class takes sleepers, two -/
theorem tl_rw_ok : ∀ n, n < 9 → ∀ r, r < 2 ^ n → nI r ||| ((1 : Int32) <<< (nI n &&& 31)) = nI (r + 2 ^ n) := by decide +kernel
theorem tl_name_r {K N P nt : Nat → Nat} {n t : Nat} {la : tl_F} {w : Nat × tl_F} (h : tl_name K N P nt n t la = .inr w) : K t = 1 ∧ t < 400 ∧ w.1 = t + 1 := by
  unfold tl_name at h
  split at h
  · obtain ⟨h1, h2⟩ := tl_acc_r h
    exact ⟨by assumption, h1, by rw [h2]⟩
  · cases h
section TELL5
variable {d lw : Nat} {b : Nat → Nat} {L n : Nat} {I I0 I' I'' : Nat → Nat → Int32} {J J0 J' J'' : Nat → Nat → Int64} {M : em_M} {Q : Option Value → em_M → Prop}
theorem tl_addSleeper {k r v : Nat} {lf : Bool} (hk : k < 9) (hr : r < 2 ^ k) (h1 : I 8 7 = nI k) (h2 : I 8 8 = nI r) (h : ∀ I' : Nat → Nat → Int32, (∀ a, a ≠ 8 → a ≠ 9 → I' a = I a) → (∀ j, j ≠ 7 → j ≠ 8 → I' 8 j = I 8 j) → I' 8 7 = nI (k + 1) → I' 8 8 = nI (r + (if lf = true then 2 ^ k else 0)) → I' 9 k = nI v → (∀ j, j ≠ k → I' 9 j = I 9 j) → Q none (em_SH, I', J, em_RT lw)) : em_call d 33 [.ref 8, .int (em_bb lf), .int (nI v)] (em_SH, I, J, em_RT lw) Q := by
  have fin : ∀ (x y : Int32), x = nI (r + (if lf = true then 2 ^ k else 0)) → y = nI (k + 1) → Q none (em_SH, em_u (em_u (em_u I 9 k (nI v)) 8 8 x) 8 7 y, J, em_RT lw) := fun x y hx hy => by
    subst hx
    subst hy
    refine h _ (fun a z1 z2 => by rw [em_u_row z1, em_u_row z1, em_u_row z2]) (fun j z1 z2 => by rw [em_u_ne z1, em_u_ne z2, em_u_row (by decide)]) em_u_self ?_ ?_ (fun j z => ?_)
    · rw [em_u_ne (by decide), em_u_self]
    · rw [em_u_row (by decide), em_u_row (by decide), em_u_self]
    · rw [em_u_row (by decide), em_u_row (by decide), em_u_ne z]
  have hm : em_u I 9 k (nI v) 8 7 = nI k := by rw [em_u_row (by decide)]; exact h1
  have hf : em_u I 9 k (nI v) 8 8 = nI r := by rw [em_u_row (by decide)]; exact h2
  iterate 4 refine em_next rfl ?_
  refine em_c_geE h1 (y' := nI 9) rfl (fun z => absurd ((nI_leI (by decide) (by omega)).mp z) (by omega)) (fun _ => ?_)
  iterate 5 refine em_next rfl ?_
  refine em_iasE (k := k) rfl rfl h1 hk (by decide) ?_
  iterate 5 refine em_next rfl ?_
  cases lf with
  | false =>
    refine em_z_eq (fun _ => ?_) (fun q => absurd rfl q)
    iterate 8 refine em_next rfl ?_
    refine em_tp (y := nI (k + 1)) ?_ ?_
    · show em_u (em_u I 9 k (nI v)) 8 8 (em_u I 9 k (nI v) 8 8 ||| 0) 8 7 + 1 = _
      rw [em_u_ne (by decide), hm, nI_succ]
    iterate 1 refine em_next rfl ?_
    refine em_done rfl (fin _ _ ?_ rfl)
    show em_u I 9 k (nI v) 8 8 ||| 0 = _
    rw [hf]
    exact Int32.or_zero
  | true =>
    refine em_z_eq (fun q => absurd q (by decide)) (fun _ => ?_)
    iterate 12 refine em_next rfl ?_
    refine em_tp (y := nI (k + 1)) ?_ ?_
    · show em_u (em_u I 9 k (nI v)) 8 8 (em_u I 9 k (nI v) 8 8 ||| ((1 : Int32) <<< (em_u I 9 k (nI v) 8 7 &&& 31))) 8 7 + 1 = _
      rw [em_u_ne (by decide), hm, nI_succ]
    iterate 1 refine em_next rfl ?_
    refine em_done rfl (fin _ _ ?_ rfl)
    show em_u I 9 k (nI v) 8 8 ||| ((1 : Int32) <<< (em_u I 9 k (nI v) 8 7 &&& 31)) = _
    rw [hf, hm]
    exact tl_rw_ok k hk r hr
theorem tl_takeSleeper {t : Nat} {s : tl_S} (hx : cx b L n I J) (hc : cat b L t I) (hl : lat I s.la) (hS : cS b L s I J) (hg : tl_g s) (hnt : ∀ j, j < s.n → tk_K b L (s.nt j) = 1) (hk : tk_K b L t = 20) (h : tl_o b L I J Q (tl_one (tk_K b L) (tk_V b L) (tk_N b L) (tk_P b L) t s)) : em_call (d + 2) 71 [.ref 40] (em_SH, I, J, em_RT lw) Q := by
  unfold tl_one at h
  rw [if_pos hk] at h
  obtain ⟨g1, g2, g3, g4⟩ := hg
  iterate 5 refine em_next rfl ?_
  refine em_c_ltE hS.1.1 (y' := nI 9) rfl (fun z => ?_) (fun z => ?_)
  · have z2 := (nI_ltI (by omega) (by decide)).mp z
    rw [if_neg (by omega)] at h
    iterate 1 refine em_next rfl ?_
    refine em_inv_call rfl (tl_accept hx hc hl (by omega) ?_)
    cases hr : tl_acc t s.la with
    | inl e =>
      rw [hr] at h
      intro I1 a1 a2
      iterate 1 refine em_next rfl ?_
      refine em_z_eq (fun _ => ?_) (fun q => absurd rfl q)
      iterate 1 refine em_next rfl ?_
      exact em_done rfl (h I1 J lw (yf.w a1) a2)
    | inr a =>
      rw [hr] at h
      obtain ⟨r1, rfl⟩ := tl_acc_r hr
      intro I1 a1 a2 a3
      iterate 1 refine em_next rfl ?_
      refine em_z_eq (fun q => absurd q (by decide)) (fun _ => ?_)
      iterate 1 refine em_next rfl ?_
      refine em_inv_call rfl (tl_takeName (s := s) (hx.w a1) a2 (hS.w a1) z2 hnt a3 ?_)
      cases hr1 : tl_name (tk_K b L) (tk_N b L) (tk_P b L) s.nt s.n (t + 1) s.la with
      | inl e =>
        have h' : tl_o b L I J Q (tl_b (tl_name (tk_K b L) (tk_N b L) (tk_P b L) s.nt s.n (t + 1) s.la) _) := h
        rw [hr1] at h'
        intro I2 J2 b1 b2 b3
        iterate 1 refine em_next rfl ?_
        refine em_z_eq (fun _ => ?_) (fun q => absurd rfl q)
        iterate 1 refine em_next rfl ?_
        exact em_done rfl (h' I2 J2 lw ⟨(yf.w (J := J) (a1.tr b1)).1, b2⟩ b3)
      | inr c =>
        have h' : tl_o b L I J Q (tl_b (tl_name (tk_K b L) (tk_N b L) (tk_P b L) s.nt s.n (t + 1) s.la) _) := h
        rw [hr1] at h'
        obtain ⟨n2, n3, n4⟩ := tl_name_r hr1
        obtain ⟨c1, c2⟩ := c
        have n5 : c1 = t + 1 + 1 := n4
        subst n5
        intro I2 b1 b2 b3
        have wf2 := a1.tr b1
        have jn : ∀ a, a ≠ 41 → em_uj J 41 s.n (lN (tk_N b L (t + 1))) a = J a := fun a ha => em_uj_row ha
        have js : em_uj J 41 s.n (lN (tk_N b L (t + 1))) 41 s.n = lN (tk_N b L (t + 1)) := em_uj_self
        have jo : ∀ j, j ≠ s.n → em_uj J 41 s.n (lN (tk_N b L (t + 1))) 41 j = J 41 j := fun j hj => em_uj_ne hj
        generalize em_uj J 41 s.n (lN (tk_N b L (t + 1))) = J1 at jn js jo
        have yy : ∀ {I' : Nat → Nat → Int32}, yf I I' J J → yf I I' J J1 := fun z => ⟨z.1, jn⟩
        have hx2 : cx b L n I2 J1 := (hx.w wf2).keep rfl rfl (jn _ (by decide))
        iterate 1 refine em_next rfl ?_
        refine em_z_eq (fun q => absurd q (by decide)) (fun _ => ?_)
        iterate 2 refine em_next rfl ?_
        refine em_inv_call rfl (tl_takeInt (m := 1) hx2 b2 b3 (by decide) ?_)
        cases hr2 : tl_int (tk_K b L) (tk_V b L) (tk_P b L) 1 (t + 1 + 1) c2 with
        | inl e =>
          have h2 : tl_o b L I J Q (tl_b (tl_int (tk_K b L) (tk_V b L) (tk_P b L) 1 (t + 1 + 1) c2) _) := h'
          rw [hr2] at h2
          intro I3 d1 d2
          iterate 1 refine em_next rfl ?_
          refine em_z_eq (fun _ => ?_) (fun q => absurd rfl q)
          iterate 1 refine em_next rfl ?_
          exact em_done rfl (h2 I3 J1 lw (yy (yf.w (wf2.tr d1))) d2)
        | inr e =>
          have h2 : tl_o b L I J Q (tl_b (tl_int (tk_K b L) (tk_V b L) (tk_P b L) 1 (t + 1 + 1) c2) _) := h'
          rw [hr2] at h2
          obtain ⟨r2, r3, r4⟩ := tl_int_r hr2
          obtain ⟨e1, e2⟩ := e
          have r5 : e1 = t + 1 + 1 + 1 := r4
          subst r5
          intro I3 d1 d2 d3
          have wf3 := wf2.tr d1
          iterate 1 refine em_next rfl ?_
          refine em_z_eq (fun q => absurd q (by decide)) (fun _ => ?_)
          iterate 2 refine em_next rfl ?_
          refine em_inv_call rfl (tl_takeInt (m := 9) (hx2.w d1) d2 d3 (by decide) ?_)
          cases hr3 : tl_int (tk_K b L) (tk_V b L) (tk_P b L) 9 (t + 1 + 1 + 1) e2 with
          | inl e =>
            have h3 : tl_o b L I J Q (tl_b (tl_int (tk_K b L) (tk_V b L) (tk_P b L) 9 (t + 1 + 1 + 1) e2) _) := h2
            rw [hr3] at h3
            intro I4 p1 p2
            iterate 1 refine em_next rfl ?_
            refine em_z_ne (fun q => absurd rfl q) (fun _ => ?_)
            iterate 1 refine em_next rfl ?_
            exact em_done rfl (h3 I4 J1 lw (yy (yf.w (wf3.tr p1))) p2)
          | inr g =>
            have h3 : tl_o b L I J Q (tl_b (tl_int (tk_K b L) (tk_V b L) (tk_P b L) 9 (t + 1 + 1 + 1) e2) _) := h2
            rw [hr3] at h3
            obtain ⟨r6, r7, r8⟩ := tl_int_r hr3
            obtain ⟨u1, u2⟩ := g
            have r9 : u1 = t + 1 + 1 + 1 + 1 := r8
            subst r9
            intro I4 p1 p2 p3
            have wf4 := wf3.tr p1
            have hx4 := (hx2.w d1).w p1
            have hV := tk_V_lt r2
            obtain ⟨s1, s2, s3, s4, s5, s6⟩ := hS.w wf4
            iterate 1 refine em_next rfl ?_
            refine em_z_ne (fun _ => ?_) (fun q => absurd q (by decide))
            iterate 4 refine em_next rfl ?_
            refine em_inv_call rfl (tl_behind (k := 2) hx4 p2 (by omega) (by omega) r2 ?_)
            have go : em_wp em_sc0 (d + 2) 71 69 [some (.ref 40)] [.int (em_bb (decide (tk_V b L (t + 1 + 1) = 1))), .ref 8] (em_SH, I4, J1, em_RT lw) Q := by
              iterate 2 refine em_next rfl ?_
              refine em_inv_call rfl (tl_behind (k := 1) hx4 p2 (by omega) (by omega) r6 ?_)
              refine em_inv_call rfl (tl_addSleeper (k := s.n) (r := s.rw) (v := tk_V b L (t + 1 + 1 + 1)) z2 g4 s1.1 s1.2.1 (fun I5 q1 q2 q3 q4 q5 q6 => ?_))
              have y5 : yf I I5 J J1 := ⟨fun a ha => (q1 a (fun q => ha (by rw [q]; decide)) (fun q => ha (by rw [q]; decide))).trans ((yf.w (J := J) wf4).1 a ha), jn⟩
              iterate 2 refine em_next rfl ?_
              refine em_inv_call rfl (tl_take (k := 4) (la := u2) (hx4.keep (q1 _ (by decide) (by decide)) (q1 _ (by decide) (by decide)) rfl) (p2.keep (q1 _ (by decide) (by decide))) (p3.keep (by rw [q1 40 (by decide) (by decide)]) (by rw [q1 40 (by decide) (by decide)])) (by decide) (by decide) (by decide) ?_)
              cases hr4 : tl_tk (tk_K b L) 4 (t + 1 + 1 + 1 + 1) u2 with
              | inl e =>
                have h4 : tl_o b L I J Q (tl_b (tl_tk (tk_K b L) 4 (t + 1 + 1 + 1 + 1) u2) _) := h3
                rw [hr4] at h4
                intro I6 w1 w2
                exact em_done rfl (h4 I6 J1 lw (y5.tr (yf.w w1)) w2)
              | inr x =>
                have h4 : tl_o b L I J Q (tl_b (tl_tk (tk_K b L) 4 (t + 1 + 1 + 1 + 1) u2) _) := h3
                rw [hr4] at h4
                intro I6 w1 w2 w3
                refine em_done rfl (h4 I6 J1 lw (y5.tr (yf.w w1)) w2 w3 (cS.w ?_ w1))
                refine ⟨⟨q3, ?_, (q2 _ (by decide) (by decide)).trans s1.2.2.1, (q2 _ (by decide) (by decide)).trans s1.2.2.2.1, (q2 _ (by decide) (by decide)).trans s1.2.2.2.2⟩, ?_, ?_, ?_, ?_, s6.1.keep (q1 _ (by decide) (by decide)) (q1 _ (by decide) (by decide)), s6.2.1.keep (q1 _ (by decide) (by decide)) (q1 _ (by decide) (by decide)), s6.2.2.1.keep (q1 _ (by decide) (by decide)) (q1 _ (by decide) (by decide)), s6.2.2.2.keep (q1 _ (by decide) (by decide)) (q1 _ (by decide) (by decide))⟩
                · rw [q4]
                  show _ = nI (s.rw + (if tk_V b L (t + 1 + 1) = 1 then 2 ^ s.n else 0))
                  by_cases v : tk_V b L (t + 1 + 1) = 1
                  · rw [if_pos v, if_pos (decide_eq_true v)]
                  · rw [if_neg v, if_neg (by rw [decide_eq_false v]; decide)]
                · intro j hj
                  have hj' : j < s.n + 1 := hj
                  show I5 9 j = nI (tl_up s.hb s.n (tk_V b L (t + 1 + 1 + 1)) j)
                  unfold tl_up
                  by_cases v : j = s.n
                  · rw [if_pos v, v, q5]
                  · rw [if_neg v, q6 j v]; exact s2 j (by omega)
                · rw [q1 _ (by decide) (by decide)]; exact s3
                · intro j hj
                  have hj' : j < s.n + 1 := hj
                  show J1 41 j = lN (tk_N b L (tl_up s.nt s.n (t + 1) j))
                  unfold tl_up
                  by_cases v : j = s.n
                  · rw [if_pos v, v, js]
                  · rw [if_neg v, jo j v]; exact s4 j (by omega)
                · rw [q1 _ (by decide) (by decide)]; exact s5
            iterate 2 refine em_next rfl ?_
            refine em_c_neE rfl (y' := nI 1) rfl (fun z => ?_) (fun z => ?_)
            · rw [decide_eq_false (fun e => z (by rw [show t + 1 + 1 + 1 + 1 - 2 = t + 1 + 1 by omega, e]))] at go
              iterate 1 refine em_next rfl ?_
              exact go
            · rw [decide_eq_true ((nI_eq (a := tk_V b L (t + 1 + 1)) (by omega) (by decide)).mp z)] at go
              iterate 2 refine em_next rfl ?_
              exact go
  · have z2 := Nat.not_lt.mp (fun e => z ((nI_ltI (by omega) (by decide)).mpr e))
    rw [if_pos z2] at h
    iterate 2 refine em_next rfl ?_
    refine em_inv_call rfl (tl_refuse (k := 2) hx hc (fun I1 a1 a2 => ?_))
    exact em_done rfl (h I1 J lw (yf.w a1) a2)
end TELL5
