/-! the class takes colds and sleepers -/
section TELL3
variable {d lw : Nat} {b : Nat → Nat} {L n : Nat} {I I0 I' I'' : Nat → Nat → Int32} {J J0 J' J'' : Nat → Nat → Int64} {M : em_M} {Q : Option Value → em_M → Prop}
theorem nI_p1 (a : Nat) : nI (a + 1) - 1 = nI a := nI_subN (a := a + 1) (b := 1) (by omega)
theorem tl_mx {f v : Nat} (hf : f ≤ 10000) (hv : v < 10000) : (if nI f - 1 < nI v then nI v else nI f - 1) = nI (max f (v + 1)) - 1 := by
  cases f with
  | zero =>
    have e : nI 0 - 1 < nI v := by
      rw [Int32.lt_iff_toInt_lt, nI_toInt (by omega), show (nI 0 - 1).toInt = -1 from by decide]
      omega
    rw [if_pos e, show max 0 (v + 1) = v + 1 by omega, nI_p1]
  | succ m =>
    rw [nI_p1, em_mxE (by omega) (by omega)]
    by_cases e : m < v
    · rw [if_pos e, show max (m + 1) (v + 1) = v + 1 by omega, nI_p1]
    · rw [if_neg e, show max (m + 1) (v + 1) = m + 1 by omega, nI_p1]
theorem tl_setCold {v w : Nat} (hv : v < 10000) (h : Q none (em_SH, (if v < 9 then em_u I 10 v (nI w) else I), J, em_RT lw)) : em_call (d + 1) 34 [.ref 8, .int (nI v), .int (nI w)] (em_SH, I, J, em_RT lw) Q := by
  iterate 3 refine em_next rfl ?_
  refine em_inv_call rfl (ce_within ?_)
  by_cases e : v < 9
  · rw [if_pos e] at h
    have e2 : (0 : Int32) ≤ nI v ∧ nI v ≤ 8 := ⟨(nI_leI (a := 0) (b := v) (by decide) (by omega)).mpr (by omega), (nI_leI (a := v) (b := 8) (by omega) (by decide)).mpr (by omega)⟩
    refine em_tp (y := 1) ?_ ?_
    · show em_bo (Int32.ofInt 0 ≤ nI v ∧ nI v ≤ Int32.ofInt 8) = 1
      exact if_pos e2
    iterate 1 refine em_next rfl ?_
    refine em_z_eq (fun q => absurd q (by decide)) (fun _ => ?_)
    iterate 4 refine em_next rfl ?_
    refine em_iasE (k := v) rfl rfl rfl e (by decide) ?_
    exact em_done rfl h
  · rw [if_neg e] at h
    have e2 : ¬ ((0 : Int32) ≤ nI v ∧ nI v ≤ 8) := fun q => e (by have := (nI_leI (a := v) (b := 8) (by omega) (by decide)).mp q.2; omega)
    refine em_tp (y := 0) ?_ ?_
    · show em_bo (Int32.ofInt 0 ≤ nI v ∧ nI v ≤ Int32.ofInt 8) = 0
      exact if_neg e2
    iterate 1 refine em_next rfl ?_
    refine em_z_eq (fun _ => ?_) (fun q => absurd rfl q)
    exact em_done rfl h
theorem tl_takeCold {t : Nat} {s : tl_S} (hx : cx b L n I J) (hc : cat b L t I) (hl : lat I s.la) (hS : cS b L s I J) (hg : tl_g s) (hk : tk_K b L t = 21) (h : tl_o b L I J Q (tl_one (tk_K b L) (tk_V b L) (tk_N b L) (tk_P b L) t s)) : em_call (d + 2) 73 [.ref 40] (em_SH, I, J, em_RT lw) Q := by
  unfold tl_one at h
  rw [if_neg (by omega), if_pos hk] at h
  obtain ⟨g1, g2, g3, g4⟩ := hg
  obtain ⟨s1, s2, s3, s4, s5, s6⟩ := hS
  iterate 4 refine em_next rfl ?_
  refine em_c_ltE s5.1 (y' := nI 9) rfl (fun z => ?_) (fun z => ?_)
  · have z2 := (nI_ltI (by omega) (by decide)).mp z
    rw [if_neg (by omega)] at h
    iterate 5 refine em_next rfl ?_
    refine em_tp (y := nI (s.cc + 1)) ?_ ?_
    · show I 40 10 + 1 = nI (s.cc + 1)
      rw [s5.1, nI_succ]
    iterate 1 refine em_next rfl ?_
    show em_wp em_sc0 (d + 2) 73 _ _ _ (em_SH, em_u I 40 10 (nI (s.cc + 1)), J, em_RT lw) Q
    have k0 : ∀ a, a ≠ 40 → em_u I 40 10 (nI (s.cc + 1)) a = I a := fun a ha => em_u_row ha
    have k1 : ∀ j, j ≠ 10 → em_u I 40 10 (nI (s.cc + 1)) 40 j = I 40 j := fun j hj => em_u_ne hj
    have k2 : em_u I 40 10 (nI (s.cc + 1)) 40 10 = nI (s.cc + 1) := em_u_self
    have k3 : yf I (em_u I 40 10 (nI (s.cc + 1))) J J := yf.u (by decide)
    generalize em_u I 40 10 (nI (s.cc + 1)) = I0 at k0 k1 k2 k3
    have hx0 : cx b L n I0 J := hx.keep (k0 _ (by decide)) (k0 _ (by decide)) rfl
    have hc0 : cat b L t I0 := ⟨hc.1, hc.2.1, (k1 _ (by decide)).trans hc.2.2.1, (k1 _ (by decide)).trans hc.2.2.2⟩
    have hl0 : lat I0 s.la := hl.keep (k1 _ (by decide)) (k1 _ (by decide))
    iterate 1 refine em_next rfl ?_
    refine em_inv_call rfl (tl_accept hx0 hc0 hl0 (by omega) ?_)
    cases hr : tl_acc t s.la with
    | inl e =>
      rw [hr] at h
      intro I1 a1 a2
      iterate 1 refine em_next rfl ?_
      refine em_z_eq (fun _ => ?_) (fun q => absurd rfl q)
      iterate 1 refine em_next rfl ?_
      exact em_done rfl (h I1 J lw (k3.tr (yf.w a1)) a2)
    | inr a =>
      rw [hr] at h
      obtain ⟨r1, rfl⟩ := tl_acc_r hr
      intro I1 a1 a2 a3
      iterate 1 refine em_next rfl ?_
      refine em_z_eq (fun q => absurd q (by decide)) (fun _ => ?_)
      iterate 2 refine em_next rfl ?_
      refine em_inv_call rfl (tl_takeInt (m := 8) (hx0.w a1) a2 a3 (by decide) ?_)
      cases hr2 : tl_int (tk_K b L) (tk_V b L) (tk_P b L) 8 (t + 1) s.la with
      | inl e =>
        have h' : tl_o b L I J Q (tl_b (tl_int (tk_K b L) (tk_V b L) (tk_P b L) 8 (t + 1) s.la) _) := h
        rw [hr2] at h'
        intro I2 b1 b2
        iterate 1 refine em_next rfl ?_
        refine em_z_eq (fun _ => ?_) (fun q => absurd rfl q)
        iterate 1 refine em_next rfl ?_
        exact em_done rfl (h' I2 J lw (k3.tr (yf.w (a1.tr b1))) b2)
      | inr c =>
        have h' : tl_o b L I J Q (tl_b (tl_int (tk_K b L) (tk_V b L) (tk_P b L) 8 (t + 1) s.la) _) := h
        rw [hr2] at h'
        obtain ⟨r2, r3, r4⟩ := tl_int_r hr2
        obtain ⟨c1, c2⟩ := c
        have r5 : c1 = t + 1 + 1 := r4
        subst r5
        intro I2 b1 b2 b3
        have wf2 := a1.tr b1
        iterate 1 refine em_next rfl ?_
        refine em_z_eq (fun q => absurd q (by decide)) (fun _ => ?_)
        iterate 2 refine em_next rfl ?_
        refine em_inv_call rfl (tl_takeInt (m := 99) (hx0.w wf2) b2 b3 (by decide) ?_)
        cases hr3 : tl_int (tk_K b L) (tk_V b L) (tk_P b L) 99 (t + 1 + 1) c2 with
        | inl e =>
          have h2 : tl_o b L I J Q (tl_b (tl_int (tk_K b L) (tk_V b L) (tk_P b L) 99 (t + 1 + 1) c2) _) := h'
          rw [hr3] at h2
          intro I3 d1 d2
          iterate 1 refine em_next rfl ?_
          refine em_z_ne (fun q => absurd rfl q) (fun _ => ?_)
          iterate 1 refine em_next rfl ?_
          exact em_done rfl (h2 I3 J lw (k3.tr (yf.w (wf2.tr d1))) d2)
        | inr e =>
          have h2 : tl_o b L I J Q (tl_b (tl_int (tk_K b L) (tk_V b L) (tk_P b L) 99 (t + 1 + 1) c2) _) := h'
          rw [hr3] at h2
          obtain ⟨r6, r7, r8⟩ := tl_int_r hr3
          obtain ⟨e1, e2⟩ := e
          have r9 : e1 = t + 1 + 1 + 1 := r8
          subst r9
          intro I3 d1 d2 d3
          have wf3 := wf2.tr d1
          have hV1 := tk_V_lt r2
          have hV2 := tk_V_lt r6
          iterate 1 refine em_next rfl ?_
          refine em_z_ne (fun _ => ?_) (fun q => absurd q (by decide))
          iterate 4 refine em_next rfl ?_
          refine em_inv_call rfl (tl_behind (k := 2) (hx0.w wf3) d2 (by omega) (by omega) r2 ?_)
          iterate 2 refine em_next rfl ?_
          refine em_inv_call rfl (tl_behind (k := 1) (hx0.w wf3) d2 (by omega) (by omega) r6 ?_)
          refine em_inv_call rfl (tl_setCold (v := tk_V b L (t + 1)) (w := tk_V b L (t + 1 + 1)) hV1 ?_)
          have m0 : ∀ a, a ≠ 10 → (if tk_V b L (t + 1) < 9 then em_u I3 10 (tk_V b L (t + 1)) (nI (tk_V b L (t + 1 + 1))) else I3) a = I3 a := fun a ha => by
            split
            · exact em_u_row ha
            · rfl
          have m1 : ∀ j, j < 9 → (if tk_V b L (t + 1) < 9 then em_u I3 10 (tk_V b L (t + 1)) (nI (tk_V b L (t + 1 + 1))) else I3) 10 j = nI ((if tk_V b L (t + 1) < 9 then tl_up s.co (tk_V b L (t + 1)) (tk_V b L (t + 1 + 1)) else s.co) j) := fun j hj => by
            have o : I3 10 j = nI (s.co j) := by rw [wf3.1 _ (by decide), k0 _ (by decide)]; exact s3 j hj
            split
            · unfold tl_up
              by_cases q : j = tk_V b L (t + 1)
              · rw [if_pos q, q, em_u_self]
              · rw [if_neg q, em_u_ne q]; exact o
            · exact o
          have m2 : yf I3 (if tk_V b L (t + 1) < 9 then em_u I3 10 (tk_V b L (t + 1)) (nI (tk_V b L (t + 1 + 1))) else I3) J J := by
            split
            · exact yf.u (by decide)
            · exact yf.rf
          generalize (if tk_V b L (t + 1) < 9 then em_u I3 10 (tk_V b L (t + 1)) (nI (tk_V b L (t + 1 + 1))) else I3) = I4 at m0 m1 m2
          have hx4 : cx b L n I4 J := (hx0.w wf3).keep (m0 _ (by decide)) (m0 _ (by decide)) rfl
          have hc4 : cat b L (t + 1 + 1 + 1) I4 := d2.keep (m0 _ (by decide))
          have f4 : I4 40 11 = nI s.fc - 1 := by rw [m0 _ (by decide), wf3.2 _ (by decide), k1 _ (by decide)]; exact s5.2
          iterate 5 refine em_next rfl ?_
          refine em_inv_call rfl (tl_behind (k := 2) hx4 hc4 (by omega) (by omega) r2 ?_)
          iterate 1 refine em_next rfl ?_
          refine em_tp (y := nI (max s.fc (tk_V b L (t + 1) + 1)) - 1) ?_ ?_
          · show (if I4 40 11 < nI (tk_V b L (t + 1)) then nI (tk_V b L (t + 1)) else I4 40 11) = _
            rw [f4]
            exact tl_mx g3 hV1
          iterate 3 refine em_next rfl ?_
          show em_wp em_sc0 (d + 2) 73 _ _ _ (em_SH, em_u I4 40 11 (nI (max s.fc (tk_V b L (t + 1) + 1)) - 1), J, em_RT lw) Q
          have n0 : ∀ a, a ≠ 40 → em_u I4 40 11 (nI (max s.fc (tk_V b L (t + 1) + 1)) - 1) a = I4 a := fun a ha => em_u_row ha
          have n1 : ∀ j, j ≠ 11 → em_u I4 40 11 (nI (max s.fc (tk_V b L (t + 1) + 1)) - 1) 40 j = I4 40 j := fun j hj => em_u_ne hj
          have n2 : em_u I4 40 11 (nI (max s.fc (tk_V b L (t + 1) + 1)) - 1) 40 11 = nI (max s.fc (tk_V b L (t + 1) + 1)) - 1 := em_u_self
          have n3 : yf I4 (em_u I4 40 11 (nI (max s.fc (tk_V b L (t + 1) + 1)) - 1)) J J := yf.u (by decide)
          generalize em_u I4 40 11 (nI (max s.fc (tk_V b L (t + 1) + 1)) - 1) = I5 at n0 n1 n2 n3
          have y5 : yf I I5 J J := (k3.tr (yf.w wf3)).tr (m2.tr n3)
          have all : ∀ a, a ≠ 40 → a ≠ 10 → I5 a = I a := fun a z1 z2 => by rw [n0 a z1, m0 a z2, wf3.1 a z1, k0 a z1]
          refine em_inv_call rfl (tl_take (k := 4) (la := e2) (hx4.keep (n0 _ (by decide)) (n0 _ (by decide)) rfl) ⟨hc4.1, hc4.2.1, (n1 _ (by decide)).trans hc4.2.2.1, (n1 _ (by decide)).trans hc4.2.2.2⟩ (d3.keep (by rw [n1 _ (by decide), m0 _ (by decide)]) (by rw [n1 _ (by decide), m0 _ (by decide)])) (by decide) (by decide) (by decide) ?_)
          cases hr4 : tl_tk (tk_K b L) 4 (t + 1 + 1 + 1) e2 with
          | inl e =>
            have h3 : tl_o b L I J Q (tl_b (tl_tk (tk_K b L) 4 (t + 1 + 1 + 1) e2) _) := h2
            rw [hr4] at h3
            intro I6 p1 p2
            exact em_done rfl (h3 I6 J lw (y5.tr (yf.w p1)) p2)
          | inr x =>
            have h3 : tl_o b L I J Q (tl_b (tl_tk (tk_K b L) 4 (t + 1 + 1 + 1) e2) _) := h2
            rw [hr4] at h3
            intro I6 p1 p2 p3
            refine em_done rfl (h3 I6 J lw (y5.tr (yf.w p1)) p2 p3 (cS.w ?_ p1))
            refine ⟨?_, ?_, ?_, s4, ⟨?_, n2⟩, s6.1.keep (all _ (by decide) (by decide)) (all _ (by decide) (by decide)), s6.2.1.keep (all _ (by decide) (by decide)) (all _ (by decide) (by decide)), s6.2.2.1.keep (all _ (by decide) (by decide)) (all _ (by decide) (by decide)), s6.2.2.2.keep (all _ (by decide) (by decide)) (all _ (by decide) (by decide))⟩
            · rw [all _ (by decide) (by decide)]; exact s1
            · rw [all _ (by decide) (by decide)]; exact s2
            · rw [n0 _ (by decide)]; exact m1
            · rw [n1 _ (by decide), m0 _ (by decide), wf3.2 _ (by decide)]; exact k2
  · have z2 := Nat.not_lt.mp (fun e => z ((nI_ltI (by omega) (by decide)).mpr e))
    rw [if_pos z2] at h
    iterate 2 refine em_next rfl ?_
    refine em_inv_call rfl (tl_refuse (k := 2) hx hc (fun I1 a1 a2 => ?_))
    exact em_done rfl (h I1 J lw (yf.w a1) a2)
end TELL3
