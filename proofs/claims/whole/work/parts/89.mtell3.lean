/-! the reference is told a cold -/
section MTELL3
variable {d lw : Nat} {b : Nat → Nat} {L nT sd : Nat} {I I0 I' I'' : Nat → Nat → Int32} {J J0 J' J'' : Nat → Nat → Int64} {M : em_M} {Q : Option Value → em_M → Prop}
theorem me_cold_end {j1 j2 c : Nat} {K : Nat → Nat → Int32} (hsd : sd < 2) (hside : K 284 19 = nI sd) (hcc : K 297 sd = nI c) (hj : j1 < 10000) (h1 : j1 ≤ 8 → Q none (em_SH, em_u (em_u (em_u K 297 sd (nI (c + 1))) 296 (9 * sd + j1) (nI j2)) 298 (9 * sd + j1) 1, J, em_RT lw)) (h2 : ¬ j1 ≤ 8 → Q none (em_SH, em_u K 297 sd (nI (c + 1)), J, em_RT lw)) : em_wp em_sc0 d 190 133 [some (.ref 284), some (.int (nI j1)), some (.int (nI j2))] [] (em_SH, K, J, em_RT lw) Q := by
  iterate 5 refine em_next rfl ?_
  refine em_ialE (k := sd) rfl rfl hside hsd (by decide) ?_
  iterate 2 refine em_next rfl ?_
  refine em_tp (y := nI (c + 1)) (by show K 297 sd + 1 = _; rw [hcc, nI_succ]) ?_
  refine em_iasE (k := sd) rfl rfl hside hsd (by decide) ?_
  have s1 : em_u K 297 sd (nI (c + 1)) 284 19 = nI sd := by rw [em_u_row (by decide)]; exact hside
  iterate 3 refine em_next rfl ?_
  refine em_c_leE rfl (y' := nI 8) rfl (fun z => ?_) (fun z => ?_)
  · have z2 := (nI_leI (by omega) (by decide)).mp z
    iterate 9 refine em_next rfl ?_
    refine em_iasE (k := 9 * sd + j1) rfl rfl (em_idxE (c := 9) s1) (by omega) (by decide) ?_
    have s2 : em_u (em_u K 297 sd (nI (c + 1))) 296 (9 * sd + j1) (nI j2) 284 19 = nI sd := by rw [em_u_row (by decide)]; exact s1
    iterate 9 refine em_next rfl ?_
    refine em_basE (k := 9 * sd + j1) (y := 1) rfl rfl (em_idxE (c := 9) s2) (by omega) (by decide) rfl ?_
    iterate 1 refine em_next rfl ?_
    exact em_done rfl (h1 z2)
  · have z2 : ¬ j1 ≤ 8 := fun e => z ((nI_leI (by omega) (by decide)).mpr e)
    exact em_done rfl (h2 z2)
theorem me_tell_cold {t : Nat} {s : tl_S} (hL : L ≤ 2000) (hsd : sd < 2) (hx : mx b L nT I J) (hU : mU b L sd t s I J) (hg : tl_g s) (hk : tk_K b L t = 21) (h : mO b L sd lw I J Q (tl_one (tk_K b L) (tk_V b L) (tk_N b L) (tk_P b L) t s)) : em_wp em_sc0 (d + 6) 190 89 [some (.ref 284), none, none] [] (em_SH, I, J, em_RT lw) Q := by
  obtain ⟨hm, ho, hlt, C, B, hc, hS⟩ := hU
  have hcc9 := hg.2.1
  have h9 : ∀ a ∈ [296, 298], hwd a = 9 ∧ a ∈ HR := by decide
  unfold tl_one at h
  rw [if_neg (by omega), if_pos hk] at h
  iterate 5 refine em_next rfl ?_
  refine em_ialE (k := sd) rfl rfl hS.1.1 hsd (by decide) ?_
  refine em_tp hS.2.1.2.1 ?_
  iterate 1 refine em_next rfl ?_
  refine em_inv_call rfl (me_roomFor hx hm (by omega) hcc9 (fun y1 y2 I1 a1 a2 => ?_) (fun y I1 a1 a2 => ?_))
  rotate_left
  · have e : mO b L sd lw I J Q (.inl (2, t)) := by
      by_cases z : 9 ≤ s.cc
      · rw [if_pos z] at h; exact h
      · rw [if_neg z, show tl_acc t s.la = .inl (2, t) from if_neg (by omega), tl_b_inl] at h; exact h
    iterate 3 refine em_next rfl ?_
    refine em_z_leE a2.1 (fun z => absurd z a2.gt) (fun _ => ?_)
    exact em_done rfl (e I1 J (rfr.bg (bg.g a1)) a2)
  rw [if_neg (by omega), show tl_acc t s.la = .inr (t + 1, s.la) from if_pos y2, tl_b_inr] at h
  -- a fault from here on
  have bad : ∀ (K : Nat → Nat → Int32) (e : tl_E) (j1 j2 : Nat), j1 < 10000 → bg I K → mfl b L K e → mO b L sd lw I J Q (.inl e) → em_wp em_sc0 (d + 6) 190 133 [some (.ref 284), some (.int (nI j1)), some (.int (nI j2))] [] (em_SH, K, J, em_RT lw) Q := fun K e j1 j2 hj k1 k2 k3 => by
    have hS1 := hS.bg k1
    have r1 : rfr sd I (em_u K 297 sd (nI (s.cc + 1))) J J := (rfr.bg k1).tr (rfr.u (by decide) (by rw [show hwd 297 = 1 from rfl]; omega))
    refine me_cold_end hsd hS1.1.1 hS1.2.1.2.1 hj (fun z => ?_) (fun z => ?_)
    · refine k3 _ J ((r1.tr (rfr.u (by decide) (by rw [show hwd 296 = 9 from rfl]; omega))).tr (rfr.u (by decide) (by rw [show hwd 298 = 9 from rfl]; omega))) (k2.keep ?_ ?_)
      · rw [em_u_row (by decide), em_u_row (by decide), em_u_row (by decide)]
      · rw [em_u_row (by decide), em_u_row (by decide), em_u_row (by decide)]
    · exact k3 _ J r1 (k2.keep (by rw [em_u_row (by decide)]) (by rw [em_u_row (by decide)]))
  iterate 3 refine em_next rfl ?_
  refine em_z_leE a2.2.2.2 (fun _ => ?_) (fun z => absurd (by decide) z)
  iterate 3 refine em_next rfl ?_
  refine em_inv_call rfl (me_bounded (m := 8) (la := s.la) hL (hx.g a1) a2 ((hlt.g a1).mono (by omega)) (by decide) (fun z1 z2 e2 I2 b1 b2 b3 => ?_) (fun e e2 I2 j hj b1 b2 => ?_))
  rotate_left
  · dsimp only at h
    rw [e2, tl_b_inl] at h
    iterate 4 refine em_next rfl ?_
    refine em_inv_call rfl (me_bounded_b b2 ?_)
    iterate 3 refine em_next rfl ?_
    refine em_inv_call rfl (me_must_b (k := 4) b2 ?_)
    exact bad I2 e j 0 hj ((bg.g a1).tr b1) b2 h
  have bg2 := (bg.g a1).tr b1
  have hV1 := tk_V_lt z1
  dsimp only at h
  rw [e2, tl_b_inr] at h
  iterate 4 refine em_next rfl ?_
  refine em_inv_call rfl (me_bounded (m := 99) (la := if 8 < tk_V b L (t + 1) then tl_note 5 (tk_P b L (t + 1)) s.la else s.la) hL (hx.bg bg2) b2 b3 (by decide) (fun z3 z4 e3 I3 c1 c2 c3 => ?_) (fun e e3 I3 j hj c1 c2 => ?_))
  rotate_left
  · dsimp only at h
    rw [e3, tl_b_inl] at h
    iterate 3 refine em_next rfl ?_
    refine em_inv_call rfl (me_must_b (k := 4) c2 ?_)
    exact bad I3 e _ j hV1 (bg2.tr c1) c2 h
  have bg3 := bg2.tr c1
  dsimp only at h
  rw [e3, tl_b_inr] at h
  iterate 3 refine em_next rfl ?_
  refine em_inv_call rfl (me_must (k := 4) (hx.bg bg3) c2 (by decide) (by decide) (by decide) (fun z5 z6 _ I4 d1 d2 => ?_) (fun e e4 I4 d1 d2 => ?_))
  rotate_left
  · dsimp only at h
    rw [e4, tl_b_inl] at h
    exact bad I4 e _ _ hV1 (bg3.tr (bg.g d1)) d2 h
  have bg4 := bg3.tr (bg.g d1)
  generalize hla1 : (if 8 < tk_V b L (t + 1) then tl_note 5 (tk_P b L (t + 1)) s.la else s.la) = la1 at h c3
  generalize hla2 : (if 99 < tk_V b L (t + 1 + 1) then tl_note 5 (tk_P b L (t + 1 + 1)) la1 else la1) = la2 at h c3
  have e4 : tl_tk (tk_K b L) 4 (t + 1 + 1 + 1) la2 = .inr (t + 1 + 1 + 1 + 1, la2) := by
    unfold tl_tk tl_acc
    rw [if_pos z5, if_pos z6]
  dsimp only at h
  rw [e4, tl_b_inr] at h
  have hno : la2 = none → s.la = none ∧ tk_V b L (t + 1) ≤ 8 := fun e => by
    rw [← hla2] at e
    have g1 := (tl_if_n e).2
    rw [← hla1] at g1
    have g2 := tl_if_n g1
    exact ⟨g2.2, by omega⟩
  obtain ⟨s1, s2, s3, s4, ⟨k1, k2, k3⟩, s6⟩ := hS.bg bg4
  have hmr : ∀ a ∈ mrows, a ≠ 297 ∧ a ≠ 296 ∧ a ≠ 298 := by decide
  have r1 : rfr sd I (em_u I4 297 sd (nI (s.cc + 1))) J J := (rfr.bg bg4).tr (rfr.u (by decide) (by rw [show hwd 297 = 1 from rfl]; omega))
  refine me_cold_end hsd s1.1 s2.2.1 hV1 (fun z => ?_) (fun z => ?_)
  · have q1 : ∀ a, a ≠ 297 → a ≠ 296 → a ≠ 298 → em_u (em_u (em_u I4 297 sd (nI (s.cc + 1))) 296 (9 * sd + tk_V b L (t + 1)) (nI (tk_V b L (t + 1 + 1)))) 298 (9 * sd + tk_V b L (t + 1)) 1 a = I4 a := fun a x1 x2 x3 => by rw [em_u_row x3, em_u_row x2, em_u_row x1]
    refine h _ J ((r1.tr (rfr.u (by decide) (by rw [show hwd 296 = 9 from rfl]; omega))).tr (rfr.u (by decide) (by rw [show hwd 298 = 9 from rfl]; omega))) ⟨d2.keep (by rw [q1 _ (by decide) (by decide) (by decide)]) (by rw [q1 _ (by decide) (by decide) (by decide)]), ?_, ((c3.g d1).mono (by omega)).keep (by rw [q1 _ (by decide) (by decide) (by decide)]) (by rw [q1 _ (by decide) (by decide) (by decide)]), C, B, fun j => if j = tk_V b L (t + 1) then true else hc j, ?_, ⟨?_, ?_, ?_, ?_, ?_⟩, ⟨?_, fun x1 x2 x3 => ?_, fun x1 x2 => ?_, s3.2.2.2⟩, ⟨fun x1 x2 => ?_, fun x => ?_⟩, ⟨?_, ?_, fun k hk => ⟨(k3 k hk).1.rows (fun a ha => q1 a (hmr a ha).1 (hmr a ha).2.1 (hmr a ha).2.2), (k3 k hk).2⟩⟩, by dsimp only; omega, by dsimp only; omega⟩
    · rw [q1 _ (by decide) (by decide) (by decide), bg4.2 _ (by decide)]; exact ho
    · rw [q1 _ (by decide) (by decide) (by decide)]; exact s1
    · rw [q1 _ (by decide) (by decide) (by decide)]; exact s2.1
    · rw [em_u_row (by decide), em_u_row (by decide), em_u_self]; rfl
    · rw [q1 _ (by decide) (by decide) (by decide)]; exact s2.2.2.1
    · rw [q1 _ (by decide) (by decide) (by decide)]; exact s2.2.2.2.1
    · rw [q1 _ (by decide) (by decide) (by decide)]; exact s2.2.2.2.2
    · rw [q1 _ (by decide) (by decide) (by decide)]; exact s3.1
    · rw [q1 _ (by decide) (by decide) (by decide)]; exact s3.2.1 x1 x2 (hno x3).1
    · show _ = nI ((if tk_V b L (t + 1) < 9 then tl_up s.co (tk_V b L (t + 1)) (tk_V b L (t + 1 + 1)) else s.co) x1)
      rw [if_pos (by omega), em_u_row (by decide)]
      unfold tl_up
      by_cases e : x1 = tk_V b L (t + 1)
      · rw [if_pos e, e, em_u_self]
      · rw [if_neg e, em_u_ne (by omega), em_u_row (by decide)]
        exact s3.2.2.1 x1 x2
    · dsimp only
      by_cases e : x1 = tk_V b L (t + 1)
      · rw [if_pos e, e, em_u_self]; rfl
      · rw [if_neg e, em_u_ne (by omega), em_u_row (by decide), em_u_row (by decide)]
        exact s4.1 x1 x2
    · have g := s4.2 (hno x).1
      show (∀ j, j < 9 → (if j = tk_V b L (t + 1) then true else hc j) = true → j < max s.fc (tk_V b L (t + 1) + 1)) ∧ (0 < max s.fc (tk_V b L (t + 1) + 1) → max s.fc (tk_V b L (t + 1) + 1) ≤ 9 ∧ (if max s.fc (tk_V b L (t + 1) + 1) - 1 = tk_V b L (t + 1) then true else hc (max s.fc (tk_V b L (t + 1) + 1) - 1)) = true)
      refine ⟨fun j hj hh => ?_, fun _ => ⟨?_, ?_⟩⟩
      · by_cases e : j = tk_V b L (t + 1)
        · omega
        · rw [if_neg e] at hh
          have := g.1 j hj hh
          omega
      · by_cases e : 0 < s.fc
        · have := (g.2 e).1; omega
        · omega
      · by_cases e : max s.fc (tk_V b L (t + 1) + 1) - 1 = tk_V b L (t + 1)
        · rw [if_pos e]
        · rw [if_neg e]
          have e2 : max s.fc (tk_V b L (t + 1) + 1) = s.fc := by omega
          rw [e2]
          exact (g.2 (by omega)).2
    · rw [q1 _ (by decide) (by decide) (by decide)]; exact k1
    · rw [q1 _ (by decide) (by decide) (by decide)]; exact k2
  · have q1 : ∀ a, a ≠ 297 → em_u I4 297 sd (nI (s.cc + 1)) a = I4 a := fun a x1 => by rw [em_u_row x1]
    refine h _ J r1 ⟨d2.keep (by rw [q1 _ (by decide)]) (by rw [q1 _ (by decide)]), ?_, ((c3.g d1).mono (by omega)).keep (by rw [q1 _ (by decide)]) (by rw [q1 _ (by decide)]), C, B, hc, ?_, ⟨?_, ?_, ?_, ?_, ?_⟩, ⟨?_, fun x1 x2 x3 => ?_, fun x1 x2 => ?_, s3.2.2.2⟩, ⟨fun x1 x2 => ?_, fun x => ?_⟩, ⟨?_, ?_, fun k hk => ⟨(k3 k hk).1.rows (fun a ha => q1 a (hmr a ha).1), (k3 k hk).2⟩⟩, by dsimp only; omega, by dsimp only; omega⟩
    · rw [q1 _ (by decide), bg4.2 _ (by decide)]; exact ho
    · rw [q1 _ (by decide)]; exact s1
    · rw [q1 _ (by decide)]; exact s2.1
    · rw [em_u_self]; rfl
    · rw [q1 _ (by decide)]; exact s2.2.2.1
    · rw [q1 _ (by decide)]; exact s2.2.2.2.1
    · rw [q1 _ (by decide)]; exact s2.2.2.2.2
    · rw [q1 _ (by decide)]; exact s3.1
    · rw [q1 _ (by decide)]; exact s3.2.1 x1 x2 (hno x3).1
    · show _ = nI ((if tk_V b L (t + 1) < 9 then tl_up s.co (tk_V b L (t + 1)) (tk_V b L (t + 1 + 1)) else s.co) x1)
      rw [if_neg (by omega), q1 _ (by decide)]
      exact s3.2.2.1 x1 x2
    · rw [q1 _ (by decide)]; exact s4.1 x1 x2
    · exact absurd (hno x).2 z
    · rw [q1 _ (by decide)]; exact k1
    · rw [q1 _ (by decide)]; exact k2
end MTELL3
