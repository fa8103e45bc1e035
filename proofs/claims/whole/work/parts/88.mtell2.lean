/-! the reference is told ints -/
section MTELL2
variable {d lw : Nat} {b : Nat → Nat} {L nT sd : Nat} {I I0 I' I'' : Nat → Nat → Int32} {J J0 J' J'' : Nat → Nat → Int64} {M : em_M} {Q : Option Value → em_M → Prop}
theorem me_tell_ring {t : Nat} {s : tl_S} (hL : L ≤ 2000) (hsd : sd < 2) (hx : mx b L nT I J) (hU : mU b L sd t s I J) (hk : tk_K b L t = 26) (h : mO b L sd lw I J Q (tl_one (tk_K b L) (tk_V b L) (tk_N b L) (tk_P b L) t s)) : em_wp em_sc0 (d + 6) 190 186 [some (.ref 284), none, none] [] (em_SH, I, J, em_RT lw) Q := by
  obtain ⟨hm, ho, hlt, C, B, hc, hS⟩ := hU
  unfold tl_one at h
  rw [if_neg (by omega), if_neg (by omega), if_pos hk, tl_told (G := fun v la => tl_m s.n s.rw s.hb s.nt s.cc s.co s.fc v s.bg s.sd s.F la)] at h
  iterate 7 refine em_next rfl ?_
  refine em_inv_call rfl (me_toldInt (m := 1) hL hx hm (by omega) hlt (by decide) (fun I1 j a1 a2 => ?_))
  refine em_iasE (k := sd) rfl rfl hS.1.1 hsd (by decide) ?_
  iterate 1 refine em_next rfl ?_
  have rA : rfr sd I (em_u I1 299 sd (nI j)) J J := (rfr.bg a1).tr (rfr.u (by decide) (by rw [show hwd 299 = 1 from rfl]; omega))
  have q1 : ∀ a, a ≠ 299 → em_u I1 299 sd (nI j) a = I1 a := fun a ha => em_u_row ha
  generalize hX : tl_b (tl_acc t s.la) (fun a => tl_b (tl_int (tk_K b L) (tk_V b L) (tk_P b L) 1 a.1 a.2) (fun c => tl_b (tl_tk (tk_K b L) 4 c.1 c.2) (fun x => (.inr (x.1, x.2) : tl_E ⊕ (Nat × tl_F))))) = X at a2 h
  cases X with
  | inl e =>
    rw [tl_b_inl] at h
    exact em_done rfl (h _ J rA (mfl.keep a2 (by rw [q1 _ (by decide)]) (by rw [q1 _ (by decide)])))
  | inr w =>
    rw [tl_b_inr] at h
    obtain ⟨rfl, a3, a4⟩ := a2
    have tw : t < w.1 ∧ (w.2 = none → s.la = none) := by
      obtain ⟨a, x1, x2⟩ := tl_b_r hX
      obtain ⟨x3, rfl⟩ := tl_acc_r x1
      obtain ⟨c, x4, x5⟩ := tl_b_r x2
      obtain ⟨x, x6, x7⟩ := tl_b_r x5
      cases x7
      obtain ⟨y1, y2, y3⟩ := tl_int_r x4
      obtain ⟨y4, y5, y6⟩ := tl_tk_r x6
      refine ⟨by rw [y6]; dsimp only at y3 ⊢; omega, fun e => ?_⟩
      rw [y6] at e
      unfold tl_int tl_acc at x4
      dsimp only at x4 e
      rw [if_pos y1, if_pos y2] at x4
      cases x4
      exact (tl_if_n e).2
    obtain ⟨s1, s2, s3, s4, ⟨d1, d2, d3⟩, s6⟩ := hS.bg a1
    have hmr : ∀ a ∈ mrows, a ≠ 299 := by decide
    refine em_done rfl (h _ J rA ⟨a3.keep (by rw [q1 _ (by decide)]) (by rw [q1 _ (by decide)]), ?_, a4.keep (by rw [q1 _ (by decide)]) (by rw [q1 _ (by decide)]), C, B, hc, ?_, ⟨?_, ?_, ?_, ?_, ?_⟩, ⟨?_, fun z1 z2 z3 => ?_, ?_, s3.2.2.2⟩, ⟨?_, fun z => s4.2 (tw.2 z)⟩, ⟨?_, ?_, fun k hk => ⟨(d3 k hk).1.rows (fun a ha => q1 a (hmr a ha)), (d3 k hk).2⟩⟩, by dsimp only; omega, by dsimp only; omega⟩)
    · rw [q1 _ (by decide), a1.2 _ (by decide)]; exact ho
    · rw [q1 _ (by decide)]; exact s1
    · rw [q1 _ (by decide)]; exact s2.1
    · rw [q1 _ (by decide)]; exact s2.2.1
    · exact em_u_self
    · rw [q1 _ (by decide)]; exact s2.2.2.2.1
    · rw [q1 _ (by decide)]; exact s2.2.2.2.2
    · rw [q1 _ (by decide)]; exact s3.1
    · rw [q1 _ (by decide)]; exact s3.2.1 z1 z2 (tw.2 z3)
    · rw [q1 _ (by decide)]; exact s3.2.2.1
    · rw [q1 _ (by decide)]; exact s4.1
    · rw [q1 _ (by decide)]; exact d1
    · rw [q1 _ (by decide)]; exact d2
theorem me_tell_begins {t : Nat} {s : tl_S} (hL : L ≤ 2000) (hsd : sd < 2) (hx : mx b L nT I J) (hU : mU b L sd t s I J) (hk : tk_K b L t = 27) (h : mO b L sd lw I J Q (tl_one (tk_K b L) (tk_V b L) (tk_N b L) (tk_P b L) t s)) : em_wp em_sc0 (d + 6) 190 204 [some (.ref 284), none, none] [] (em_SH, I, J, em_RT lw) Q := by
  obtain ⟨hm, ho, hlt, C, B, hc, hS⟩ := hU
  unfold tl_one at h
  rw [if_neg (by omega), if_neg (by omega), if_neg (by omega), if_pos hk, tl_told (G := fun v la => tl_m s.n s.rw s.hb s.nt s.cc s.co s.fc s.rg v s.sd s.F la)] at h
  iterate 7 refine em_next rfl ?_
  refine em_inv_call rfl (me_toldInt (m := 23) hL hx hm (by omega) hlt (by decide) (fun I1 j a1 a2 => ?_))
  refine em_iasE (k := sd) rfl rfl hS.1.1 hsd (by decide) ?_
  iterate 1 refine em_next rfl ?_
  have rA : rfr sd I (em_u I1 300 sd (nI j)) J J := (rfr.bg a1).tr (rfr.u (by decide) (by rw [show hwd 300 = 1 from rfl]; omega))
  have q1 : ∀ a, a ≠ 300 → em_u I1 300 sd (nI j) a = I1 a := fun a ha => em_u_row ha
  generalize hX : tl_b (tl_acc t s.la) (fun a => tl_b (tl_int (tk_K b L) (tk_V b L) (tk_P b L) 23 a.1 a.2) (fun c => tl_b (tl_tk (tk_K b L) 4 c.1 c.2) (fun x => (.inr (x.1, x.2) : tl_E ⊕ (Nat × tl_F))))) = X at a2 h
  cases X with
  | inl e =>
    rw [tl_b_inl] at h
    exact em_done rfl (h _ J rA (mfl.keep a2 (by rw [q1 _ (by decide)]) (by rw [q1 _ (by decide)])))
  | inr w =>
    rw [tl_b_inr] at h
    obtain ⟨rfl, a3, a4⟩ := a2
    have tw : t < w.1 ∧ (w.2 = none → s.la = none) := by
      obtain ⟨a, x1, x2⟩ := tl_b_r hX
      obtain ⟨x3, rfl⟩ := tl_acc_r x1
      obtain ⟨c, x4, x5⟩ := tl_b_r x2
      obtain ⟨x, x6, x7⟩ := tl_b_r x5
      cases x7
      obtain ⟨y1, y2, y3⟩ := tl_int_r x4
      obtain ⟨y4, y5, y6⟩ := tl_tk_r x6
      refine ⟨by rw [y6]; dsimp only at y3 ⊢; omega, fun e => ?_⟩
      rw [y6] at e
      unfold tl_int tl_acc at x4
      dsimp only at x4 e
      rw [if_pos y1, if_pos y2] at x4
      cases x4
      exact (tl_if_n e).2
    obtain ⟨s1, s2, s3, s4, ⟨d1, d2, d3⟩, s6⟩ := hS.bg a1
    have hmr : ∀ a ∈ mrows, a ≠ 300 := by decide
    refine em_done rfl (h _ J rA ⟨a3.keep (by rw [q1 _ (by decide)]) (by rw [q1 _ (by decide)]), ?_, a4.keep (by rw [q1 _ (by decide)]) (by rw [q1 _ (by decide)]), C, B, hc, ?_, ⟨?_, ?_, ?_, ?_, ?_⟩, ⟨?_, fun z1 z2 z3 => ?_, ?_, s3.2.2.2⟩, ⟨?_, fun z => s4.2 (tw.2 z)⟩, ⟨?_, ?_, fun k hk => ⟨(d3 k hk).1.rows (fun a ha => q1 a (hmr a ha)), (d3 k hk).2⟩⟩, by dsimp only; omega, by dsimp only; omega⟩)
    · rw [q1 _ (by decide), a1.2 _ (by decide)]; exact ho
    · rw [q1 _ (by decide)]; exact s1
    · rw [q1 _ (by decide)]; exact s2.1
    · rw [q1 _ (by decide)]; exact s2.2.1
    · rw [q1 _ (by decide)]; exact s2.2.2.1
    · exact em_u_self
    · rw [q1 _ (by decide)]; exact s2.2.2.2.2
    · rw [q1 _ (by decide)]; exact s3.1
    · rw [q1 _ (by decide)]; exact s3.2.1 z1 z2 (tw.2 z3)
    · rw [q1 _ (by decide)]; exact s3.2.2.1
    · rw [q1 _ (by decide)]; exact s4.1
    · rw [q1 _ (by decide)]; exact d1
    · rw [q1 _ (by decide)]; exact d2
theorem me_tell_seed {t : Nat} {s : tl_S} (hL : L ≤ 2000) (hsd : sd < 2) (hx : mx b L nT I J) (hU : mU b L sd t s I J) (hk : tk_K b L t = 28) (h : mO b L sd lw I J Q (tl_one (tk_K b L) (tk_V b L) (tk_N b L) (tk_P b L) t s)) : em_wp em_sc0 (d + 6) 190 223 [some (.ref 284), none, none] [] (em_SH, I, J, em_RT lw) Q := by
  obtain ⟨hm, ho, hlt, C, B, hc, hS⟩ := hU
  unfold tl_one at h
  rw [if_neg (by omega), if_neg (by omega), if_neg (by omega), if_neg (by omega), if_pos hk, tl_told (G := fun v la => tl_m s.n s.rw s.hb s.nt s.cc s.co s.fc s.rg s.bg v s.F la)] at h
  iterate 7 refine em_next rfl ?_
  refine em_inv_call rfl (me_toldInt (m := 9999) hL hx hm (by omega) hlt (by decide) (fun I1 j a1 a2 => ?_))
  refine em_iasE (k := sd) rfl rfl hS.1.1 hsd (by decide) ?_
  iterate 1 refine em_next rfl ?_
  have rA : rfr sd I (em_u I1 301 sd (nI j)) J J := (rfr.bg a1).tr (rfr.u (by decide) (by rw [show hwd 301 = 1 from rfl]; omega))
  have q1 : ∀ a, a ≠ 301 → em_u I1 301 sd (nI j) a = I1 a := fun a ha => em_u_row ha
  generalize hX : tl_b (tl_acc t s.la) (fun a => tl_b (tl_int (tk_K b L) (tk_V b L) (tk_P b L) 9999 a.1 a.2) (fun c => tl_b (tl_tk (tk_K b L) 4 c.1 c.2) (fun x => (.inr (x.1, x.2) : tl_E ⊕ (Nat × tl_F))))) = X at a2 h
  cases X with
  | inl e =>
    rw [tl_b_inl] at h
    exact em_done rfl (h _ J rA (mfl.keep a2 (by rw [q1 _ (by decide)]) (by rw [q1 _ (by decide)])))
  | inr w =>
    rw [tl_b_inr] at h
    obtain ⟨rfl, a3, a4⟩ := a2
    have tw : t < w.1 ∧ (w.2 = none → s.la = none) := by
      obtain ⟨a, x1, x2⟩ := tl_b_r hX
      obtain ⟨x3, rfl⟩ := tl_acc_r x1
      obtain ⟨c, x4, x5⟩ := tl_b_r x2
      obtain ⟨x, x6, x7⟩ := tl_b_r x5
      cases x7
      obtain ⟨y1, y2, y3⟩ := tl_int_r x4
      obtain ⟨y4, y5, y6⟩ := tl_tk_r x6
      refine ⟨by rw [y6]; dsimp only at y3 ⊢; omega, fun e => ?_⟩
      rw [y6] at e
      unfold tl_int tl_acc at x4
      dsimp only at x4 e
      rw [if_pos y1, if_pos y2] at x4
      cases x4
      exact (tl_if_n e).2
    obtain ⟨s1, s2, s3, s4, ⟨d1, d2, d3⟩, s6⟩ := hS.bg a1
    have hmr : ∀ a ∈ mrows, a ≠ 301 := by decide
    refine em_done rfl (h _ J rA ⟨a3.keep (by rw [q1 _ (by decide)]) (by rw [q1 _ (by decide)]), ?_, a4.keep (by rw [q1 _ (by decide)]) (by rw [q1 _ (by decide)]), C, B, hc, ?_, ⟨?_, ?_, ?_, ?_, ?_⟩, ⟨?_, fun z1 z2 z3 => ?_, ?_, s3.2.2.2⟩, ⟨?_, fun z => s4.2 (tw.2 z)⟩, ⟨?_, ?_, fun k hk => ⟨(d3 k hk).1.rows (fun a ha => q1 a (hmr a ha)), (d3 k hk).2⟩⟩, by dsimp only; omega, by dsimp only; omega⟩)
    · rw [q1 _ (by decide), a1.2 _ (by decide)]; exact ho
    · rw [q1 _ (by decide)]; exact s1
    · rw [q1 _ (by decide)]; exact s2.1
    · rw [q1 _ (by decide)]; exact s2.2.1
    · rw [q1 _ (by decide)]; exact s2.2.2.1
    · rw [q1 _ (by decide)]; exact s2.2.2.2.1
    · exact em_u_self
    · rw [q1 _ (by decide)]; exact s3.1
    · rw [q1 _ (by decide)]; exact s3.2.1 z1 z2 (tw.2 z3)
    · rw [q1 _ (by decide)]; exact s3.2.2.1
    · rw [q1 _ (by decide)]; exact s4.1
    · rw [q1 _ (by decide)]; exact d1
    · rw [q1 _ (by decide)]; exact d2
end MTELL2
