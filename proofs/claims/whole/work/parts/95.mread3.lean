/-! the reference reads, three -/
def mR_o (lw lv : Nat) (p : em_Pn) (W : em_Wt) (u : Nat) (H : Nat → em_Wt) (hl : Nat → Bool) (S : Nat → em_Wt) (T : Nat) (D : em_Td) (tp : Nat → Int32) (I : Nat → Nat → Int32) (J : Nat → Nat → Int64) (Q : Option Value → em_M → Prop) (r : tl_E ⊕ tl_S) : Prop := match r with
  | .inl e => ∀ (I' : Nat → Nat → Int32) (J' : Nat → Nat → Int64), (∀ a, a < 284 → I' a = I a) → (∀ a, a < 284 → J' a = J a) → mk_J J' → MI I' lv p W u H hl S T D 0 tp (nI e.2) → 1 ≤ e.1 ∧ e.1 < 9 → Q (some (.int (nI e.1))) (em_SH, I', J', em_RT lw)
  | .inr s => ∀ (I' : Nat → Nat → Int32) (J' : Nat → Nat → Int64), (∀ a, a < 284 → I' a = I a) → (∀ a, a < 284 → J' a = J a) → mk_J J' → MI I' (1 - lv) (rp s) (rW s) 0 H (fun _ => false) S 0 D 0 tp (-1) → tl_v s → tl_g s → Q (some (.int 0)) (em_SH, I', J', em_RT lw)
section MREAD3
variable {d lw lv : Nat} {p : em_Pn} {W W' : em_Wt} {u : Nat} {H : Nat → em_Wt} {hl : Nat → Bool} {S : Nat → em_Wt} {T : Nat} {D : em_Td} {L : Nat} {tp : Nat → Int32} {pc : Int32} {b : Nat → Nat} {nT sd : Nat} {I I0 I' I'' : Nat → Nat → Int32} {J J0 J' J'' : Nat → Nat → Int64} {M : em_M} {Q : Option Value → em_M → Prop}
theorem mS0.m {t C B : Nat} {s : tl_S} {hc : Nat → Bool} (h : mS0 b L sd t s I J C B hc) (f1 : ∀ a, a ≠ 284 → I' a = I a) (f2 : ∀ j ∈ [19, 20, 39, 33], I' 284 j = I 284 j) : mS0 b L sd t s I' J C B hc := by
  obtain ⟨⟨a1, a2⟩, h2, h3, h4, ⟨d1, d2, d3⟩, h6⟩ := h
  have hm : ∀ a ∈ mrows, a ≠ 284 := by decide
  refine ⟨⟨(f2 _ (by decide)).trans a1, (f2 _ (by decide)).trans a2⟩, ?_, ?_, ?_, ⟨(f2 _ (by decide)).trans d1, (f2 _ (by decide)).trans d2, fun k hk => ⟨(d3 k hk).1.rows (fun a ha => f1 a (hm a ha)), (d3 k hk).2⟩⟩, h6⟩
  · rw [f1 _ (by decide), f1 _ (by decide), f1 _ (by decide), f1 _ (by decide), f1 _ (by decide)]; exact h2
  · rw [f1 _ (by decide), f1 _ (by decide), f1 _ (by decide)]; exact h3
  · rw [f1 _ (by decide)]; exact h4
theorem rdf.lo (h : rdf sd I I' J J') : (∀ a, a < 284 → I' a = I a) ∧ (∀ a, a < 284 → J' a = J a) := ⟨fun a ha => h.1 a (by simp [HR]; omega), fun a ha => h.2.2.2.2 a (by omega) (by omega)⟩
theorem rdf.K (h : rdf sd I I' J J') (hK : mk_J J) : mk_J J' := fun k hk => by rw [h.2.2.2.2 _ (by decide) (by decide)]; exact hK k hk
theorem ma_read (hlv : lv < 2) (hM : MI I lv p W u H hl S T D L tp pc) (hK : mk_J J) (h : mR_o lw lv p W u H hl S T D tp I J Q (tl_read (bt tp) L)) : em_call (d + 7) 185 [.ref 284] (em_SH, I, J, em_RT lw) Q := by
  have sd2 : 1 - lv < 2 := by omega
  refine me_read_1 hlv hM hK (fun I1 J1 nT a1 a2 a3 => ?_)
  have hL : L ≤ 2000 := hM.2.2.2.2.2.2.1.1
  refine me_tells_l (m := 401) (t := 0) (s := tl_0) (by decide) hL sd2 a2 a3 tl_w0 ?_
  unfold tl_read at h
  cases hr : tl_run (tk_K (bt tp) L) (tk_V (bt tp) L) (tk_N (bt tp) L) (tk_P (bt tp) L) 401 0 tl_0 with
  | inl e =>
    rw [hr] at h
    intro I2 J2 b1 b2
    have rd2 := a1.r b1
    iterate 3 refine em_next rfl ?_
    refine em_z_neE b2.1 (fun _ => ?_) (fun z => absurd z b2.ne)
    iterate 4 refine em_next rfl ?_
    refine em_z_leE b2.1 (fun z => absurd z b2.gt) (fun _ => ?_)
    iterate 4 refine em_next rfl ?_
    show em_wp em_sc0 (d + 7) 185 _ _ _ (em_SH, em_u I2 284 17 (I2 284 14), J2, em_RT lw) Q
    rw [b2.2.1]
    have rd3 := rd2.um (j := 17) (x := nI (tk_P (bt tp) L e.2)) (by decide)
    have f3 : em_u I2 284 17 (nI (tk_P (bt tp) L e.2)) 284 13 = nI e.1 := by rw [em_u_ne (by decide)]; exact b2.1
    have p3 : em_u I2 284 17 (nI (tk_P (bt tp) L e.2)) 284 17 = nI (tk_P (bt tp) L e.2) := em_u_self
    generalize em_u I2 284 17 (nI (tk_P (bt tp) L e.2)) = K3 at rd3 f3 p3 ⊢
    iterate 3 refine em_next rfl ?_
    refine em_z_leE f3 (fun z => absurd z b2.gt) (fun _ => ?_)
    iterate 2 refine em_next rfl ?_
    exact em_doneE rfl f3 (h K3 J2 rd3.lo.1 rd3.lo.2 (rd3.K hK) (hM.rd hlv rd3 p3) b2.2.2)
  | inr w =>
    rw [hr] at h
    have hvw := tl_run_v (fun t h => tk_V_lt h) tl_v0 tl_w0 hr
    intro I2 J2 b1 b2 b3 b4
    have rd2 := a1.r b1
    obtain ⟨hm, ho, hlt, C, B, hc, hS⟩ := b2
    have ht := hm.1
    have x2 : mx (bt tp) L nT I2 J2 := a2.r b1
    -- with all noted
    have key : ∀ (K : Nat → Nat → Int32) (la : tl_F), mlt (bt tp) L (w.1 + 1) K la → K 284 13 = nI 0 → rdf (1 - lv) I K J J2 → mS0 (bt tp) L (1 - lv) w.1 w.2 K J2 C B hc → la = (if w.2.n < w.2.fc then tl_note 6 L w.2.la else w.2.la) → em_wp em_sc0 (d + 7) 185 158 [some (.ref 284), some (.int (nI L))] [] (em_SH, K, J2, em_RT lw) Q := fun K la k1 k2 k3 k4 k5 => by
      unfold tl_fin at h
      dsimp only at h
      rw [← k5] at h
      iterate 4 refine em_next rfl ?_
      refine em_z_leE k2 (fun _ => ?_) (fun z => absurd (by decide) z)
      iterate 3 refine em_next rfl ?_
      cases la with
      | none =>
        have e1 : K 284 15 = nI 0 := k1
        refine em_z_leE e1 (fun _ => ?_) (fun z => absurd (by decide) z)
        iterate 2 refine em_next rfl ?_
        show em_wp em_sc0 (d + 7) 185 _ _ _ (em_SH, em_u K 284 17 (-1), J2, em_RT lw) Q
        have rd3 := k3.um (j := 17) (x := -1) (by decide)
        have q3 : ∀ j, j ≠ 17 → em_u K 284 17 (-1) 284 j = K 284 j := fun j hj => em_u_ne hj
        have p3 : em_u K 284 17 (-1) 284 17 = -1 := em_u_self
        have S3 := k4.m (I' := em_u K 284 17 (-1)) (fun a ha => em_u_row ha) (fun j hj => q3 j (by revert j; decide))
        generalize em_u K 284 17 (-1) = K3 at rd3 q3 p3 S3 ⊢
        iterate 3 refine em_next rfl ?_
        refine em_z_leE (x' := nI 0) ((q3 _ (by decide)).trans k2) (fun _ => ?_) (fun z => absurd (by decide) z)
        iterate 3 refine em_next rfl ?_
        refine em_z_leE (x' := nI 0) ((q3 _ (by decide)).trans e1) (fun _ => ?_) (fun z => absurd (by decide) z)
        have hla : w.2.la = none := (tl_if_n k5.symm).2
        exact me_read_ok hlv hM rd3 S3 ht b3.1 hvw.1 hla p3 (fun I' c1 c2 => h I' J2 (fun a ha => (c1 a ha).trans (rd3.lo.1 a ha)) rd3.lo.2 (rd3.K hK) c2 hvw.1 b3.1)
      | some q =>
        obtain ⟨e1, e2, ⟨e3, e4⟩, e5⟩ := k1
        refine em_z_leE e1 (fun z => absurd z (nI_nle (by omega) (by omega))) (fun _ => ?_)
        iterate 4 refine em_next rfl ?_
        show em_wp em_sc0 (d + 7) 185 _ _ _ (em_SH, em_u K 284 17 (K 284 16), J2, em_RT lw) Q
        rw [e2]
        have rd3 := k3.um (j := 17) (x := nI q.2) (by decide)
        have q3 : ∀ j, j ≠ 17 → em_u K 284 17 (nI q.2) 284 j = K 284 j := fun j hj => em_u_ne hj
        have p3 : em_u K 284 17 (nI q.2) 284 17 = nI q.2 := em_u_self
        generalize em_u K 284 17 (nI q.2) = K3 at rd3 q3 p3 ⊢
        iterate 3 refine em_next rfl ?_
        refine em_z_leE (x' := nI 0) ((q3 _ (by decide)).trans k2) (fun _ => ?_) (fun z => absurd (by decide) z)
        iterate 3 refine em_next rfl ?_
        refine em_z_leE (x' := nI q.1) ((q3 _ (by decide)).trans e1) (fun z => absurd z (nI_nle (by omega) (by omega))) (fun _ => ?_)
        iterate 2 refine em_next rfl ?_
        exact em_doneE rfl ((q3 _ (by decide)).trans e1) (h K3 J2 rd3.lo.1 rd3.lo.2 (rd3.K hK) (hM.rd hlv rd3 p3) ⟨e3, e4⟩)
    have hS' := hS
    obtain ⟨⟨s1, s1'⟩, s2, s3, s4, s5, s6⟩ := hS'
    iterate 3 refine em_next rfl ?_
    refine em_z_neE hm.2.2.2 (fun z => absurd rfl z) (fun _ => ?_)
    iterate 1 refine em_next rfl ?_
    refine em_inv_call rfl (me_areBeds (hc := hc) (n := w.2.n) sd2 b3.1.1 s1 s2.1 s4.1 (fun hz => ?_) (fun j j1 j2 hz => ?_))
    · iterate 1 refine em_next rfl ?_
      refine em_z_ne (fun _ => ?_) (fun z => absurd z (by decide))
      refine key I2 w.2.la (hlt.mono (by omega)) hm.2.2.2 rd2 hS ?_
      by_cases e : w.2.n < w.2.fc
      · rw [if_pos e]
        cases hla : w.2.la with
        | none =>
          have g := (s4.2 hla).2 (by omega)
          exact absurd (hz (w.2.fc - 1) (by omega) (by omega)) (by rw [g.2]; decide)
        | some q => rfl
      · rw [if_neg e]
    · iterate 1 refine em_next rfl ?_
      refine em_z_ne (fun z => absurd rfl z) (fun _ => ?_)
      iterate 4 refine em_next rfl ?_
      refine em_tp hm.2.2.1 ?_
      refine em_inv_call rfl (me_wrong (k := 6) (u := w.1) (la := w.2.la) hL x2 ht (x2.lt ht hm.2.1) hm.2.1 hm.2.2.2 (by decide) (Or.inl hlt) (fun I3 c1 c2 c3 => ?_))
      have g3 : bg I2 I3 := ⟨c1, fun j hj => c2 j (fun e => hj (by rw [e]; decide)) (fun e => hj (by rw [e]; decide))⟩
      refine key I3 _ c3 ((c2 _ (by decide) (by decide)).trans hm.2.2.2) (rd2.r (rfr.bg g3)) (hS.bg g3) ?_
      rw [tk_K_end b4]
      cases hla : w.2.la with
      | none =>
        have g := (s4.2 hla).1 j j2 hz
        rw [if_pos (by omega)]
      | some q =>
        by_cases e : w.2.n < w.2.fc
        · rw [if_pos e]
        · rw [if_neg e]; rfl
end MREAD3
