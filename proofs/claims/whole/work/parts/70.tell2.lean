/-! the class takes what is told -/
def cL (I : Nat → Nat → Int32) (q k : Nat) (l : ek_lw) : Prop := cw I q (cfl (lsome k l).1 (lsome k l).2) (match l with | none => false | some y => y.1.any (fun z => hp z.1 || (hp z.2.1 || hp z.2.2)) || hp y.2)
def cS (b : Nat → Nat) (L : Nat) (s : tl_S) (I : Nat → Nat → Int32) (J : Nat → Nat → Int64) : Prop :=
  (I 8 7 = nI s.n ∧ I 8 8 = nI s.rw ∧ I 8 9 = em_bb (decide (s.rg = 1)) ∧ I 8 10 = nI s.bg ∧ I 8 11 = nI s.sd) ∧
  (∀ j, j < s.n → I 9 j = nI (s.hb j)) ∧ (∀ j, j < 9 → I 10 j = nI (s.co j)) ∧ (∀ j, j < s.n → J 41 j = lN (tk_N b L (s.nt j))) ∧
  (I 40 10 = nI s.cc ∧ I 40 11 = nI s.fc - 1) ∧
  (cL I 11 0 (s.F 0) ∧ cL I 14 1 (s.F 1) ∧ cL I 17 2 (s.F 2) ∧ cL I 20 3 (s.F 3))
/-- what is sure of the told -/
def tl_g (s : tl_S) : Prop := s.n ≤ 9 ∧ s.cc ≤ 9 ∧ s.fc ≤ 10000 ∧ s.rw < 2 ^ s.n
def ycells : List Nat := [40, 8, 9, 10, 11, 11 + 1, 14, 14 + 1, 17, 17 + 1, 20, 20 + 1]
def yf (I I' : Nat → Nat → Int32) (J J' : Nat → Nat → Int64) : Prop := (∀ a, a ∉ ycells → I' a = I a) ∧ ∀ a, a ≠ 41 → J' a = J a
theorem yf.rf {I : Nat → Nat → Int32} {J : Nat → Nat → Int64} : yf I I J J := ⟨fun _ _ => rfl, fun _ _ => rfl⟩
theorem yf.tr {I I' I'' : Nat → Nat → Int32} {J J' J'' : Nat → Nat → Int64} (h : yf I I' J J') (h' : yf I' I'' J' J'') : yf I I'' J J'' := ⟨fun a z => (h'.1 a z).trans (h.1 a z), fun j hj => (h'.2 j hj).trans (h.2 j hj)⟩
theorem yf.w {I I' : Nat → Nat → Int32} {J : Nat → Nat → Int64} (h : wf I I') : yf I I' J J := ⟨fun a ha => h.1 a (fun q => ha (by rw [q]; decide)), fun _ _ => rfl⟩
theorem yf.u {I : Nat → Nat → Int32} {J : Nat → Nat → Int64} {c j : Nat} {x : Int32} (hc : c ∈ ycells) : yf I (em_u I c j x) J J := ⟨fun a ha => em_u_row (fun q => ha (by rw [q]; exact hc)), fun _ _ => rfl⟩
def tl_o (b : Nat → Nat) (L : Nat) (I : Nat → Nat → Int32) (J : Nat → Nat → Int64) (Q : Option Value → em_M → Prop) (r : tl_E ⊕ (Nat × tl_S)) : Prop := match r with
  | .inl e => ∀ (I' : Nat → Nat → Int32) (J' : Nat → Nat → Int64) (lw : Nat), yf I I' J J' → flt b L I' e → Q (some (.int 0)) (em_SH, I', J', em_RT lw)
  | .inr w => ∀ (I' : Nat → Nat → Int32) (J' : Nat → Nat → Int64) (lw : Nat), yf I I' J J' → cat b L w.1 I' → lat I' w.2.la → cS b L w.2 I' J' → Q (some (.int 1)) (em_SH, I', J', em_RT lw)
theorem tl_o.c {b : Nat → Nat} {L : Nat} {I : Nat → Nat → Int32} {J : Nat → Nat → Int64} {Q Q' : Option Value → em_M → Prop} {r : tl_E ⊕ (Nat × tl_S)} (h : tl_o b L I J Q r) (hQ : ∀ (v : Int32) (M : em_M), (v = 0 ∨ v = 1) → Q (some (.int v)) M → Q' (some (.int v)) M) : tl_o b L I J Q' r := by
  cases r with
  | inl e => exact fun I' J' lw z1 z2 => hQ 0 _ (Or.inl rfl) (h I' J' lw z1 z2)
  | inr w => exact fun I' J' lw z1 z2 z3 z4 => hQ 1 _ (Or.inr rfl) (h I' J' lw z1 z2 z3 z4)
theorem tl_acc_r {t : Nat} {la : tl_F} {w : Nat × tl_F} (h : tl_acc t la = .inr w) : t < 400 ∧ w = (t + 1, la) := by
  unfold tl_acc at h
  split at h
  · cases h; exact ⟨by assumption, rfl⟩
  · cases h
theorem tl_int_r {K V P : Nat → Nat} {m t : Nat} {la : tl_F} {w : Nat × tl_F} (h : tl_int K V P m t la = .inr w) : K t = 2 ∧ t < 400 ∧ w.1 = t + 1 := by
  unfold tl_int at h
  split at h
  · obtain ⟨h1, h2⟩ := tl_acc_r h
    exact ⟨by assumption, h1, by rw [h2]⟩
  · cases h
theorem tl_tk_r {K : Nat → Nat} {k t : Nat} {la : tl_F} {w : Nat × tl_F} (h : tl_tk K k t la = .inr w) : K t = k ∧ t < 400 ∧ w = (t + 1, la) := by
  unfold tl_tk at h
  split at h
  · obtain ⟨h1, h2⟩ := tl_acc_r h
    exact ⟨by assumption, h1, h2⟩
  · cases h
section TELL2
variable {d lw : Nat} {b : Nat → Nat} {L n : Nat} {I I0 I' I'' : Nat → Nat → Int32} {J J0 J' J'' : Nat → Nat → Int64} {M : em_M} {Q : Option Value → em_M → Prop}
theorem cx.w (h : cx b L n I J) (hf : wf I I') : cx b L n I' J := h.keep (hf.1 _ (by decide)) (hf.1 _ (by decide)) rfl
theorem cL.keep {q k : Nat} {l : ek_lw} (h : cL I q k l) (e : I' q = I q) (e1 : I' (q + 1) = I (q + 1)) : cL I' q k l := cw.keep h e e1
theorem cS.w {s : tl_S} (h : cS b L s I J) (hf : wf I I') : cS b L s I' J := by
  obtain ⟨h1, h2, h3, h4, h5, h6, h7, h8, h9⟩ := h
  refine ⟨?_, ?_, ?_, h4, ⟨(hf.2 _ (by decide)).trans h5.1, (hf.2 _ (by decide)).trans h5.2⟩, h6.keep (hf.1 _ (by decide)) (hf.1 _ (by decide)), h7.keep (hf.1 _ (by decide)) (hf.1 _ (by decide)), h8.keep (hf.1 _ (by decide)) (hf.1 _ (by decide)), h9.keep (hf.1 _ (by decide)) (hf.1 _ (by decide))⟩
  · rw [hf.1 _ (by decide)]; exact h1
  · rw [hf.1 _ (by decide)]; exact h2
  · rw [hf.1 _ (by decide)]; exact h3
theorem tl_takeBegins {t : Nat} {s : tl_S} (hx : cx b L n I J) (hc : cat b L t I) (hl : lat I s.la) (hS : cS b L s I J) (hk : tk_K b L t = 27) (h : tl_o b L I J Q (tl_one (tk_K b L) (tk_V b L) (tk_N b L) (tk_P b L) t s)) : em_call (d + 2) 75 [.ref 40] (em_SH, I, J, em_RT lw) Q := by
  unfold tl_one at h
  rw [if_neg (by omega), if_neg (by omega), if_neg (by omega), if_pos hk] at h
  iterate 1 refine em_next rfl ?_
  refine em_inv_call rfl (tl_accept hx hc hl (by omega) ?_)
  cases hr : tl_acc t s.la with
  | inl e =>
    rw [hr] at h
    intro I1 a1 a2
    iterate 1 refine em_next rfl ?_
    refine em_z_eq (fun _ => ?_) (fun q => absurd rfl q)
    iterate 1 refine em_next rfl ?_
    exact em_done rfl (h I1 J lw (yf.w a1) a2)
  | inr a =>
    rw [hr] at h
    obtain ⟨r1, rfl⟩ := tl_acc_r hr
    intro I1 a1 a2 a3
    iterate 1 refine em_next rfl ?_
    refine em_z_eq (fun q => absurd q (by decide)) (fun _ => ?_)
    iterate 2 refine em_next rfl ?_
    refine em_inv_call rfl (tl_takeInt (m := 23) (hx.w a1) a2 a3 (by decide) ?_)
    cases hr2 : tl_int (tk_K b L) (tk_V b L) (tk_P b L) 23 (t + 1) s.la with
    | inl e =>
      have h' : tl_o b L I J Q (tl_b (tl_int (tk_K b L) (tk_V b L) (tk_P b L) 23 (t + 1) s.la) _) := h
      rw [hr2] at h'
      intro I2 b1 b2
      iterate 1 refine em_next rfl ?_
      refine em_z_ne (fun q => absurd rfl q) (fun _ => ?_)
      iterate 1 refine em_next rfl ?_
      exact em_done rfl (h' I2 J lw (yf.w (a1.tr b1)) b2)
    | inr c =>
      have h' : tl_o b L I J Q (tl_b (tl_int (tk_K b L) (tk_V b L) (tk_P b L) 23 (t + 1) s.la) _) := h
      rw [hr2] at h'
      obtain ⟨r2, r3, r4⟩ := tl_int_r hr2
      obtain ⟨c1, c2⟩ := c
      have r5 : c1 = t + 1 + 1 := r4
      subst r5
      intro I2 b1 b2 b3
      have wf2 := a1.tr b1
      iterate 1 refine em_next rfl ?_
      refine em_z_ne (fun _ => ?_) (fun q => absurd q (by decide))
      iterate 4 refine em_next rfl ?_
      refine em_inv_call rfl (tl_behind (k := 1) (hx.w wf2) b2 (by omega) (by omega) r2 ?_)
      obtain ⟨s1, s2⟩ := hS.w wf2
      iterate 3 refine em_next rfl ?_
      show em_wp em_sc0 (d + 2) 75 _ _ _ (em_SH, em_u I2 8 10 (nI (tk_V b L (t + 1))), J, em_RT lw) Q
      have cr : ∀ a, a ≠ 8 → (em_u I2 8 10 (nI (tk_V b L (t + 1)))) a = I2 a := fun a ha => em_u_row ha
      have hf3 : yf I (em_u I2 8 10 (nI (tk_V b L (t + 1)))) J J := (yf.w wf2).tr (yf.u (by decide))
      refine em_inv_call rfl (tl_take (k := 4) (la := c2) ((hx.w wf2).keep (cr _ (by decide)) (cr _ (by decide)) rfl) (b2.keep (cr _ (by decide))) (b3.keep (by rw [cr 40 (by decide)]) (by rw [cr 40 (by decide)])) (by decide) (by decide) (by decide) ?_)
      cases hr3 : tl_tk (tk_K b L) 4 (t + 1 + 1) c2 with
      | inl e =>
        have h2 : tl_o b L I J Q (tl_b (tl_tk (tk_K b L) 4 (t + 1 + 1) c2) _) := h'
        rw [hr3] at h2
        intro I3 d1 d2
        exact em_done rfl (h2 I3 J lw (hf3.tr (yf.w d1)) d2)
      | inr x =>
        have h2 : tl_o b L I J Q (tl_b (tl_tk (tk_K b L) 4 (t + 1 + 1) c2) _) := h'
        rw [hr3] at h2
        intro I3 d1 d2 d3
        refine em_done rfl (h2 I3 J lw (hf3.tr (yf.w d1)) d2 d3 (cS.w ?_ d1))
        refine ⟨⟨(em_u_ne (by decide)).trans s1.1, (em_u_ne (by decide)).trans s1.2.1, (em_u_ne (by decide)).trans s1.2.2.1, em_u_self, (em_u_ne (by decide)).trans s1.2.2.2.2⟩, ?_, ?_, s2.2.2.1, ?_, ?_⟩
        · rw [cr _ (by decide)]; exact s2.1
        · rw [cr _ (by decide)]; exact s2.2.1
        · rw [cr _ (by decide)]; exact s2.2.2.2.1
        · exact ⟨s2.2.2.2.2.1.keep (cr _ (by decide)) (cr _ (by decide)), s2.2.2.2.2.2.1.keep (cr _ (by decide)) (cr _ (by decide)), s2.2.2.2.2.2.2.1.keep (cr _ (by decide)) (cr _ (by decide)), s2.2.2.2.2.2.2.2.keep (cr _ (by decide)) (cr _ (by decide))⟩
theorem tl_takeSeed {t : Nat} {s : tl_S} (hx : cx b L n I J) (hc : cat b L t I) (hl : lat I s.la) (hS : cS b L s I J) (hk : tk_K b L t = 28) (h : tl_o b L I J Q (tl_one (tk_K b L) (tk_V b L) (tk_N b L) (tk_P b L) t s)) : em_call (d + 2) 76 [.ref 40] (em_SH, I, J, em_RT lw) Q := by
  unfold tl_one at h
  rw [if_neg (by omega), if_neg (by omega), if_neg (by omega), if_neg (by omega), if_pos hk] at h
  iterate 1 refine em_next rfl ?_
  refine em_inv_call rfl (tl_accept hx hc hl (by omega) ?_)
  cases hr : tl_acc t s.la with
  | inl e =>
    rw [hr] at h
    intro I1 a1 a2
    iterate 1 refine em_next rfl ?_
    refine em_z_eq (fun _ => ?_) (fun q => absurd rfl q)
    iterate 1 refine em_next rfl ?_
    exact em_done rfl (h I1 J lw (yf.w a1) a2)
  | inr a =>
    rw [hr] at h
    obtain ⟨r1, rfl⟩ := tl_acc_r hr
    intro I1 a1 a2 a3
    iterate 1 refine em_next rfl ?_
    refine em_z_eq (fun q => absurd q (by decide)) (fun _ => ?_)
    iterate 2 refine em_next rfl ?_
    refine em_inv_call rfl (tl_takeInt (m := 9999) (hx.w a1) a2 a3 (by decide) ?_)
    cases hr2 : tl_int (tk_K b L) (tk_V b L) (tk_P b L) 9999 (t + 1) s.la with
    | inl e =>
      have h' : tl_o b L I J Q (tl_b (tl_int (tk_K b L) (tk_V b L) (tk_P b L) 9999 (t + 1) s.la) _) := h
      rw [hr2] at h'
      intro I2 b1 b2
      iterate 1 refine em_next rfl ?_
      refine em_z_ne (fun q => absurd rfl q) (fun _ => ?_)
      iterate 1 refine em_next rfl ?_
      exact em_done rfl (h' I2 J lw (yf.w (a1.tr b1)) b2)
    | inr c =>
      have h' : tl_o b L I J Q (tl_b (tl_int (tk_K b L) (tk_V b L) (tk_P b L) 9999 (t + 1) s.la) _) := h
      rw [hr2] at h'
      obtain ⟨r2, r3, r4⟩ := tl_int_r hr2
      obtain ⟨c1, c2⟩ := c
      have r5 : c1 = t + 1 + 1 := r4
      subst r5
      intro I2 b1 b2 b3
      have wf2 := a1.tr b1
      iterate 1 refine em_next rfl ?_
      refine em_z_ne (fun _ => ?_) (fun q => absurd q (by decide))
      iterate 4 refine em_next rfl ?_
      refine em_inv_call rfl (tl_behind (k := 1) (hx.w wf2) b2 (by omega) (by omega) r2 ?_)
      obtain ⟨s1, s2⟩ := hS.w wf2
      iterate 3 refine em_next rfl ?_
      show em_wp em_sc0 (d + 2) 76 _ _ _ (em_SH, em_u I2 8 11 (nI (tk_V b L (t + 1))), J, em_RT lw) Q
      have cr : ∀ a, a ≠ 8 → (em_u I2 8 11 (nI (tk_V b L (t + 1)))) a = I2 a := fun a ha => em_u_row ha
      have hf3 : yf I (em_u I2 8 11 (nI (tk_V b L (t + 1)))) J J := (yf.w wf2).tr (yf.u (by decide))
      refine em_inv_call rfl (tl_take (k := 4) (la := c2) ((hx.w wf2).keep (cr _ (by decide)) (cr _ (by decide)) rfl) (b2.keep (cr _ (by decide))) (b3.keep (by rw [cr 40 (by decide)]) (by rw [cr 40 (by decide)])) (by decide) (by decide) (by decide) ?_)
      cases hr3 : tl_tk (tk_K b L) 4 (t + 1 + 1) c2 with
      | inl e =>
        have h2 : tl_o b L I J Q (tl_b (tl_tk (tk_K b L) 4 (t + 1 + 1) c2) _) := h'
        rw [hr3] at h2
        intro I3 d1 d2
        exact em_done rfl (h2 I3 J lw (hf3.tr (yf.w d1)) d2)
      | inr x =>
        have h2 : tl_o b L I J Q (tl_b (tl_tk (tk_K b L) 4 (t + 1 + 1) c2) _) := h'
        rw [hr3] at h2
        intro I3 d1 d2 d3
        refine em_done rfl (h2 I3 J lw (hf3.tr (yf.w d1)) d2 d3 (cS.w ?_ d1))
        refine ⟨⟨(em_u_ne (by decide)).trans s1.1, (em_u_ne (by decide)).trans s1.2.1, (em_u_ne (by decide)).trans s1.2.2.1, (em_u_ne (by decide)).trans s1.2.2.2.1, em_u_self⟩, ?_, ?_, s2.2.2.1, ?_, ?_⟩
        · rw [cr _ (by decide)]; exact s2.1
        · rw [cr _ (by decide)]; exact s2.2.1
        · rw [cr _ (by decide)]; exact s2.2.2.2.1
        · exact ⟨s2.2.2.2.2.1.keep (cr _ (by decide)) (cr _ (by decide)), s2.2.2.2.2.2.1.keep (cr _ (by decide)) (cr _ (by decide)), s2.2.2.2.2.2.2.1.keep (cr _ (by decide)) (cr _ (by decide)), s2.2.2.2.2.2.2.2.keep (cr _ (by decide)) (cr _ (by decide))⟩
theorem tl_takeRing {t : Nat} {s : tl_S} (hx : cx b L n I J) (hc : cat b L t I) (hl : lat I s.la) (hS : cS b L s I J) (hk : tk_K b L t = 26) (h : tl_o b L I J Q (tl_one (tk_K b L) (tk_V b L) (tk_N b L) (tk_P b L) t s)) : em_call (d + 2) 74 [.ref 40] (em_SH, I, J, em_RT lw) Q := by
  unfold tl_one at h
  rw [if_neg (by omega), if_neg (by omega), if_pos hk] at h
  iterate 1 refine em_next rfl ?_
  refine em_inv_call rfl (tl_accept hx hc hl (by omega) ?_)
  cases hr : tl_acc t s.la with
  | inl e =>
    rw [hr] at h
    intro I1 a1 a2
    iterate 1 refine em_next rfl ?_
    refine em_z_eq (fun _ => ?_) (fun q => absurd rfl q)
    iterate 1 refine em_next rfl ?_
    exact em_done rfl (h I1 J lw (yf.w a1) a2)
  | inr a =>
    rw [hr] at h
    obtain ⟨r1, rfl⟩ := tl_acc_r hr
    intro I1 a1 a2 a3
    iterate 1 refine em_next rfl ?_
    refine em_z_eq (fun q => absurd q (by decide)) (fun _ => ?_)
    iterate 2 refine em_next rfl ?_
    refine em_inv_call rfl (tl_takeInt (m := 1) (hx.w a1) a2 a3 (by decide) ?_)
    cases hr2 : tl_int (tk_K b L) (tk_V b L) (tk_P b L) 1 (t + 1) s.la with
    | inl e =>
      have h' : tl_o b L I J Q (tl_b (tl_int (tk_K b L) (tk_V b L) (tk_P b L) 1 (t + 1) s.la) _) := h
      rw [hr2] at h'
      intro I2 b1 b2
      iterate 1 refine em_next rfl ?_
      refine em_z_ne (fun q => absurd rfl q) (fun _ => ?_)
      iterate 1 refine em_next rfl ?_
      exact em_done rfl (h' I2 J lw (yf.w (a1.tr b1)) b2)
    | inr c =>
      have h' : tl_o b L I J Q (tl_b (tl_int (tk_K b L) (tk_V b L) (tk_P b L) 1 (t + 1) s.la) _) := h
      rw [hr2] at h'
      obtain ⟨r2, r3, r4⟩ := tl_int_r hr2
      obtain ⟨c1, c2⟩ := c
      have r5 : c1 = t + 1 + 1 := r4
      subst r5
      intro I2 b1 b2 b3
      have wf2 := a1.tr b1
      iterate 1 refine em_next rfl ?_
      refine em_z_ne (fun _ => ?_) (fun q => absurd q (by decide))
      iterate 4 refine em_next rfl ?_
      refine em_inv_call rfl (tl_behind (k := 1) (hx.w wf2) b2 (by omega) (by omega) r2 ?_)
      obtain ⟨s1, s2⟩ := hS.w wf2
      have hV := tk_V_lt r2
      have go : em_wp em_sc0 (d + 2) 74 41 [some (.ref 40)] [.int (nI (ck 4)), .ref 40] (em_SH, (em_u I2 8 9 (em_bb (decide (tk_V b L (t + 1) = 1)))), J, em_RT lw) Q := by
        have cr : ∀ a, a ≠ 8 → (em_u I2 8 9 (em_bb (decide (tk_V b L (t + 1) = 1)))) a = I2 a := fun a ha => em_u_row ha
        have hf3 : yf I (em_u I2 8 9 (em_bb (decide (tk_V b L (t + 1) = 1)))) J J := (yf.w wf2).tr (yf.u (by decide))
        refine em_inv_call rfl (tl_take (k := 4) (la := c2) ((hx.w wf2).keep (cr _ (by decide)) (cr _ (by decide)) rfl) (b2.keep (cr _ (by decide))) (b3.keep (by rw [cr 40 (by decide)]) (by rw [cr 40 (by decide)])) (by decide) (by decide) (by decide) ?_)
        cases hr3 : tl_tk (tk_K b L) 4 (t + 1 + 1) c2 with
        | inl e =>
          have h2 : tl_o b L I J Q (tl_b (tl_tk (tk_K b L) 4 (t + 1 + 1) c2) _) := h'
          rw [hr3] at h2
          intro I3 d1 d2
          exact em_done rfl (h2 I3 J lw (hf3.tr (yf.w d1)) d2)
        | inr x =>
          have h2 : tl_o b L I J Q (tl_b (tl_tk (tk_K b L) 4 (t + 1 + 1) c2) _) := h'
          rw [hr3] at h2
          intro I3 d1 d2 d3
          refine em_done rfl (h2 I3 J lw (hf3.tr (yf.w d1)) d2 d3 (cS.w ?_ d1))
          refine ⟨⟨(em_u_ne (by decide)).trans s1.1, (em_u_ne (by decide)).trans s1.2.1, em_u_self, (em_u_ne (by decide)).trans s1.2.2.2.1, (em_u_ne (by decide)).trans s1.2.2.2.2⟩, ?_, ?_, s2.2.2.1, ?_, ?_⟩
          · rw [cr _ (by decide)]; exact s2.1
          · rw [cr _ (by decide)]; exact s2.2.1
          · rw [cr _ (by decide)]; exact s2.2.2.2.1
          · exact ⟨s2.2.2.2.2.1.keep (cr _ (by decide)) (cr _ (by decide)), s2.2.2.2.2.2.1.keep (cr _ (by decide)) (cr _ (by decide)), s2.2.2.2.2.2.2.1.keep (cr _ (by decide)) (cr _ (by decide)), s2.2.2.2.2.2.2.2.keep (cr _ (by decide)) (cr _ (by decide))⟩
      iterate 2 refine em_next rfl ?_
      refine em_c_neE rfl (y' := nI 1) rfl (fun z => ?_) (fun z => ?_)
      · rw [decide_eq_false (fun e => z (by rw [show t + 1 + 1 - 1 = t + 1 by omega, e]))] at go
        iterate 4 refine em_next rfl ?_
        exact go
      · rw [decide_eq_true ((nI_eq (a := tk_V b L (t + 1)) (by omega) (by decide)).mp z)] at go
        iterate 5 refine em_next rfl ?_
        exact go
end TELL2
