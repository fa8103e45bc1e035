/-! the class writes a draft -/
/-- what write() changes -/
def vcells : List Nat := [2, 4, 5] ++ ycells
def vf (I I' : Nat → Nat → Int32) (J J' : Nat → Nat → Int64) : Prop := (∀ a, a ∉ vcells → I' a = I a) ∧ (∀ j, j ≠ 6 → I' 2 j = I 2 j) ∧ ∀ a, a ≠ 41 → a ≠ 6 → J' a = J a
theorem vf.y {I I1 I' : Nat → Nat → Int32} {J J1 J' : Nat → Nat → Int64} (h : vf I I1 J J1) (h' : yf I1 I' J1 J') : vf I I' J J' := ⟨fun a ha => (h'.1 a (fun q => ha (List.mem_append_right _ q))).trans (h.1 a ha), fun j hj => (by rw [h'.1 _ (by decide)]; exact h.2.1 j hj), fun a z1 z2 => (h'.2 a z1).trans (h.2.2 a z1 z2)⟩
section CWRITE
variable {d lw : Nat} {b : Nat → Nat} {L n : Nat} {I I0 I' I'' : Nat → Nat → Int32} {J J0 J' J'' : Nat → Nat → Int64} {M : em_M} {Q : Option Value → em_M → Prop}
theorem ce_setTo_draft_lies {x : Int32} (hx : ¬ x = -9) (h : ∀ I' : Nat → Nat → Int32, (∀ a, a ≠ 11 → a ≠ 12 → I' a = I a) → cw I' 11 [x, -15] false → Q none (em_SH, I', J, em_RT lw)) : em_call (d + 1) 9 [.ref 11, .int x] (em_SH, I, J, em_RT lw) Q := by
  iterate 1 refine em_next rfl ?_
  refine em_inv_call rfl (ce_lclear_draft_lies (fun I1 a1 a2 => ?_))
  iterate 2 refine em_next rfl ?_
  refine em_inv_call rfl (ce_add_draft_lies a2 (fun I2 b1 b2 => ?_))
  have b3 := b2 (by decide)
  rw [decide_eq_false hx] at b3
  iterate 2 refine em_next rfl ?_
  refine em_inv_call rfl (ce_add_draft_lies b3 (fun I3 c1 c2 => ?_))
  have c3 := c2 (show 1 < 400 by decide)
  exact em_done rfl (h I3 (fun a z1 z2 => by rw [c1.1 a z1 z2, b1.1 a z1 z2, a1.1 a z1 z2]) c3)
theorem ce_setTo_draft_parts {x : Int32} (hx : ¬ x = -9) (h : ∀ I' : Nat → Nat → Int32, (∀ a, a ≠ 14 → a ≠ 15 → I' a = I a) → cw I' 14 [x, -15] false → Q none (em_SH, I', J, em_RT lw)) : em_call (d + 1) 9 [.ref 14, .int x] (em_SH, I, J, em_RT lw) Q := by
  iterate 1 refine em_next rfl ?_
  refine em_inv_call rfl (ce_lclear_draft_parts (fun I1 a1 a2 => ?_))
  iterate 2 refine em_next rfl ?_
  refine em_inv_call rfl (ce_add_draft_parts a2 (fun I2 b1 b2 => ?_))
  have b3 := b2 (by decide)
  rw [decide_eq_false hx] at b3
  iterate 2 refine em_next rfl ?_
  refine em_inv_call rfl (ce_add_draft_parts b3 (fun I3 c1 c2 => ?_))
  have c3 := c2 (show 1 < 400 by decide)
  exact em_done rfl (h I3 (fun a z1 z2 => by rw [c1.1 a z1 z2, b1.1 a z1 z2, a1.1 a z1 z2]) c3)
theorem ce_setTo_draft_chills {x : Int32} (hx : ¬ x = -9) (h : ∀ I' : Nat → Nat → Int32, (∀ a, a ≠ 17 → a ≠ 18 → I' a = I a) → cw I' 17 [x, -15] false → Q none (em_SH, I', J, em_RT lw)) : em_call (d + 1) 9 [.ref 17, .int x] (em_SH, I, J, em_RT lw) Q := by
  iterate 1 refine em_next rfl ?_
  refine em_inv_call rfl (ce_lclear_draft_chills (fun I1 a1 a2 => ?_))
  iterate 2 refine em_next rfl ?_
  refine em_inv_call rfl (ce_add_draft_chills a2 (fun I2 b1 b2 => ?_))
  have b3 := b2 (by decide)
  rw [decide_eq_false hx] at b3
  iterate 2 refine em_next rfl ?_
  refine em_inv_call rfl (ce_add_draft_chills b3 (fun I3 c1 c2 => ?_))
  have c3 := c2 (show 1 < 400 by decide)
  exact em_done rfl (h I3 (fun a z1 z2 => by rw [c1.1 a z1 z2, b1.1 a z1 z2, a1.1 a z1 z2]) c3)
theorem ce_setTo_draft_costs {x : Int32} (hx : ¬ x = -9) (h : ∀ I' : Nat → Nat → Int32, (∀ a, a ≠ 20 → a ≠ 21 → I' a = I a) → cw I' 20 [x, -15] false → Q none (em_SH, I', J, em_RT lw)) : em_call (d + 1) 9 [.ref 20, .int x] (em_SH, I, J, em_RT lw) Q := by
  iterate 1 refine em_next rfl ?_
  refine em_inv_call rfl (ce_lclear_draft_costs (fun I1 a1 a2 => ?_))
  iterate 2 refine em_next rfl ?_
  refine em_inv_call rfl (ce_add_draft_costs a2 (fun I2 b1 b2 => ?_))
  have b3 := b2 (by decide)
  rw [decide_eq_false hx] at b3
  iterate 2 refine em_next rfl ?_
  refine em_inv_call rfl (ce_add_draft_costs b3 (fun I3 c1 c2 => ?_))
  have c3 := c2 (show 1 < 400 by decide)
  exact em_done rfl (h I3 (fun a z1 z2 => by rw [c1.1 a z1 z2, b1.1 a z1 z2, a1.1 a z1 z2]) c3)
theorem ce_clear (h : ∀ I' : Nat → Nat → Int32, (∀ a, a ∉ [8, 10, 11, 11 + 1, 14, 14 + 1, 17, 17 + 1, 20, 20 + 1] → I' a = I a) → (I' 8 7 = nI 0 ∧ I' 8 8 = nI 0 ∧ I' 8 9 = 0 ∧ I' 8 10 = nI 0 ∧ I' 8 11 = nI 0) → (∀ j, j < 9 → I' 10 j = nI 0) → cL I' 11 0 none ∧ cL I' 14 1 none ∧ cL I' 17 2 none ∧ cL I' 20 3 none → Q none (em_SH, I', J, em_RT lw)) : em_call (d + 2) 31 [.ref 8] (em_SH, I, J, em_RT lw) Q := by
  iterate 3 refine em_next rfl ?_
  refine em_inv_call rfl (ce_fill_draft_colds ?_)
  generalize hI0 : em_flr I 10 9 (Int32.ofInt 0) = K0
  have k0 : ∀ a, a ≠ 10 → K0 a = I a := fun a ha => by rw [← hI0, em_flr_row ha]
  have k1 : ∀ j, j < 9 → K0 10 j = nI 0 := fun j hj => by rw [← hI0, em_flr_at hj]; rfl
  iterate 3 refine em_next rfl ?_
  refine em_inv_call rfl (ce_setTo_draft_lies (by decide) (fun I1 a1 a2 => ?_))
  iterate 3 refine em_next rfl ?_
  refine em_inv_call rfl (ce_setTo_draft_parts (by decide) (fun I2 b1 b2 => ?_))
  iterate 3 refine em_next rfl ?_
  refine em_inv_call rfl (ce_setTo_draft_chills (by decide) (fun I3 c1 c2 => ?_))
  iterate 3 refine em_next rfl ?_
  refine em_inv_call rfl (ce_setTo_draft_costs (by decide) (fun I4 d1 d2 => ?_))
  iterate 15 refine em_next rfl ?_
  refine em_done rfl ?_
  show Q none (em_SH, em_u (em_u (em_u (em_u (em_u I4 8 7 0) 8 8 0) 8 9 0) 8 10 0) 8 11 0, J, em_RT lw)
  have ru : ∀ a, a ≠ 8 → em_u (em_u (em_u (em_u (em_u I4 8 7 0) 8 8 0) 8 9 0) 8 10 0) 8 11 0 a = I4 a := fun a ha => by rw [em_u_row ha, em_u_row ha, em_u_row ha, em_u_row ha, em_u_row ha]
  refine h _ (fun a ha => ?_) ⟨?_, ?_, ?_, ?_, ?_⟩ (fun j hj => ?_) ⟨?_, ?_, ?_, ?_⟩
  · simp only [List.mem_cons, List.not_mem_nil, or_false, not_or] at ha
    obtain ⟨h1, h2, h3, h4, h5, h6, h7, h8, h9, h10⟩ := ha
    rw [ru a h1, d1 a h9 h10, c1 a h7 h8, b1 a h5 h6, a1 a h3 h4, k0 a h2]
  · rw [em_u_ne (by decide), em_u_ne (by decide), em_u_ne (by decide), em_u_ne (by decide), em_u_self]; rfl
  · rw [em_u_ne (by decide), em_u_ne (by decide), em_u_ne (by decide), em_u_self]; rfl
  · rw [em_u_ne (by decide), em_u_ne (by decide), em_u_self]
  · rw [em_u_ne (by decide), em_u_self]; rfl
  · rw [em_u_self]; rfl
  · rw [ru _ (by decide), d1 _ (by decide) (by decide), c1 _ (by decide) (by decide), b1 _ (by decide) (by decide), a1 _ (by decide) (by decide)]
    exact k1 j hj
  · refine cL.keep (I := I1) a2 ?_ ?_
    · rw [ru _ (by decide), d1 _ (by decide) (by decide), c1 _ (by decide) (by decide), b1 _ (by decide) (by decide)]
    · rw [ru _ (by decide), d1 _ (by decide) (by decide), c1 _ (by decide) (by decide), b1 _ (by decide) (by decide)]
  · refine cL.keep (I := I2) b2 ?_ ?_
    · rw [ru _ (by decide), d1 _ (by decide) (by decide), c1 _ (by decide) (by decide)]
    · rw [ru _ (by decide), d1 _ (by decide) (by decide), c1 _ (by decide) (by decide)]
  · refine cL.keep (I := I3) c2 ?_ ?_
    · rw [ru _ (by decide), d1 _ (by decide) (by decide)]
    · rw [ru _ (by decide), d1 _ (by decide) (by decide)]
  · refine cL.keep (I := I4) d2 ?_ ?_
    · rw [ru _ (by decide)]
    · rw [ru _ (by decide)]
theorem ce_begin (hX : ct_X b L I) (hK : ck_J J) (h : ∀ (I' : Nat → Nat → Int32) (J' : Nat → Nat → Int64) (n : Nat), vf I I' J J' → cx b L n I' J' → cat b L 0 I' → lat I' none → cS b L tl_0 I' J' → Q none (em_SH, I', J', em_RT lw)) : em_call (d + 8) 69 [.ref 40] (em_SH, I, J, em_RT lw) Q := by
  iterate 2 refine em_next rfl ?_
  refine em_inv_call rfl (ce_clear (fun I1 a1 a2 a3 a4 => ?_))
  iterate 2 refine em_next rfl ?_
  have hX1 : ct_X b L I1 := ⟨hX.1, by rw [a1 _ (by decide)]; exact hX.2.1, by rw [a1 _ (by decide)]; exact hX.2.2⟩
  refine em_inv_call rfl (ce_scan hX1 hK (fun I2 J2 n b1 b2 b3 => ?_))
  have n1 : 0 < n := by rcases b3 with e | ⟨e, _, _⟩ <;> omega
  iterate 3 refine em_next rfl ?_
  show em_wp em_sc0 (d + 8) 69 _ _ _ (em_SH, em_u I2 40 4 0, J2, em_RT lw) Q
  have u1 : ∀ a, a ≠ 40 → em_u I2 40 4 0 a = I2 a := fun a ha => em_u_row ha
  iterate 5 refine em_next rfl ?_
  refine em_ialE (k := 0) rfl rfl rfl (by decide) (by decide) ?_
  refine em_tp (y := nI (ck (tk_K b L 0))) (by rw [u1 _ (by decide)]; exact (b2 0 n1).1) ?_
  iterate 13 refine em_next rfl ?_
  refine em_done rfl ?_
  show Q none (em_SH, em_u (em_u (em_u (em_u (em_u (em_u I2 40 4 0) 40 5 (nI (ck (tk_K b L 0)))) 40 8 0) 40 9 (-1)) 40 10 0) 40 11 (-1), J2, em_RT lw)
  have ru : ∀ a, a ≠ 40 → em_u (em_u (em_u (em_u (em_u (em_u I2 40 4 0) 40 5 (nI (ck (tk_K b L 0)))) 40 8 0) 40 9 (-1)) 40 10 0) 40 11 (-1) a = I2 a := fun a ha => by rw [em_u_row ha, em_u_row ha, em_u_row ha, em_u_row ha, em_u_row ha, em_u_row ha]
  have i1 : ∀ a, a ∉ [2, 4, 5] → I2 a = I1 a := b1.1
  refine h _ J2 n ⟨fun a ha => ?_, fun j hj => ?_, fun a z1 z2 => b1.2.2 a z2⟩ ?_ ⟨by decide, fun s hs => absurd hs (Nat.not_lt_zero _), ?_, ?_⟩ ⟨?_, ?_⟩ ⟨?_, fun j hj => absurd hj (Nat.not_lt_zero _), ?_, fun j hj => absurd hj (Nat.not_lt_zero _), ⟨?_, ?_⟩, ?_⟩
  · rw [ru a (fun e => ha (by rw [e]; decide)), i1 a (fun q => ha (List.mem_append_left _ q)), a1 a (fun q => ha ?_)]
    have hd : ∀ a ∈ [8, 10, 11, 11 + 1, 14, 14 + 1, 17, 17 + 1, 20, 20 + 1], a ∈ vcells := by decide
    exact hd a q
  · rw [ru _ (by decide), b1.2.1 j hj, a1 _ (by decide)]
  · exact ⟨fun t ht => by rw [ru _ (by decide), ru _ (by decide)]; exact b2 t ht, b3⟩
  · rw [em_u_ne (by decide), em_u_ne (by decide), em_u_ne (by decide), em_u_ne (by decide), em_u_ne (by decide), em_u_self]; rfl
  · rw [em_u_ne (by decide), em_u_ne (by decide), em_u_ne (by decide), em_u_ne (by decide), em_u_self]
  · rw [em_u_ne (by decide), em_u_ne (by decide), em_u_ne (by decide), em_u_self]; rfl
  · rw [em_u_ne (by decide), em_u_ne (by decide), em_u_self]
  · rw [ru _ (by decide), i1 _ (by decide)]
    exact a2
  · rw [ru _ (by decide), i1 _ (by decide)]
    exact a3
  · rw [em_u_ne (by decide), em_u_self]; rfl
  · rw [em_u_self]; rfl
  · exact ⟨a4.1.keep (by rw [ru _ (by decide), i1 _ (by decide)]) (by rw [ru _ (by decide), i1 _ (by decide)]), a4.2.1.keep (by rw [ru _ (by decide), i1 _ (by decide)]) (by rw [ru _ (by decide), i1 _ (by decide)]), a4.2.2.1.keep (by rw [ru _ (by decide), i1 _ (by decide)]) (by rw [ru _ (by decide), i1 _ (by decide)]), a4.2.2.2.keep (by rw [ru _ (by decide), i1 _ (by decide)]) (by rw [ru _ (by decide), i1 _ (by decide)])⟩
/-- what write() answers -/
def wr_o (b : Nat → Nat) (L : Nat) (I : Nat → Nat → Int32) (J : Nat → Nat → Int64) (Q : Option Value → em_M → Prop) (r : tl_E ⊕ tl_S) : Prop := match r with
  | .inl e => ∀ (I' : Nat → Nat → Int32) (J' : Nat → Nat → Int64) (lw : Nat), vf I I' J J' → I' 40 7 = nI e.2 → Q (some (.int (nI e.1))) (em_SH, I', J', em_RT lw)
  | .inr s => ∀ (I' : Nat → Nat → Int32) (J' : Nat → Nat → Int64) (lw : Nat), vf I I' J J' → cS b L s I' J' → Q (some (.int 0)) (em_SH, I', J', em_RT lw)
theorem ck_end : ∀ k, k < 41 → (ck k = 3 ↔ k = 0) := by decide
theorem cx.y (h : cx b L n I J) (hf : yf I I' J J') : cx b L n I' J' := h.keep (hf.1 _ (by decide)) (hf.1 _ (by decide)) (hf.2 _ (by decide))
theorem ce_write_e {i t : Nat} {s : tl_S} (hX : I 2 5 = nI L) (hL : L ≤ 2000) (hl : lat I s.la) (hS : cS b L s I J) (hw : tl_w (tk_K b L) s) (hv : vf I0 I J0 J) (h : wr_o b L I0 J0 Q (tl_fin L (tk_P b L) (.inr (t, s)))) : em_wp em_sc0 (d + 24) 68 39 [some (.ref 40), some (.int (nI i))] [] (em_SH, I, J, em_RT lw) Q := by
  have fin : ∀ (K : Nat → Nat → Int32) (la : tl_F), lat K la → yf I K J J → cS b L s K J → (∀ q, la = some q → ∀ (I' : Nat → Nat → Int32) (J' : Nat → Nat → Int64) (lw : Nat), vf I0 I' J0 J' → I' 40 7 = nI q.2 → Q (some (.int (nI q.1))) (em_SH, I', J', em_RT lw)) → (la = none → ∀ (I' : Nat → Nat → Int32) (J' : Nat → Nat → Int64) (lw : Nat), vf I0 I' J0 J' → cS b L s I' J' → Q (some (.int 0)) (em_SH, I', J', em_RT lw)) → em_wp em_sc0 (d + 24) 68 66 [some (.ref 40), some (.int (nI i))] [] (em_SH, K, J, em_RT lw) Q := fun K la k1 k2 k3 h1 h2 => by
    iterate 10 refine em_next rfl ?_
    have fy : yf K (em_u (em_u K 40 6 (K 40 8)) 40 7 (K 40 9)) J J := (yf.u (by decide)).tr (yf.u (by decide))
    have fw : wf K (em_u (em_u K 40 6 (K 40 8)) 40 7 (K 40 9)) := ⟨fun a ha => by rw [em_u_row ha, em_u_row ha], fun j hj => by rw [em_u_ne (fun e => hj (by rw [e]; decide)), em_u_ne (fun e => hj (by rw [e]; decide))]⟩
    cases la with
    | none =>
      refine em_doneE (y := 0) rfl ?_ (h2 rfl _ J lw (hv.y (k2.tr fy)) (k3.w fw))
      exact k1.1
    | some q =>
      refine em_doneE (y := nI q.1) rfl ?_ (h1 q rfl _ J lw (hv.y (k2.tr fy)) ?_)
      · exact k1.1
      · exact k1.2.1
  have hn := hw.1.1
  have hf := hw.1.2.2.1
  unfold tl_fin at h
  dsimp only at h
  iterate 5 refine em_next rfl ?_
  have e1 := hS.2.2.2.2.1.2
  by_cases z : s.n < s.fc
  · rw [if_pos z] at h
    have ef : I 40 11 = nI (s.fc - 1) := by
      rw [e1, show s.fc = s.fc - 1 + 1 by omega, nI_p1]
      rfl
    iterate 1 refine em_next rfl ?_
    refine em_c_ltE ef hS.1.1 (fun y => absurd ((nI_ltI (by omega) (by omega)).mp y) (by omega)) (fun _ => ?_)
    iterate 5 refine em_next rfl ?_
    refine em_tp (y := nI L) hX ?_
    refine em_inv_call rfl (tl_later (k := 6) hl (by decide) (fun I1 a1 a2 a3 => ?_))
    refine fin I1 _ a3 (yf.w a1) (hS.w a1) (fun q e I' J' lw z1 z2 => ?_) (fun e => ?_)
    · rw [e] at h
      exact h I' J' lw z1 z2
    · exfalso
      revert e
      cases s.la <;> simp [tl_note]
  · rw [if_neg z] at h
    have go : em_wp em_sc0 (d + 24) 68 66 [some (.ref 40), some (.int (nI i))] [] (em_SH, I, J, em_RT lw) Q := by
      refine fin I s.la hl yf.rf hS (fun q e I' J' lw z1 z2 => ?_) (fun e I' J' lw z1 z2 => ?_)
      · rw [e] at h
        exact h I' J' lw z1 z2
      · rw [e] at h
        exact h I' J' lw z1 z2
    by_cases y : s.fc = 0
    · have ef : I 40 11 = -1 := by rw [e1, y]; rfl
      iterate 1 refine em_next rfl ?_
      refine em_c_ltE ef hS.1.1 (fun _ => go) (fun q => absurd ?_ q)
      rw [Int32.lt_iff_toInt_lt, nI_toInt (by omega)]
      have : (-1 : Int32).toInt = -1 := rfl
      omega
    · have ef : I 40 11 = nI (s.fc - 1) := by
        rw [e1, show s.fc = s.fc - 1 + 1 by omega, nI_p1]
        rfl
      iterate 1 refine em_next rfl ?_
      exact em_c_ltE ef hS.1.1 (fun _ => go) (fun q => absurd ((nI_ltI (by omega) (by omega)).mpr (by omega)) q)
theorem ce_write_l {i m t : Nat} {s : tl_S} (hm : i + m = 401) (hit : i ≤ t) (hX : I 2 5 = nI L) (hL : L ≤ 2000) (hx : cx b L n I J) (hc : cat b L t I) (hl : lat I s.la) (hS : cS b L s I J) (hw : tl_w (tk_K b L) s) (hv : vf I0 I J0 J) (h : wr_o b L I0 J0 Q (tl_fin L (tk_P b L) (tl_run (tk_K b L) (tk_V b L) (tk_N b L) (tk_P b L) m t s))) : em_wp em_sc0 (d + 24) 68 6 [some (.ref 40), some (.int (nI i))] [] (em_SH, I, J, em_RT lw) Q := by
  induction m generalizing i t s I J lw with
  | zero => exact absurd hc.1 (by omega)
  | succ m ih =>
    have l1 := (ck_is _ (kr b L t)).2.2.2.2.2.2.2.2.1
    have l2 := ck_end _ (kr b L t)
    rw [tl_run] at h
    iterate 3 refine em_next rfl ?_
    refine em_c_gtE rfl (y' := nI 400) rfl (fun z => absurd ((nI_ltI (by decide) (by omega)).mp z) (by omega)) (fun _ => ?_)
    iterate 4 refine em_next rfl ?_
    refine em_c_eqE hc.2.2.2 (y' := nI 3) rfl (fun z => ?_) (fun z => ?_)
    · rw [if_pos (l2.mp ((nI_eq (by omega) (by decide)).mp z))] at h
      exact ce_write_e hX hL hl hS hw hv h
    · rw [if_neg (fun e => z (by rw [l2.mpr e]))] at h
      iterate 1 refine em_next rfl ?_
      refine em_inv_call rfl (tl_takeTell hx hc hl hS hw ?_)
      cases hr : tl_one (tk_K b L) (tk_V b L) (tk_N b L) (tk_P b L) t s with
      | inl e =>
        rw [hr, tl_b_inl] at h
        intro I1 J1 lw1 a1 a2
        iterate 1 refine em_next rfl ?_
        refine em_z_ne (fun q => absurd rfl q) (fun _ => ?_)
        iterate 2 refine em_next rfl ?_
        exact em_doneE rfl a2.1 (h I1 J1 lw1 (hv.y a1) a2.2)
      | inr y =>
        rw [hr, tl_b_inr] at h
        intro I1 J1 lw1 a1 a2 a3 a4
        have g1 := tl_one_g (fun t h => tk_V_lt h) hw hr
        have g := ih (i := i + 1) (t := y.1) (s := y.2) (I := I1) (J := J1) (lw := lw1) (by omega) (by have := g1.1.1; omega) (by rw [a1.1 _ (by decide)]; exact hX) (hx.y a1) a2 a3 a4 g1.2 (hv.y a1) h
        rw [nI_succ] at g
        iterate 1 refine em_next rfl ?_
        refine em_z_ne (fun _ => ?_) (fun q => absurd q (by decide))
        iterate 2 refine em_next rfl ?_
        exact g
theorem ce_write (hX : ct_X b L I) (hK : ck_J J) (h : wr_o b L I J Q (tl_read b L)) : em_call (d + 24) 68 [.ref 40] (em_SH, I, J, em_RT lw) Q := by
  iterate 1 refine em_next rfl ?_
  refine em_inv_call rfl (ce_begin hX hK (fun I1 J1 n a1 a2 a3 a4 a5 => ?_))
  iterate 2 refine em_next rfl ?_
  exact ce_write_l (i := 0) (m := 401) (t := 0) (s := tl_0) (by decide) (by decide) (by rw [a1.2.1 _ (by decide)]; exact hX.2.1) hX.1 a2 a3 a4 a5 tl_w0 a1 h
end CWRITE
