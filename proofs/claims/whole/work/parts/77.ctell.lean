/-! the class takes a tell -/
theorem zf.y {q : Nat} {I I' : Nat → Nat → Int32} {J : Nat → Nat → Int64} (h : zf q I I') (h1 : q ∈ ycells) (h2 : q + 1 ∈ ycells) : yf I I' J J := ⟨fun a ha => h.1 a (fun e => ha (by rw [e]; decide)) (fun e => ha (by rw [e]; exact h1)) (fun e => ha (by rw [e]; exact h2)), fun _ _ => rfl⟩
theorem ck_tell : ∀ k, k < 41 → ¬ (20 ≤ k ∧ k ≤ 28) → ck k < 256 ∨ 264 < ck k := by decide
section CTELL
variable {d lw : Nat} {b : Nat → Nat} {L n : Nat} {I I0 I' I'' : Nat → Nat → Int32} {J J0 J' J'' : Nat → Nat → Int64} {M : em_M} {Q : Option Value → em_M → Prop}
theorem cS.law {s : tl_S} {q : Nat} {y : List ek_br × ek_cd} (hS : cS b L s I J) (hq : q = 11 ∨ q = 14 ∨ q = 17 ∨ q = 20) (hf : zf q I I') (hw : cw I' q (cfl y.1 y.2) (lhp y)) : cS b L (tl_m s.n s.rw s.hb s.nt s.cc s.co s.fc s.rg s.bg s.sd (tl_up s.F ((q - 11) / 3) (some y)) s.la) I' J := by
  obtain ⟨h1, h2, h3, h4, h5, h6, h7, h8, h9⟩ := hS
  have e := hf.1
  refine ⟨by rw [e 8 (by decide) (by omega) (by omega)]; exact h1, by rw [e 9 (by decide) (by omega) (by omega)]; exact h2, by rw [e 10 (by decide) (by omega) (by omega)]; exact h3, h4, ⟨(hf.2 _ (by decide)).trans h5.1, (hf.2 _ (by decide)).trans h5.2⟩, ?_⟩
  rcases hq with rfl | rfl | rfl | rfl
  · show cL I' 11 0 (some y) ∧ cL I' 14 1 (s.F 1) ∧ cL I' 17 2 (s.F 2) ∧ cL I' 20 3 (s.F 3)
    exact ⟨hw, h7.keep (e _ (by decide) (by decide) (by decide)) (e _ (by decide) (by decide) (by decide)), h8.keep (e _ (by decide) (by decide) (by decide)) (e _ (by decide) (by decide) (by decide)), h9.keep (e _ (by decide) (by decide) (by decide)) (e _ (by decide) (by decide) (by decide))⟩
  · show cL I' 11 0 (s.F 0) ∧ cL I' 14 1 (some y) ∧ cL I' 17 2 (s.F 2) ∧ cL I' 20 3 (s.F 3)
    exact ⟨h6.keep (e _ (by decide) (by decide) (by decide)) (e _ (by decide) (by decide) (by decide)), hw, h8.keep (e _ (by decide) (by decide) (by decide)) (e _ (by decide) (by decide) (by decide)), h9.keep (e _ (by decide) (by decide) (by decide)) (e _ (by decide) (by decide) (by decide))⟩
  · show cL I' 11 0 (s.F 0) ∧ cL I' 14 1 (s.F 1) ∧ cL I' 17 2 (some y) ∧ cL I' 20 3 (s.F 3)
    exact ⟨h6.keep (e _ (by decide) (by decide) (by decide)) (e _ (by decide) (by decide) (by decide)), h7.keep (e _ (by decide) (by decide) (by decide)) (e _ (by decide) (by decide) (by decide)), hw, h9.keep (e _ (by decide) (by decide) (by decide)) (e _ (by decide) (by decide) (by decide))⟩
  · show cL I' 11 0 (s.F 0) ∧ cL I' 14 1 (s.F 1) ∧ cL I' 17 2 (s.F 2) ∧ cL I' 20 3 (some y)
    exact ⟨h6.keep (e _ (by decide) (by decide) (by decide)) (e _ (by decide) (by decide) (by decide)), h7.keep (e _ (by decide) (by decide) (by decide)) (e _ (by decide) (by decide) (by decide)), h8.keep (e _ (by decide) (by decide) (by decide)) (e _ (by decide) (by decide) (by decide)), hw⟩
theorem tl_takeLaw_draft_lies {t : Nat} {s : tl_S} (hx : cx b L n I J) (hc : cat b L t I) (hl : lat I s.la) (hS : cS b L s I J) (hk : tk_K b L t = 22 + (11 - 11) / 3) (h : tl_o b L I J Q (tl_one (tk_K b L) (tk_V b L) (tk_N b L) (tk_P b L) t s)) : em_call (d + 22) 77 [.ref 40, .ref 11] (em_SH, I, J, em_RT lw) Q := by
  unfold tl_one at h
  rw [if_neg (by omega), if_neg (by omega), if_neg (by omega), if_neg (by omega), if_neg (by omega), if_pos (by omega)] at h
  refine ce_takeLaw_draft_lies hx hc hl (by omega) ?_
  cases hr : tl_law (tk_K b L) (tk_V b L) t with
  | inl e =>
    rw [hr, tl_b_inl] at h
    exact fun I' z1 z2 => h I' J 11 (zf.y z1 (by decide) (by decide)) z2
  | inr y =>
    rw [hr, tl_b_inr] at h
    intro I' z1 z2 z3 z4
    refine h I' J 11 (zf.y z1 (by decide) (by decide)) z2 z3 ?_
    have e : tk_K b L t - 22 = (11 - 11) / 3 := by omega
    rw [e]
    exact cS.law hS (by decide) z1 z4
theorem ce_lawOf_draft_lies (h : Q (some (.ref 11)) (em_SH, I, J, em_RT lw)) : em_call d 35 [.ref 8, .int (nI (ck (22 + (11 - 11) / 3)))] (em_SH, I, J, em_RT lw) Q := by
  iterate 4 refine em_next rfl ?_
  exact em_done rfl h
theorem tl_tellLaw_draft_lies {t : Nat} {s : tl_S} (hx : cx b L n I J) (hc : cat b L t I) (hl : lat I s.la) (hS : cS b L s I J) (hk : tk_K b L t = 22 + (11 - 11) / 3) (h : tl_o b L I J Q (tl_one (tk_K b L) (tk_V b L) (tk_N b L) (tk_P b L) t s)) : em_wp em_sc0 (d + 23) 70 66 [some (.ref 40)] [] (em_SH, I, J, em_RT lw) Q := by
  iterate 5 refine em_next rfl ?_
  refine em_tp (y := nI (ck (22 + (11 - 11) / 3))) (by rw [← hk]; exact hc.2.2.2) ?_
  refine em_inv_call rfl (ce_lawOf_draft_lies ?_)
  refine em_inv_call rfl (tl_takeLaw_draft_lies hx hc hl hS hk (h.c (fun v M hv hQ => ?_)))
  rcases hv with rfl | rfl <;> exact em_done rfl hQ
theorem tl_takeLaw_draft_parts {t : Nat} {s : tl_S} (hx : cx b L n I J) (hc : cat b L t I) (hl : lat I s.la) (hS : cS b L s I J) (hk : tk_K b L t = 22 + (14 - 11) / 3) (h : tl_o b L I J Q (tl_one (tk_K b L) (tk_V b L) (tk_N b L) (tk_P b L) t s)) : em_call (d + 22) 77 [.ref 40, .ref 14] (em_SH, I, J, em_RT lw) Q := by
  unfold tl_one at h
  rw [if_neg (by omega), if_neg (by omega), if_neg (by omega), if_neg (by omega), if_neg (by omega), if_pos (by omega)] at h
  refine ce_takeLaw_draft_parts hx hc hl (by omega) ?_
  cases hr : tl_law (tk_K b L) (tk_V b L) t with
  | inl e =>
    rw [hr, tl_b_inl] at h
    exact fun I' z1 z2 => h I' J 14 (zf.y z1 (by decide) (by decide)) z2
  | inr y =>
    rw [hr, tl_b_inr] at h
    intro I' z1 z2 z3 z4
    refine h I' J 14 (zf.y z1 (by decide) (by decide)) z2 z3 ?_
    have e : tk_K b L t - 22 = (14 - 11) / 3 := by omega
    rw [e]
    exact cS.law hS (by decide) z1 z4
theorem ce_lawOf_draft_parts (h : Q (some (.ref 14)) (em_SH, I, J, em_RT lw)) : em_call d 35 [.ref 8, .int (nI (ck (22 + (14 - 11) / 3)))] (em_SH, I, J, em_RT lw) Q := by
  iterate 4 refine em_next rfl ?_
  exact em_done rfl h
theorem tl_tellLaw_draft_parts {t : Nat} {s : tl_S} (hx : cx b L n I J) (hc : cat b L t I) (hl : lat I s.la) (hS : cS b L s I J) (hk : tk_K b L t = 22 + (14 - 11) / 3) (h : tl_o b L I J Q (tl_one (tk_K b L) (tk_V b L) (tk_N b L) (tk_P b L) t s)) : em_wp em_sc0 (d + 23) 70 66 [some (.ref 40)] [] (em_SH, I, J, em_RT lw) Q := by
  iterate 5 refine em_next rfl ?_
  refine em_tp (y := nI (ck (22 + (14 - 11) / 3))) (by rw [← hk]; exact hc.2.2.2) ?_
  refine em_inv_call rfl (ce_lawOf_draft_parts ?_)
  refine em_inv_call rfl (tl_takeLaw_draft_parts hx hc hl hS hk (h.c (fun v M hv hQ => ?_)))
  rcases hv with rfl | rfl <;> exact em_done rfl hQ
theorem tl_takeLaw_draft_chills {t : Nat} {s : tl_S} (hx : cx b L n I J) (hc : cat b L t I) (hl : lat I s.la) (hS : cS b L s I J) (hk : tk_K b L t = 22 + (17 - 11) / 3) (h : tl_o b L I J Q (tl_one (tk_K b L) (tk_V b L) (tk_N b L) (tk_P b L) t s)) : em_call (d + 22) 77 [.ref 40, .ref 17] (em_SH, I, J, em_RT lw) Q := by
  unfold tl_one at h
  rw [if_neg (by omega), if_neg (by omega), if_neg (by omega), if_neg (by omega), if_neg (by omega), if_pos (by omega)] at h
  refine ce_takeLaw_draft_chills hx hc hl (by omega) ?_
  cases hr : tl_law (tk_K b L) (tk_V b L) t with
  | inl e =>
    rw [hr, tl_b_inl] at h
    exact fun I' z1 z2 => h I' J 17 (zf.y z1 (by decide) (by decide)) z2
  | inr y =>
    rw [hr, tl_b_inr] at h
    intro I' z1 z2 z3 z4
    refine h I' J 17 (zf.y z1 (by decide) (by decide)) z2 z3 ?_
    have e : tk_K b L t - 22 = (17 - 11) / 3 := by omega
    rw [e]
    exact cS.law hS (by decide) z1 z4
theorem ce_lawOf_draft_chills (h : Q (some (.ref 17)) (em_SH, I, J, em_RT lw)) : em_call d 35 [.ref 8, .int (nI (ck (22 + (17 - 11) / 3)))] (em_SH, I, J, em_RT lw) Q := by
  iterate 4 refine em_next rfl ?_
  exact em_done rfl h
theorem tl_tellLaw_draft_chills {t : Nat} {s : tl_S} (hx : cx b L n I J) (hc : cat b L t I) (hl : lat I s.la) (hS : cS b L s I J) (hk : tk_K b L t = 22 + (17 - 11) / 3) (h : tl_o b L I J Q (tl_one (tk_K b L) (tk_V b L) (tk_N b L) (tk_P b L) t s)) : em_wp em_sc0 (d + 23) 70 66 [some (.ref 40)] [] (em_SH, I, J, em_RT lw) Q := by
  iterate 5 refine em_next rfl ?_
  refine em_tp (y := nI (ck (22 + (17 - 11) / 3))) (by rw [← hk]; exact hc.2.2.2) ?_
  refine em_inv_call rfl (ce_lawOf_draft_chills ?_)
  refine em_inv_call rfl (tl_takeLaw_draft_chills hx hc hl hS hk (h.c (fun v M hv hQ => ?_)))
  rcases hv with rfl | rfl <;> exact em_done rfl hQ
theorem tl_takeLaw_draft_costs {t : Nat} {s : tl_S} (hx : cx b L n I J) (hc : cat b L t I) (hl : lat I s.la) (hS : cS b L s I J) (hk : tk_K b L t = 22 + (20 - 11) / 3) (h : tl_o b L I J Q (tl_one (tk_K b L) (tk_V b L) (tk_N b L) (tk_P b L) t s)) : em_call (d + 22) 77 [.ref 40, .ref 20] (em_SH, I, J, em_RT lw) Q := by
  unfold tl_one at h
  rw [if_neg (by omega), if_neg (by omega), if_neg (by omega), if_neg (by omega), if_neg (by omega), if_pos (by omega)] at h
  refine ce_takeLaw_draft_costs hx hc hl (by omega) ?_
  cases hr : tl_law (tk_K b L) (tk_V b L) t with
  | inl e =>
    rw [hr, tl_b_inl] at h
    exact fun I' z1 z2 => h I' J 20 (zf.y z1 (by decide) (by decide)) z2
  | inr y =>
    rw [hr, tl_b_inr] at h
    intro I' z1 z2 z3 z4
    refine h I' J 20 (zf.y z1 (by decide) (by decide)) z2 z3 ?_
    have e : tk_K b L t - 22 = (20 - 11) / 3 := by omega
    rw [e]
    exact cS.law hS (by decide) z1 z4
theorem ce_lawOf_draft_costs (h : Q (some (.ref 20)) (em_SH, I, J, em_RT lw)) : em_call d 35 [.ref 8, .int (nI (ck (22 + (20 - 11) / 3)))] (em_SH, I, J, em_RT lw) Q := by
  iterate 4 refine em_next rfl ?_
  exact em_done rfl h
theorem tl_tellLaw_draft_costs {t : Nat} {s : tl_S} (hx : cx b L n I J) (hc : cat b L t I) (hl : lat I s.la) (hS : cS b L s I J) (hk : tk_K b L t = 22 + (20 - 11) / 3) (h : tl_o b L I J Q (tl_one (tk_K b L) (tk_V b L) (tk_N b L) (tk_P b L) t s)) : em_wp em_sc0 (d + 23) 70 66 [some (.ref 40)] [] (em_SH, I, J, em_RT lw) Q := by
  iterate 5 refine em_next rfl ?_
  refine em_tp (y := nI (ck (22 + (20 - 11) / 3))) (by rw [← hk]; exact hc.2.2.2) ?_
  refine em_inv_call rfl (ce_lawOf_draft_costs ?_)
  refine em_inv_call rfl (tl_takeLaw_draft_costs hx hc hl hS hk (h.c (fun v M hv hQ => ?_)))
  rcases hv with rfl | rfl <;> exact em_done rfl hQ
theorem tl_takeTell {t : Nat} {s : tl_S} (hx : cx b L n I J) (hc : cat b L t I) (hl : lat I s.la) (hS : cS b L s I J) (hw : tl_w (tk_K b L) s) (h : tl_o b L I J Q (tl_one (tk_K b L) (tk_V b L) (tk_N b L) (tk_P b L) t s)) : em_call (d + 23) 70 [.ref 40] (em_SH, I, J, em_RT lw) Q := by
  have dn : ∀ (v : Int32) (M : em_M) (pc : Nat), em_ins 70 pc = some (.ireturn, pc + 1) → (v = 0 ∨ v = 1) → Q (some (.int v)) M → em_wp em_sc0 (d + 23) 70 pc [some (.ref 40)] [.int v] M Q := fun v M pc hp hv hQ => by
    refine em_done (r := some (.int v)) ?_ hQ
    unfold em_stp
    rw [hp]
    rcases hv with rfl | rfl <;> rfl
  have hk41 := kr b L t
  iterate 2 refine em_next rfl ?_
  refine em_tp hc.2.2.2 ?_
  by_cases hr : 20 ≤ tk_K b L t ∧ tk_K b L t ≤ 28
  · rcases (show tk_K b L t = 20 ∨ tk_K b L t = 21 ∨ tk_K b L t = 22 ∨ tk_K b L t = 23 ∨ tk_K b L t = 24 ∨ tk_K b L t = 25 ∨ tk_K b L t = 26 ∨ tk_K b L t = 27 ∨ tk_K b L t = 28 by omega) with hk | hk | hk | hk | hk | hk | hk | hk | hk
    · rw [hk]
      iterate 2 refine em_next rfl ?_
      exact em_inv_call rfl (tl_takeSleeper hx hc hl hS hw.1 hw.2 hk (h.c (fun v M hv hQ => dn v M 60 rfl hv hQ)))
    · rw [hk]
      iterate 2 refine em_next rfl ?_
      exact em_inv_call rfl (tl_takeCold hx hc hl hS hw.1 hk (h.c (fun v M hv hQ => dn v M 65 rfl hv hQ)))
    · rw [hk]
      iterate 1 refine em_next rfl ?_
      exact tl_tellLaw_draft_lies hx hc hl hS hk h
    · rw [hk]
      iterate 1 refine em_next rfl ?_
      exact tl_tellLaw_draft_parts hx hc hl hS hk h
    · rw [hk]
      iterate 1 refine em_next rfl ?_
      exact tl_tellLaw_draft_chills hx hc hl hS hk h
    · rw [hk]
      iterate 1 refine em_next rfl ?_
      exact tl_tellLaw_draft_costs hx hc hl hS hk h
    · rw [hk]
      iterate 2 refine em_next rfl ?_
      exact em_inv_call rfl (tl_takeRing hx hc hl hS hk (h.c (fun v M hv hQ => dn v M 86 rfl hv hQ)))
    · rw [hk]
      iterate 2 refine em_next rfl ?_
      exact em_inv_call rfl (tl_takeBegins hx hc hl hS hk (h.c (fun v M hv hQ => dn v M 91 rfl hv hQ)))
    · rw [hk]
      iterate 2 refine em_next rfl ?_
      exact em_inv_call rfl (tl_takeSeed hx hc hl hS hk (h.c (fun v M hv hQ => dn v M 96 rfl hv hQ)))
  · unfold tl_one at h
    rw [if_neg (by omega), if_neg (by omega), if_neg (by omega), if_neg (by omega), if_neg (by omega), if_neg (by omega)] at h
    have g := ck_tell _ hk41 hr
    have l1 := (ck_is _ hk41).2.2.2.2.2.2.2.2.1
    refine em_tsd rfl (by rw [nI_toInt (by omega)]; omega) ?_
    iterate 2 refine em_next rfl ?_
    refine em_inv_call rfl (ce_refuse (k := 1) hx hc (fun I2 a1 a2 a3 a4 => ?_))
    exact em_done rfl (h I2 J lw (yf.w (wf.of a1 a2)) ⟨a3, a4⟩)
end CTELL
