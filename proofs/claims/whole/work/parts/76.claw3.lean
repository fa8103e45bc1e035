/-! the class takes a law -/
theorem em_RT_put {I : Nat → Nat → Int32} {J : Nat → Nat → Int64} {lw q : Nat} : em_putR (em_SH, I, J, em_RT lw) 40 3 (some q) = (em_SH, I, J, em_RT q) := by
  have e : (fun a j => if a = 40 ∧ j = 3 then some q else em_RT lw a j) = em_RT q := by
    funext a j
    unfold em_RT
    by_cases h : a = 40 ∧ j = 3
    · rw [if_pos h, h.1, h.2]
      rfl
    · rw [if_neg h]
      have e : (Nat.beq a 40 && Nat.beq j 3) = false := by
        cases hb : (Nat.beq a 40 && Nat.beq j 3) with
        | false => rfl
        | true =>
          rw [Bool.and_eq_true] at hb
          exact absurd ⟨Nat.eq_of_beq_eq_true hb.1, Nat.eq_of_beq_eq_true hb.2⟩ h
      rw [e]
      rfl
  unfold em_putR
  dsimp only
  rw [e]
theorem tl_b_inr {A B : Type} {q : A} {g : A → tl_E ⊕ B} : tl_b (.inr q) g = g q := rfl
theorem tl_b_inl {A B : Type} {e : tl_E} {g : A → tl_E ⊕ B} : tl_b (.inl e) g = .inl e := rfl
def zf (q : Nat) (I I' : Nat → Nat → Int32) : Prop := (∀ a, a ≠ 40 → a ≠ q → a ≠ q + 1 → I' a = I a) ∧ ∀ j, j ∉ [4, 5, 6, 7, 8, 9] → I' 40 j = I 40 j
theorem zf.rf {q : Nat} {I : Nat → Nat → Int32} : zf q I I := ⟨fun _ _ _ _ => rfl, fun _ _ => rfl⟩
theorem zf.tr {q : Nat} {I I' I'' : Nat → Nat → Int32} (h : zf q I I') (h' : zf q I' I'') : zf q I I'' := ⟨fun a z1 z2 z3 => (h'.1 a z1 z2 z3).trans (h.1 a z1 z2 z3), fun j hj => (h'.2 j hj).trans (h.2 j hj)⟩
theorem zf.w {q : Nat} {I I' : Nat → Nat → Int32} (h : wf I I') : zf q I I' := ⟨fun a z1 _ _ => h.1 a z1, h.2⟩
theorem zf.x {q : Nat} {I I' : Nat → Nat → Int32} (h : xf q I I') : zf q I I' := ⟨h.1, fun j hj => h.2.1 j (fun z => hj (by revert z; simp; omega))⟩
theorem zf.l {q : Nat} {I I' : Nat → Nat → Int32} (hq : q < 39) (h : ∀ a, a ≠ q → a ≠ q + 1 → I' a = I a) : zf q I I' := ⟨fun a _ z2 z3 => h a z2 z3, fun j _ => by rw [h 40 (by omega) (by omega)]⟩
def lhp (y : List ek_br × ek_cd) : Bool := y.1.any (fun z => hp z.1 || (hp z.2.1 || hp z.2.2)) || hp y.2
def tl_lo (b : Nat → Nat) (L q : Nat) (I : Nat → Nat → Int32) (J : Nat → Nat → Int64) (Q : Option Value → em_M → Prop) (s : List Int32) (lp : Bool) (la : tl_F) (r : tl_L) : Prop := match r with
  | .inl e => ∀ I' : Nat → Nat → Int32, zf q I I' → flt b L I' e → Q (some (.int 0)) (em_SH, I', J, em_RT q)
  | .inr y => ∀ I' : Nat → Nat → Int32, zf q I I' → cat b L y.1 I' → lat I' la → cw I' q (s ++ cfl y.2.1 y.2.2) (lp || lhp y.2) → Q (some (.int 1)) (em_SH, I', J, em_RT q)
theorem tl_lo.k {b : Nat → Nat} {L q : Nat} {I I1 : Nat → Nat → Int32} {J : Nat → Nat → Int64} {Q : Option Value → em_M → Prop} {s : List Int32} {lp : Bool} {la : tl_F} {r : tl_L} (h : tl_lo b L q I J Q s lp la r) (hf : zf q I I1) : tl_lo b L q I1 J Q s lp la r := by
  cases r with
  | inl e => exact fun I' z1 z2 => h I' (hf.tr z1) z2
  | inr w => exact fun I' z1 z2 z3 z4 => h I' (hf.tr z1) z2 z3 z4
section CLAW3
variable {d lw : Nat} {b : Nat → Nat} {L n : Nat} {I I0 I' I'' : Nat → Nat → Int32} {J J0 J' J'' : Nat → Nat → Int64} {M : em_M} {Q : Option Value → em_M → Prop}
theorem cx.z {q : Nat} (h : cx b L n I J) (hf : zf q I I') (hq : q < 39) (hq2 : 10 < q) : cx b L n I' J := h.keep (hf.1 _ (by decide) (by omega) (by omega)) (hf.1 _ (by decide) (by omega) (by omega)) rfl
theorem tz_accept (hx : cx b L n I J) {t : Nat} {la : tl_F} (hc : cat b L t I) (hl : lat I la) (hg : ¬ tk_K b L t = 0 ∧ ¬ tk_K b L t = 3) (h1 : t < 400 → ∀ I', wf I I' → cat b L (t + 1) I' → lat I' la → Q (some (.int 1)) (em_SH, I', J, em_RT lw)) (h2 : ¬ t < 400 → ∀ I', wf I I' → flt b L I' (2, t) → Q (some (.int 0)) (em_SH, I', J, em_RT lw)) : em_call d 84 [.ref 40] (em_SH, I, J, em_RT lw) Q := by
  refine tl_accept hx hc hl hg ?_
  unfold tl_acc
  by_cases z : t < 400
  · rw [if_pos z]; exact h1 z
  · rw [if_neg z]; exact h2 z
theorem tz_take (hx : cx b L n I J) {t k : Nat} {la : tl_F} (hc : cat b L t I) (hl : lat I la) (hk : k < 41) (hk0 : ¬ k = 0) (hk3 : ¬ k = 3) (h1 : tl_tk (tk_K b L) k t none = .inr (t + 1, none) → t < 400 → ∀ I', wf I I' → cat b L (t + 1) I' → lat I' la → Q (some (.int 1)) (em_SH, I', J, em_RT lw)) (h2 : ∀ e, tl_tk (tk_K b L) k t none = .inl e → ∀ I', wf I I' → flt b L I' e → Q (some (.int 0)) (em_SH, I', J, em_RT lw)) : em_call (d + 1) 81 [.ref 40, .int (nI (ck k))] (em_SH, I, J, em_RT lw) Q := by
  refine tl_take hx hc hl hk hk0 hk3 ?_
  unfold tl_tk tl_acc at h1 h2 ⊢
  by_cases y : tk_K b L t = k
  · rw [if_pos y] at h1 h2 ⊢
    by_cases z : t < 400
    · rw [if_pos z] at h1 ⊢; exact h1 rfl z
    · rw [if_neg z] at h2 ⊢; exact h2 _ rfl
  · rw [if_neg y] at h2 ⊢; exact h2 _ rfl
theorem lhp_cons {x : ek_br} {bs : List ek_br} {c : ek_cd} : lhp (x :: bs, c) = ((hp x.1 || (hp x.2.1 || hp x.2.2)) || lhp (bs, c)) := by
  unfold lhp
  rw [List.any_cons, Bool.or_assoc]
theorem tz_sum_draft_lies {t : Nat} {I : Nat → Nat → Int32} {s : List Int32} {lp : Bool} {la : tl_F} {Q : Option Value → em_M → Prop} {d : Nat} (hx : cx b L n I J) (hc : cat b L t I) (hl : lat I la) (hw : cw I 11 s lp) (hsl : s.length ≤ t) (h1 : ∀ w, tl_sum (tk_K b L) (tk_V b L) t = .inr w → t < w.1 → w.2.length ≤ w.1 - t → ∀ I', xf 11 I I' → cat b L w.1 I' → lat I' la → cw I' 11 (s ++ w.2.map cst) (lp || hp w.2) → Q (some (.int 1)) (em_SH, I', J, em_RT 11)) (h2 : ∀ e, tl_sum (tk_K b L) (tk_V b L) t = .inl e → ∀ I', zf 11 I I' → flt b L I' e → Q (some (.int 0)) (em_SH, I', J, em_RT 11)) : em_call (d + 21) 78 [.ref 40, .int (nI 0)] (em_SH, I, J, em_RT 11) Q := by
  refine ce_sum_draft_lies hx hc hw hsl ?_
  cases hr : rd_sum (tk_K b L) (tk_V b L) t with
  | inl e => exact fun I' a1 a2 a3 => h2 e hr I' (zf.x a1) ⟨a2, a3⟩
  | inr w =>
    obtain ⟨⟨g1, g2, g3, g4⟩, -⟩ := rd_pr (fun t h => tk_V_lt h) (by decide) (by decide) hc.1 hr
    exact fun I' a1 a2 a3 => h1 w hr (g3 (by decide)) g4 I' a1 a2 (hl.x a1) a3
theorem ce_lend_draft_lies {i t : Nat} {s : List Int32} {lp : Bool} {la : tl_F} (hx : cx b L n I J) (hc : cat b L t I) (hl : lat I la) (hw : cw I 11 s lp) (hsl : s.length + 2 ≤ t) (h : tl_lo b L 11 I J Q s lp la (tl_end (tk_K b L) (tk_V b L) t)) : em_wp em_sc0 (d + 22) 77 142 [some (.ref 40), some (.ref 11), some (.int (nI i))] [] (em_SH, I, J, em_RT 11) Q := by
  unfold tl_end at h
  iterate 2 refine em_next rfl ?_
  refine em_inv_call rfl (tz_sum_draft_lies hx hc hl hw (by omega) (fun w e1 g1 g2 I1 a1 a2 a3 a4 => ?_) (fun e e1 I1 a1 a2 => ?_))
  · rw [e1, tl_b_inr] at h
    have z1 : zf 11 I I1 := zf.x a1
    have hx1 := hx.z z1 (by decide) (by decide)
    have t4 := a2.1
    iterate 1 refine em_next rfl ?_
    refine em_z_ne (fun _ => ?_) (fun q => absurd q (by decide))
    iterate 3 refine em_next rfl ?_
    refine em_inv_call rfl (ce_add_draft_lies a4 (fun I2 b1 b2 => ?_))
    have b3 := b2 (by rw [List.length_append, List.length_map]; omega)
    rw [decide_eq_false (by decide), Bool.or_false, List.append_assoc] at b3
    have z2 : zf 11 I1 I2 := zf.l (by decide) b1.1
    iterate 2 refine em_next rfl ?_
    refine em_inv_call rfl (tz_take (k := 4) (la := la) (hx1.z z2 (by decide) (by decide)) (a2.keep (b1.1 _ (by decide) (by decide))) (a3.keep (by rw [b1.1 _ (by decide) (by decide)]) (by rw [b1.1 _ (by decide) (by decide)])) (by decide) (by decide) (by decide) (fun e2 g3 I3 c1 c2 c3 => ?_) (fun e e2 I3 c1 c2 => ?_))
    · rw [e2, tl_b_inr] at h
      refine em_done rfl (h I3 ((z1.tr z2).tr (zf.w c1)) c2 c3 ?_)
      exact b3.keep (c1.1 _ (by decide)) (c1.1 _ (by decide))
    · rw [e2, tl_b_inl] at h
      exact em_done rfl (h I3 ((z1.tr z2).tr (zf.w c1)) c2)
  · rw [e1, tl_b_inl] at h
    iterate 1 refine em_next rfl ?_
    refine em_z_ne (fun q => absurd rfl q) (fun _ => ?_)
    iterate 1 refine em_next rfl ?_
    exact em_done rfl (h I1 a1 a2)
theorem ce_ifs_draft_lies {i m t : Nat} {s : List Int32} {lp : Bool} {la : tl_F} (hm : i + m = 4) (hx : cx b L n I J) (hc : cat b L t I) (hl : lat I la) (hw : cw I 11 s lp) (hsl : s.length + 2 ≤ t) (h : tl_lo b L 11 I J Q s lp la (tl_ifs (tk_K b L) (tk_V b L) m t)) : em_wp em_sc0 (d + 22) 77 32 [some (.ref 40), some (.ref 11), some (.int (nI i))] [] (em_SH, I, J, em_RT 11) Q := by
  induction m generalizing i t s lp I with
  | zero =>
    have e : i = 4 := by omega
    subst e
    rw [tl_ifs] at h
    iterate 3 refine em_next rfl ?_
    refine em_c_gt (fun z => absurd z (by decide)) (fun _ => ?_)
    iterate 4 refine em_next rfl ?_
    have hck := ck_inj (tk_K b L t) (kr b L t) 29 (by decide)
    have hlt := (ck_is _ (kr b L t)).2.2.2.2.2.2.2.2.1
    refine em_c_neE hc.2.2.2 (y' := nI 265) rfl (fun z => ?_) (fun z => ?_)
    · rw [if_neg (fun e => z (by rw [e]; rfl))] at h
      exact ce_lend_draft_lies hx hc hl hw hsl h
    · rw [if_pos (hck.mp ((nI_eq (by omega) (by decide)).mp z))] at h
      iterate 3 refine em_next rfl ?_
      refine em_c_lt (fun z => absurd z (by decide)) (fun _ => ?_)
      iterate 2 refine em_next rfl ?_
      refine em_inv_call rfl (ce_refuse (k := 2) hx hc (fun I2 a1 a2 a3 a4 => ?_))
      exact em_done rfl (h I2 (zf.w (wf.of a1 a2)) ⟨a3, a4⟩)
  | succ m ih =>
    rw [tl_ifs] at h
    iterate 3 refine em_next rfl ?_
    refine em_c_gtE rfl (y' := nI 4) rfl (fun z => absurd ((nI_ltI (by decide) (by omega)).mp z) (by omega)) (fun _ => ?_)
    iterate 4 refine em_next rfl ?_
    have hck := ck_inj (tk_K b L t) (kr b L t) 29 (by decide)
    have hlt := (ck_is _ (kr b L t)).2.2.2.2.2.2.2.2.1
    refine em_c_neE hc.2.2.2 (y' := nI 265) rfl (fun z => ?_) (fun z => ?_)
    · rw [if_neg (fun e => z (by rw [e]; rfl))] at h
      exact ce_lend_draft_lies hx hc hl hw hsl h
    have hk := hck.mp ((nI_eq (by omega) (by decide)).mp z)
    rw [if_pos hk] at h
    unfold tl_br at h
    iterate 3 refine em_next rfl ?_
    refine em_c_ltE rfl (y' := nI 4) rfl (fun _ => ?_) (fun z => absurd (nI_lt (by omega) (by decide)) z)
    have bad : ∀ (e : tl_E) (K : Nat → Nat → Int32), (∀ I' : Nat → Nat → Int32, zf 11 I I' → flt b L I' e → Q (some (.int 0)) (em_SH, I', J, em_RT 11)) → zf 11 I K → flt b L K e → em_wp em_sc0 (d + 22) 77 100 [some (.ref 40), some (.ref 11), some (.int (nI i))] [] (em_SH, K, J, em_RT 11) Q := fun e K hh k1 k2 => by
      iterate 1 refine em_next rfl ?_
      exact em_done rfl (hh K k1 k2)
    have bad2 : ∀ (e : tl_E) (K : Nat → Nat → Int32), (∀ I' : Nat → Nat → Int32, zf 11 I I' → flt b L I' e → Q (some (.int 0)) (em_SH, I', J, em_RT 11)) → zf 11 I K → flt b L K e → em_wp em_sc0 (d + 22) 77 127 [some (.ref 40), some (.ref 11), some (.int (nI i))] [] (em_SH, K, J, em_RT 11) Q := fun e K hh k1 k2 => by
      iterate 1 refine em_next rfl ?_
      exact em_done rfl (hh K k1 k2)
    iterate 1 refine em_next rfl ?_
    refine em_inv_call rfl (tz_accept hx hc hl (by omega) (fun g1 I1 a1 a2 a3 => ?_) (fun g1 I1 a1 a2 => ?_))
    rotate_left
    · rw [show tl_acc t none = .inl (2, t) from if_neg g1, tl_b_inl, tl_b_inl] at h
      iterate 1 refine em_next rfl ?_
      refine em_z_eq (fun _ => ?_) (fun q => absurd rfl q)
      exact bad _ I1 h (zf.w a1) a2
    rw [show tl_acc t none = .inr (t + 1, none) from if_pos g1, tl_b_inr] at h
    have z1 : zf 11 I I1 := zf.w a1
    iterate 1 refine em_next rfl ?_
    refine em_z_eq (fun q => absurd q (by decide)) (fun _ => ?_)
    iterate 2 refine em_next rfl ?_
    refine em_inv_call rfl (tz_sum_draft_lies (hx.z z1 (by decide) (by decide)) a2 a3 (hw.keep (a1.1 _ (by decide)) (a1.1 _ (by decide))) (by omega) (fun w1 e1 p1 p2 I2 b1 b2 b3 b4 => ?_) (fun e e1 I2 b1 b2 => ?_))
    rotate_left
    · rw [e1, tl_b_inl, tl_b_inl] at h
      iterate 1 refine em_next rfl ?_
      refine em_z_eq (fun _ => ?_) (fun q => absurd rfl q)
      exact bad _ I2 h (z1.tr b1) b2
    rw [e1, tl_b_inr] at h
    have z2 : zf 11 I I2 := z1.tr (zf.x b1)
    iterate 1 refine em_next rfl ?_
    refine em_z_eq (fun q => absurd q (by decide)) (fun _ => ?_)
    iterate 2 refine em_next rfl ?_
    refine em_inv_call rfl (tz_take (k := 13) (la := la) (hx.z z2 (by decide) (by decide)) b2 b3 (by decide) (by decide) (by decide) (fun e2 p3 I3 c1 c2 c3 => ?_) (fun e e2 I3 c1 c2 => ?_))
    rotate_left
    · rw [e2, tl_b_inl, tl_b_inl] at h
      iterate 1 refine em_next rfl ?_
      refine em_z_eq (fun _ => ?_) (fun q => absurd rfl q)
      exact bad _ I3 h (z2.tr (zf.w c1)) c2
    rw [e2, tl_b_inr] at h
    have z3 : zf 11 I I3 := z2.tr (zf.w c1)
    have l2 : (s ++ w1.2.map cst).length + 3 ≤ w1.1 := by rw [List.length_append, List.length_map]; omega
    iterate 1 refine em_next rfl ?_
    refine em_z_eq (fun q => absurd q (by decide)) (fun _ => ?_)
    iterate 2 refine em_next rfl ?_
    refine em_inv_call rfl (tz_sum_draft_lies (hx.z z3 (by decide) (by decide)) c2 c3 (b4.keep (c1.1 _ (by decide)) (c1.1 _ (by decide))) (by omega) (fun w2 e3 p4 p5 I4 d1 d2 d3 d4 => ?_) (fun e e3 I4 d1 d2 => ?_))
    rotate_left
    · rw [e3, tl_b_inl, tl_b_inl] at h
      iterate 1 refine em_next rfl ?_
      refine em_z_eq (fun _ => ?_) (fun q => absurd rfl q)
      exact bad _ I4 h (z3.tr d1) d2
    rw [e3, tl_b_inr] at h
    have z4 : zf 11 I I4 := z3.tr (zf.x d1)
    have l3 : ((s ++ w1.2.map cst) ++ w2.2.map cst).length + 4 ≤ w2.1 := by
      rw [List.length_append, List.length_map]
      omega
    iterate 1 refine em_next rfl ?_
    refine em_z_eq (fun q => absurd q (by decide)) (fun _ => ?_)
    iterate 2 refine em_next rfl ?_
    refine em_inv_call rfl (tz_take (k := 30) (la := la) (hx.z z4 (by decide) (by decide)) d2 d3 (by decide) (by decide) (by decide) (fun e4 p6 I5 f1 f2 f3 => ?_) (fun e e4 I5 f1 f2 => ?_))
    rotate_left
    · rw [e4, tl_b_inl, tl_b_inl] at h
      iterate 1 refine em_next rfl ?_
      refine em_z_ne (fun q => absurd rfl q) (fun _ => ?_)
      exact bad _ I5 h (z4.tr (zf.w f1)) f2
    rw [e4, tl_b_inr] at h
    have z5 : zf 11 I I5 := z4.tr (zf.w f1)
    iterate 1 refine em_next rfl ?_
    refine em_z_ne (fun _ => ?_) (fun q => absurd q (by decide))
    iterate 2 refine em_next rfl ?_
    refine em_inv_call rfl (ce_begin_draft_lies (d4.keep (f1.1 _ (by decide)) (f1.1 _ (by decide))) (by omega) (fun I6 q1 q2 q3 => ?_))
    have z6 : zf 11 I I6 := z5.tr (zf.l (by decide) q1)
    have c6 : cat b L (w2.1 + 1) I6 := f2.keep (q1 _ (by decide) (by decide))
    have la6 : lat I6 la := f3.keep (by rw [q1 _ (by decide) (by decide)]) (by rw [q1 _ (by decide) (by decide)])
    have l4 : (((s ++ w1.2.map cst) ++ w2.2.map cst) ++ [-14, 0]).length + 3 ≤ w2.1 + 1 := by
      rw [List.length_append]
      dsimp only [List.length]
      omega
    iterate 2 refine em_next rfl ?_
    refine em_inv_call rfl (tz_sum_draft_lies (hx.z z6 (by decide) (by decide)) c6 la6 q2 (by omega) (fun w3 e5 p7 p8 I7 r1 r2 r3 r4 => ?_) (fun e e5 I7 r1 r2 => ?_))
    rotate_left
    · rw [e5, tl_b_inl, tl_b_inl] at h
      iterate 1 refine em_next rfl ?_
      refine em_z_eq (fun _ => ?_) (fun q => absurd rfl q)
      exact bad2 _ I7 h (z6.tr r1) r2
    rw [e5, tl_b_inr] at h
    have z7 : zf 11 I I7 := z6.tr (zf.x r1)
    iterate 1 refine em_next rfl ?_
    refine em_z_eq (fun q => absurd q (by decide)) (fun _ => ?_)
    iterate 2 refine em_next rfl ?_
    refine em_inv_call rfl (tz_take (k := 31) (la := la) (hx.z z7 (by decide) (by decide)) r2 r3 (by decide) (by decide) (by decide) (fun e6 p9 I8 s1 s2 s3 => ?_) (fun e e6 I8 s1 s2 => ?_))
    rotate_left
    · rw [e6, tl_b_inl, tl_b_inl] at h
      iterate 1 refine em_next rfl ?_
      refine em_z_ne (fun q => absurd rfl q) (fun _ => ?_)
      exact bad2 _ I8 h (z7.tr (zf.w s1)) s2
    rw [e6, tl_b_inr, tl_b_inr] at h
    have z8 : zf 11 I I8 := z7.tr (zf.w s1)
    have r5 : cw I8 11 ((((s ++ w1.2.map cst) ++ w2.2.map cst) ++ [-14]) ++ 0 :: w3.2.map cst) (((lp || hp w1.2) || hp w2.2) || hp w3.2) := by
      have := r4.keep (s1.1 _ (by decide)) (s1.1 _ (by decide))
      rw [List.append_assoc _ [-14, 0]] at this
      rw [List.append_assoc _ [-14]]
      exact this
    have k8 : I8 11 3 = nI (((s ++ w1.2.map cst) ++ w2.2.map cst) ++ [-14]).length := by
      rw [s1.1 _ (by decide), r1.2.2 _ (by decide) (by decide), q3, List.length_append (bs := [-14])]
      rfl
    have l5 : ((((s ++ w1.2.map cst) ++ w2.2.map cst) ++ [-14]) ++ 0 :: w3.2.map cst).length + 3 ≤ w3.1 := by
      simp only [List.length_append, List.length_map, List.length_cons, List.length_nil] at l4 ⊢
      omega
    iterate 1 refine em_next rfl ?_
    refine em_z_ne (fun _ => ?_) (fun q => absurd q (by decide))
    iterate 2 refine em_next rfl ?_
    refine em_inv_call rfl (ce_end_draft_lies r5 k8 (by omega) (fun I9 u1 u2 => ?_))
    have z9 : zf 11 I I9 := z8.tr (zf.l (by decide) u1.1)
    have g := ih (i := i + 1) (t := w3.1 + 1) (I := I9) (by omega) (hx.z z9 (by decide) (by decide)) (s2.keep (u1.1 _ (by decide) (by decide))) (s3.keep (by rw [u1.1 _ (by decide) (by decide)]) (by rw [u1.1 _ (by decide) (by decide)])) u2 (by
      simp only [List.length_append, List.length_map, List.length_cons, List.length_nil] at l5 ⊢
      omega) (by
      cases hr : tl_ifs (tk_K b L) (tk_V b L) m (w3.1 + 1) with
      | inl e =>
        rw [hr, tl_b_inl] at h
        exact fun I' y1 y2 => h I' (z9.tr y1) y2
      | inr y =>
        rw [hr, tl_b_inr] at h
        intro I' y1 y2 y3 y4
        refine h I' (z9.tr y1) y2 y3 ?_
        rw [List.length_map] at y4
        have e1 : s ++ cfl ((w1.2, w2.2, w3.2) :: y.2.1) y.2.2 = ((((s ++ w1.2.map cst) ++ w2.2.map cst) ++ [-14]) ++ nI (w3.2.length + 1) :: (w3.2.map cst ++ [-15])) ++ cfl y.2.1 y.2.2 := by
          rw [cfl]
          simp only [List.append_assoc, List.cons_append, List.nil_append]
        have e2 : (lp || lhp ((w1.2, w2.2, w3.2) :: y.2.1, y.2.2)) = ((((lp || hp w1.2) || hp w2.2) || hp w3.2) || lhp y.2) := by
          rw [lhp_cons]
          simp only [Bool.or_assoc]
        show cw I' 11 (s ++ cfl ((w1.2, w2.2, w3.2) :: y.2.1) y.2.2) (lp || lhp ((w1.2, w2.2, w3.2) :: y.2.1, y.2.2))
        rw [e1, e2]
        exact y4)
    rw [nI_succ] at g
    iterate 2 refine em_next rfl ?_
    exact g
theorem ce_takeLaw_draft_lies {t : Nat} {la : tl_F} (hx : cx b L n I J) (hc : cat b L t I) (hl : lat I la) (hg : ¬ tk_K b L t = 0 ∧ ¬ tk_K b L t = 3) (h : tl_lo b L 11 I J Q [] false la (tl_law (tk_K b L) (tk_V b L) t)) : em_call (d + 22) 77 [.ref 40, .ref 11] (em_SH, I, J, em_RT lw) Q := by
  unfold tl_law at h
  iterate 3 refine em_next rfl ?_
  show em_wp em_sc0 (d + 22) 77 _ _ _ (em_putR (em_SH, I, J, em_RT lw) 40 3 (some 11)) Q
  rw [em_RT_put]
  iterate 2 refine em_next rfl ?_
  refine em_inv_call rfl (ce_lclear_draft_lies (fun I1 a1 a2 => ?_))
  have z1 : zf 11 I I1 := zf.l (by decide) a1.1
  iterate 1 refine em_next rfl ?_
  refine em_inv_call rfl (tz_accept (hx.z z1 (by decide) (by decide)) (hc.keep (a1.1 _ (by decide) (by decide))) (la := la) (hl.keep (by rw [a1.1 _ (by decide) (by decide)]) (by rw [a1.1 _ (by decide) (by decide)])) hg (fun g1 I2 b1 b2 b3 => ?_) (fun g1 I2 b1 b2 => ?_))
  rotate_left
  · rw [show tl_acc t none = .inl (2, t) from if_neg g1, tl_b_inl] at h
    iterate 1 refine em_next rfl ?_
    refine em_z_eq (fun _ => ?_) (fun q => absurd rfl q)
    iterate 1 refine em_next rfl ?_
    exact em_done rfl (h I2 (z1.tr (zf.w b1)) b2)
  rw [show tl_acc t none = .inr (t + 1, none) from if_pos g1, tl_b_inr] at h
  have z2 : zf 11 I I2 := z1.tr (zf.w b1)
  iterate 1 refine em_next rfl ?_
  refine em_z_eq (fun q => absurd q (by decide)) (fun _ => ?_)
  iterate 2 refine em_next rfl ?_
  refine em_inv_call rfl (tz_take (k := 5) (la := la) (hx.z z2 (by decide) (by decide)) b2 b3 (by decide) (by decide) (by decide) (fun e2 p3 I3 c1 c2 c3 => ?_) (fun e e2 I3 c1 c2 => ?_))
  rotate_left
  · rw [e2, tl_b_inl] at h
    iterate 1 refine em_next rfl ?_
    refine em_z_ne (fun q => absurd rfl q) (fun _ => ?_)
    iterate 1 refine em_next rfl ?_
    exact em_done rfl (h I3 (z2.tr (zf.w c1)) c2)
  rw [e2, tl_b_inr] at h
  iterate 1 refine em_next rfl ?_
  refine em_z_ne (fun _ => ?_) (fun q => absurd q (by decide))
  iterate 2 refine em_next rfl ?_
  exact ce_ifs_draft_lies (i := 0) (m := 4) (by decide) (hx.z (z2.tr (zf.w c1)) (by decide) (by decide)) c2 c3 (a2.keep (by rw [c1.1 _ (by decide), b1.1 _ (by decide)]) (by rw [c1.1 _ (by decide), b1.1 _ (by decide)])) (by dsimp only [List.length]; omega) (h.k (z2.tr (zf.w c1)))
theorem tz_sum_draft_parts {t : Nat} {I : Nat → Nat → Int32} {s : List Int32} {lp : Bool} {la : tl_F} {Q : Option Value → em_M → Prop} {d : Nat} (hx : cx b L n I J) (hc : cat b L t I) (hl : lat I la) (hw : cw I 14 s lp) (hsl : s.length ≤ t) (h1 : ∀ w, tl_sum (tk_K b L) (tk_V b L) t = .inr w → t < w.1 → w.2.length ≤ w.1 - t → ∀ I', xf 14 I I' → cat b L w.1 I' → lat I' la → cw I' 14 (s ++ w.2.map cst) (lp || hp w.2) → Q (some (.int 1)) (em_SH, I', J, em_RT 14)) (h2 : ∀ e, tl_sum (tk_K b L) (tk_V b L) t = .inl e → ∀ I', zf 14 I I' → flt b L I' e → Q (some (.int 0)) (em_SH, I', J, em_RT 14)) : em_call (d + 21) 78 [.ref 40, .int (nI 0)] (em_SH, I, J, em_RT 14) Q := by
  refine ce_sum_draft_parts hx hc hw hsl ?_
  cases hr : rd_sum (tk_K b L) (tk_V b L) t with
  | inl e => exact fun I' a1 a2 a3 => h2 e hr I' (zf.x a1) ⟨a2, a3⟩
  | inr w =>
    obtain ⟨⟨g1, g2, g3, g4⟩, -⟩ := rd_pr (fun t h => tk_V_lt h) (by decide) (by decide) hc.1 hr
    exact fun I' a1 a2 a3 => h1 w hr (g3 (by decide)) g4 I' a1 a2 (hl.x a1) a3
theorem ce_lend_draft_parts {i t : Nat} {s : List Int32} {lp : Bool} {la : tl_F} (hx : cx b L n I J) (hc : cat b L t I) (hl : lat I la) (hw : cw I 14 s lp) (hsl : s.length + 2 ≤ t) (h : tl_lo b L 14 I J Q s lp la (tl_end (tk_K b L) (tk_V b L) t)) : em_wp em_sc0 (d + 22) 77 142 [some (.ref 40), some (.ref 14), some (.int (nI i))] [] (em_SH, I, J, em_RT 14) Q := by
  unfold tl_end at h
  iterate 2 refine em_next rfl ?_
  refine em_inv_call rfl (tz_sum_draft_parts hx hc hl hw (by omega) (fun w e1 g1 g2 I1 a1 a2 a3 a4 => ?_) (fun e e1 I1 a1 a2 => ?_))
  · rw [e1, tl_b_inr] at h
    have z1 : zf 14 I I1 := zf.x a1
    have hx1 := hx.z z1 (by decide) (by decide)
    have t4 := a2.1
    iterate 1 refine em_next rfl ?_
    refine em_z_ne (fun _ => ?_) (fun q => absurd q (by decide))
    iterate 3 refine em_next rfl ?_
    refine em_inv_call rfl (ce_add_draft_parts a4 (fun I2 b1 b2 => ?_))
    have b3 := b2 (by rw [List.length_append, List.length_map]; omega)
    rw [decide_eq_false (by decide), Bool.or_false, List.append_assoc] at b3
    have z2 : zf 14 I1 I2 := zf.l (by decide) b1.1
    iterate 2 refine em_next rfl ?_
    refine em_inv_call rfl (tz_take (k := 4) (la := la) (hx1.z z2 (by decide) (by decide)) (a2.keep (b1.1 _ (by decide) (by decide))) (a3.keep (by rw [b1.1 _ (by decide) (by decide)]) (by rw [b1.1 _ (by decide) (by decide)])) (by decide) (by decide) (by decide) (fun e2 g3 I3 c1 c2 c3 => ?_) (fun e e2 I3 c1 c2 => ?_))
    · rw [e2, tl_b_inr] at h
      refine em_done rfl (h I3 ((z1.tr z2).tr (zf.w c1)) c2 c3 ?_)
      exact b3.keep (c1.1 _ (by decide)) (c1.1 _ (by decide))
    · rw [e2, tl_b_inl] at h
      exact em_done rfl (h I3 ((z1.tr z2).tr (zf.w c1)) c2)
  · rw [e1, tl_b_inl] at h
    iterate 1 refine em_next rfl ?_
    refine em_z_ne (fun q => absurd rfl q) (fun _ => ?_)
    iterate 1 refine em_next rfl ?_
    exact em_done rfl (h I1 a1 a2)
theorem ce_ifs_draft_parts {i m t : Nat} {s : List Int32} {lp : Bool} {la : tl_F} (hm : i + m = 4) (hx : cx b L n I J) (hc : cat b L t I) (hl : lat I la) (hw : cw I 14 s lp) (hsl : s.length + 2 ≤ t) (h : tl_lo b L 14 I J Q s lp la (tl_ifs (tk_K b L) (tk_V b L) m t)) : em_wp em_sc0 (d + 22) 77 32 [some (.ref 40), some (.ref 14), some (.int (nI i))] [] (em_SH, I, J, em_RT 14) Q := by
  induction m generalizing i t s lp I with
  | zero =>
    have e : i = 4 := by omega
    subst e
    rw [tl_ifs] at h
    iterate 3 refine em_next rfl ?_
    refine em_c_gt (fun z => absurd z (by decide)) (fun _ => ?_)
    iterate 4 refine em_next rfl ?_
    have hck := ck_inj (tk_K b L t) (kr b L t) 29 (by decide)
    have hlt := (ck_is _ (kr b L t)).2.2.2.2.2.2.2.2.1
    refine em_c_neE hc.2.2.2 (y' := nI 265) rfl (fun z => ?_) (fun z => ?_)
    · rw [if_neg (fun e => z (by rw [e]; rfl))] at h
      exact ce_lend_draft_parts hx hc hl hw hsl h
    · rw [if_pos (hck.mp ((nI_eq (by omega) (by decide)).mp z))] at h
      iterate 3 refine em_next rfl ?_
      refine em_c_lt (fun z => absurd z (by decide)) (fun _ => ?_)
      iterate 2 refine em_next rfl ?_
      refine em_inv_call rfl (ce_refuse (k := 2) hx hc (fun I2 a1 a2 a3 a4 => ?_))
      exact em_done rfl (h I2 (zf.w (wf.of a1 a2)) ⟨a3, a4⟩)
  | succ m ih =>
    rw [tl_ifs] at h
    iterate 3 refine em_next rfl ?_
    refine em_c_gtE rfl (y' := nI 4) rfl (fun z => absurd ((nI_ltI (by decide) (by omega)).mp z) (by omega)) (fun _ => ?_)
    iterate 4 refine em_next rfl ?_
    have hck := ck_inj (tk_K b L t) (kr b L t) 29 (by decide)
    have hlt := (ck_is _ (kr b L t)).2.2.2.2.2.2.2.2.1
    refine em_c_neE hc.2.2.2 (y' := nI 265) rfl (fun z => ?_) (fun z => ?_)
    · rw [if_neg (fun e => z (by rw [e]; rfl))] at h
      exact ce_lend_draft_parts hx hc hl hw hsl h
    have hk := hck.mp ((nI_eq (by omega) (by decide)).mp z)
    rw [if_pos hk] at h
    unfold tl_br at h
    iterate 3 refine em_next rfl ?_
    refine em_c_ltE rfl (y' := nI 4) rfl (fun _ => ?_) (fun z => absurd (nI_lt (by omega) (by decide)) z)
    have bad : ∀ (e : tl_E) (K : Nat → Nat → Int32), (∀ I' : Nat → Nat → Int32, zf 14 I I' → flt b L I' e → Q (some (.int 0)) (em_SH, I', J, em_RT 14)) → zf 14 I K → flt b L K e → em_wp em_sc0 (d + 22) 77 100 [some (.ref 40), some (.ref 14), some (.int (nI i))] [] (em_SH, K, J, em_RT 14) Q := fun e K hh k1 k2 => by
      iterate 1 refine em_next rfl ?_
      exact em_done rfl (hh K k1 k2)
    have bad2 : ∀ (e : tl_E) (K : Nat → Nat → Int32), (∀ I' : Nat → Nat → Int32, zf 14 I I' → flt b L I' e → Q (some (.int 0)) (em_SH, I', J, em_RT 14)) → zf 14 I K → flt b L K e → em_wp em_sc0 (d + 22) 77 127 [some (.ref 40), some (.ref 14), some (.int (nI i))] [] (em_SH, K, J, em_RT 14) Q := fun e K hh k1 k2 => by
      iterate 1 refine em_next rfl ?_
      exact em_done rfl (hh K k1 k2)
    iterate 1 refine em_next rfl ?_
    refine em_inv_call rfl (tz_accept hx hc hl (by omega) (fun g1 I1 a1 a2 a3 => ?_) (fun g1 I1 a1 a2 => ?_))
    rotate_left
    · rw [show tl_acc t none = .inl (2, t) from if_neg g1, tl_b_inl, tl_b_inl] at h
      iterate 1 refine em_next rfl ?_
      refine em_z_eq (fun _ => ?_) (fun q => absurd rfl q)
      exact bad _ I1 h (zf.w a1) a2
    rw [show tl_acc t none = .inr (t + 1, none) from if_pos g1, tl_b_inr] at h
    have z1 : zf 14 I I1 := zf.w a1
    iterate 1 refine em_next rfl ?_
    refine em_z_eq (fun q => absurd q (by decide)) (fun _ => ?_)
    iterate 2 refine em_next rfl ?_
    refine em_inv_call rfl (tz_sum_draft_parts (hx.z z1 (by decide) (by decide)) a2 a3 (hw.keep (a1.1 _ (by decide)) (a1.1 _ (by decide))) (by omega) (fun w1 e1 p1 p2 I2 b1 b2 b3 b4 => ?_) (fun e e1 I2 b1 b2 => ?_))
    rotate_left
    · rw [e1, tl_b_inl, tl_b_inl] at h
      iterate 1 refine em_next rfl ?_
      refine em_z_eq (fun _ => ?_) (fun q => absurd rfl q)
      exact bad _ I2 h (z1.tr b1) b2
    rw [e1, tl_b_inr] at h
    have z2 : zf 14 I I2 := z1.tr (zf.x b1)
    iterate 1 refine em_next rfl ?_
    refine em_z_eq (fun q => absurd q (by decide)) (fun _ => ?_)
    iterate 2 refine em_next rfl ?_
    refine em_inv_call rfl (tz_take (k := 13) (la := la) (hx.z z2 (by decide) (by decide)) b2 b3 (by decide) (by decide) (by decide) (fun e2 p3 I3 c1 c2 c3 => ?_) (fun e e2 I3 c1 c2 => ?_))
    rotate_left
    · rw [e2, tl_b_inl, tl_b_inl] at h
      iterate 1 refine em_next rfl ?_
      refine em_z_eq (fun _ => ?_) (fun q => absurd rfl q)
      exact bad _ I3 h (z2.tr (zf.w c1)) c2
    rw [e2, tl_b_inr] at h
    have z3 : zf 14 I I3 := z2.tr (zf.w c1)
    have l2 : (s ++ w1.2.map cst).length + 3 ≤ w1.1 := by rw [List.length_append, List.length_map]; omega
    iterate 1 refine em_next rfl ?_
    refine em_z_eq (fun q => absurd q (by decide)) (fun _ => ?_)
    iterate 2 refine em_next rfl ?_
    refine em_inv_call rfl (tz_sum_draft_parts (hx.z z3 (by decide) (by decide)) c2 c3 (b4.keep (c1.1 _ (by decide)) (c1.1 _ (by decide))) (by omega) (fun w2 e3 p4 p5 I4 d1 d2 d3 d4 => ?_) (fun e e3 I4 d1 d2 => ?_))
    rotate_left
    · rw [e3, tl_b_inl, tl_b_inl] at h
      iterate 1 refine em_next rfl ?_
      refine em_z_eq (fun _ => ?_) (fun q => absurd rfl q)
      exact bad _ I4 h (z3.tr d1) d2
    rw [e3, tl_b_inr] at h
    have z4 : zf 14 I I4 := z3.tr (zf.x d1)
    have l3 : ((s ++ w1.2.map cst) ++ w2.2.map cst).length + 4 ≤ w2.1 := by
      rw [List.length_append, List.length_map]
      omega
    iterate 1 refine em_next rfl ?_
    refine em_z_eq (fun q => absurd q (by decide)) (fun _ => ?_)
    iterate 2 refine em_next rfl ?_
    refine em_inv_call rfl (tz_take (k := 30) (la := la) (hx.z z4 (by decide) (by decide)) d2 d3 (by decide) (by decide) (by decide) (fun e4 p6 I5 f1 f2 f3 => ?_) (fun e e4 I5 f1 f2 => ?_))
    rotate_left
    · rw [e4, tl_b_inl, tl_b_inl] at h
      iterate 1 refine em_next rfl ?_
      refine em_z_ne (fun q => absurd rfl q) (fun _ => ?_)
      exact bad _ I5 h (z4.tr (zf.w f1)) f2
    rw [e4, tl_b_inr] at h
    have z5 : zf 14 I I5 := z4.tr (zf.w f1)
    iterate 1 refine em_next rfl ?_
    refine em_z_ne (fun _ => ?_) (fun q => absurd q (by decide))
    iterate 2 refine em_next rfl ?_
    refine em_inv_call rfl (ce_begin_draft_parts (d4.keep (f1.1 _ (by decide)) (f1.1 _ (by decide))) (by omega) (fun I6 q1 q2 q3 => ?_))
    have z6 : zf 14 I I6 := z5.tr (zf.l (by decide) q1)
    have c6 : cat b L (w2.1 + 1) I6 := f2.keep (q1 _ (by decide) (by decide))
    have la6 : lat I6 la := f3.keep (by rw [q1 _ (by decide) (by decide)]) (by rw [q1 _ (by decide) (by decide)])
    have l4 : (((s ++ w1.2.map cst) ++ w2.2.map cst) ++ [-14, 0]).length + 3 ≤ w2.1 + 1 := by
      rw [List.length_append]
      dsimp only [List.length]
      omega
    iterate 2 refine em_next rfl ?_
    refine em_inv_call rfl (tz_sum_draft_parts (hx.z z6 (by decide) (by decide)) c6 la6 q2 (by omega) (fun w3 e5 p7 p8 I7 r1 r2 r3 r4 => ?_) (fun e e5 I7 r1 r2 => ?_))
    rotate_left
    · rw [e5, tl_b_inl, tl_b_inl] at h
      iterate 1 refine em_next rfl ?_
      refine em_z_eq (fun _ => ?_) (fun q => absurd rfl q)
      exact bad2 _ I7 h (z6.tr r1) r2
    rw [e5, tl_b_inr] at h
    have z7 : zf 14 I I7 := z6.tr (zf.x r1)
    iterate 1 refine em_next rfl ?_
    refine em_z_eq (fun q => absurd q (by decide)) (fun _ => ?_)
    iterate 2 refine em_next rfl ?_
    refine em_inv_call rfl (tz_take (k := 31) (la := la) (hx.z z7 (by decide) (by decide)) r2 r3 (by decide) (by decide) (by decide) (fun e6 p9 I8 s1 s2 s3 => ?_) (fun e e6 I8 s1 s2 => ?_))
    rotate_left
    · rw [e6, tl_b_inl, tl_b_inl] at h
      iterate 1 refine em_next rfl ?_
      refine em_z_ne (fun q => absurd rfl q) (fun _ => ?_)
      exact bad2 _ I8 h (z7.tr (zf.w s1)) s2
    rw [e6, tl_b_inr, tl_b_inr] at h
    have z8 : zf 14 I I8 := z7.tr (zf.w s1)
    have r5 : cw I8 14 ((((s ++ w1.2.map cst) ++ w2.2.map cst) ++ [-14]) ++ 0 :: w3.2.map cst) (((lp || hp w1.2) || hp w2.2) || hp w3.2) := by
      have := r4.keep (s1.1 _ (by decide)) (s1.1 _ (by decide))
      rw [List.append_assoc _ [-14, 0]] at this
      rw [List.append_assoc _ [-14]]
      exact this
    have k8 : I8 14 3 = nI (((s ++ w1.2.map cst) ++ w2.2.map cst) ++ [-14]).length := by
      rw [s1.1 _ (by decide), r1.2.2 _ (by decide) (by decide), q3, List.length_append (bs := [-14])]
      rfl
    have l5 : ((((s ++ w1.2.map cst) ++ w2.2.map cst) ++ [-14]) ++ 0 :: w3.2.map cst).length + 3 ≤ w3.1 := by
      simp only [List.length_append, List.length_map, List.length_cons, List.length_nil] at l4 ⊢
      omega
    iterate 1 refine em_next rfl ?_
    refine em_z_ne (fun _ => ?_) (fun q => absurd q (by decide))
    iterate 2 refine em_next rfl ?_
    refine em_inv_call rfl (ce_end_draft_parts r5 k8 (by omega) (fun I9 u1 u2 => ?_))
    have z9 : zf 14 I I9 := z8.tr (zf.l (by decide) u1.1)
    have g := ih (i := i + 1) (t := w3.1 + 1) (I := I9) (by omega) (hx.z z9 (by decide) (by decide)) (s2.keep (u1.1 _ (by decide) (by decide))) (s3.keep (by rw [u1.1 _ (by decide) (by decide)]) (by rw [u1.1 _ (by decide) (by decide)])) u2 (by
      simp only [List.length_append, List.length_map, List.length_cons, List.length_nil] at l5 ⊢
      omega) (by
      cases hr : tl_ifs (tk_K b L) (tk_V b L) m (w3.1 + 1) with
      | inl e =>
        rw [hr, tl_b_inl] at h
        exact fun I' y1 y2 => h I' (z9.tr y1) y2
      | inr y =>
        rw [hr, tl_b_inr] at h
        intro I' y1 y2 y3 y4
        refine h I' (z9.tr y1) y2 y3 ?_
        rw [List.length_map] at y4
        have e1 : s ++ cfl ((w1.2, w2.2, w3.2) :: y.2.1) y.2.2 = ((((s ++ w1.2.map cst) ++ w2.2.map cst) ++ [-14]) ++ nI (w3.2.length + 1) :: (w3.2.map cst ++ [-15])) ++ cfl y.2.1 y.2.2 := by
          rw [cfl]
          simp only [List.append_assoc, List.cons_append, List.nil_append]
        have e2 : (lp || lhp ((w1.2, w2.2, w3.2) :: y.2.1, y.2.2)) = ((((lp || hp w1.2) || hp w2.2) || hp w3.2) || lhp y.2) := by
          rw [lhp_cons]
          simp only [Bool.or_assoc]
        show cw I' 14 (s ++ cfl ((w1.2, w2.2, w3.2) :: y.2.1) y.2.2) (lp || lhp ((w1.2, w2.2, w3.2) :: y.2.1, y.2.2))
        rw [e1, e2]
        exact y4)
    rw [nI_succ] at g
    iterate 2 refine em_next rfl ?_
    exact g
theorem ce_takeLaw_draft_parts {t : Nat} {la : tl_F} (hx : cx b L n I J) (hc : cat b L t I) (hl : lat I la) (hg : ¬ tk_K b L t = 0 ∧ ¬ tk_K b L t = 3) (h : tl_lo b L 14 I J Q [] false la (tl_law (tk_K b L) (tk_V b L) t)) : em_call (d + 22) 77 [.ref 40, .ref 14] (em_SH, I, J, em_RT lw) Q := by
  unfold tl_law at h
  iterate 3 refine em_next rfl ?_
  show em_wp em_sc0 (d + 22) 77 _ _ _ (em_putR (em_SH, I, J, em_RT lw) 40 3 (some 14)) Q
  rw [em_RT_put]
  iterate 2 refine em_next rfl ?_
  refine em_inv_call rfl (ce_lclear_draft_parts (fun I1 a1 a2 => ?_))
  have z1 : zf 14 I I1 := zf.l (by decide) a1.1
  iterate 1 refine em_next rfl ?_
  refine em_inv_call rfl (tz_accept (hx.z z1 (by decide) (by decide)) (hc.keep (a1.1 _ (by decide) (by decide))) (la := la) (hl.keep (by rw [a1.1 _ (by decide) (by decide)]) (by rw [a1.1 _ (by decide) (by decide)])) hg (fun g1 I2 b1 b2 b3 => ?_) (fun g1 I2 b1 b2 => ?_))
  rotate_left
  · rw [show tl_acc t none = .inl (2, t) from if_neg g1, tl_b_inl] at h
    iterate 1 refine em_next rfl ?_
    refine em_z_eq (fun _ => ?_) (fun q => absurd rfl q)
    iterate 1 refine em_next rfl ?_
    exact em_done rfl (h I2 (z1.tr (zf.w b1)) b2)
  rw [show tl_acc t none = .inr (t + 1, none) from if_pos g1, tl_b_inr] at h
  have z2 : zf 14 I I2 := z1.tr (zf.w b1)
  iterate 1 refine em_next rfl ?_
  refine em_z_eq (fun q => absurd q (by decide)) (fun _ => ?_)
  iterate 2 refine em_next rfl ?_
  refine em_inv_call rfl (tz_take (k := 5) (la := la) (hx.z z2 (by decide) (by decide)) b2 b3 (by decide) (by decide) (by decide) (fun e2 p3 I3 c1 c2 c3 => ?_) (fun e e2 I3 c1 c2 => ?_))
  rotate_left
  · rw [e2, tl_b_inl] at h
    iterate 1 refine em_next rfl ?_
    refine em_z_ne (fun q => absurd rfl q) (fun _ => ?_)
    iterate 1 refine em_next rfl ?_
    exact em_done rfl (h I3 (z2.tr (zf.w c1)) c2)
  rw [e2, tl_b_inr] at h
  iterate 1 refine em_next rfl ?_
  refine em_z_ne (fun _ => ?_) (fun q => absurd q (by decide))
  iterate 2 refine em_next rfl ?_
  exact ce_ifs_draft_parts (i := 0) (m := 4) (by decide) (hx.z (z2.tr (zf.w c1)) (by decide) (by decide)) c2 c3 (a2.keep (by rw [c1.1 _ (by decide), b1.1 _ (by decide)]) (by rw [c1.1 _ (by decide), b1.1 _ (by decide)])) (by dsimp only [List.length]; omega) (h.k (z2.tr (zf.w c1)))
theorem tz_sum_draft_chills {t : Nat} {I : Nat → Nat → Int32} {s : List Int32} {lp : Bool} {la : tl_F} {Q : Option Value → em_M → Prop} {d : Nat} (hx : cx b L n I J) (hc : cat b L t I) (hl : lat I la) (hw : cw I 17 s lp) (hsl : s.length ≤ t) (h1 : ∀ w, tl_sum (tk_K b L) (tk_V b L) t = .inr w → t < w.1 → w.2.length ≤ w.1 - t → ∀ I', xf 17 I I' → cat b L w.1 I' → lat I' la → cw I' 17 (s ++ w.2.map cst) (lp || hp w.2) → Q (some (.int 1)) (em_SH, I', J, em_RT 17)) (h2 : ∀ e, tl_sum (tk_K b L) (tk_V b L) t = .inl e → ∀ I', zf 17 I I' → flt b L I' e → Q (some (.int 0)) (em_SH, I', J, em_RT 17)) : em_call (d + 21) 78 [.ref 40, .int (nI 0)] (em_SH, I, J, em_RT 17) Q := by
  refine ce_sum_draft_chills hx hc hw hsl ?_
  cases hr : rd_sum (tk_K b L) (tk_V b L) t with
  | inl e => exact fun I' a1 a2 a3 => h2 e hr I' (zf.x a1) ⟨a2, a3⟩
  | inr w =>
    obtain ⟨⟨g1, g2, g3, g4⟩, -⟩ := rd_pr (fun t h => tk_V_lt h) (by decide) (by decide) hc.1 hr
    exact fun I' a1 a2 a3 => h1 w hr (g3 (by decide)) g4 I' a1 a2 (hl.x a1) a3
theorem ce_lend_draft_chills {i t : Nat} {s : List Int32} {lp : Bool} {la : tl_F} (hx : cx b L n I J) (hc : cat b L t I) (hl : lat I la) (hw : cw I 17 s lp) (hsl : s.length + 2 ≤ t) (h : tl_lo b L 17 I J Q s lp la (tl_end (tk_K b L) (tk_V b L) t)) : em_wp em_sc0 (d + 22) 77 142 [some (.ref 40), some (.ref 17), some (.int (nI i))] [] (em_SH, I, J, em_RT 17) Q := by
  unfold tl_end at h
  iterate 2 refine em_next rfl ?_
  refine em_inv_call rfl (tz_sum_draft_chills hx hc hl hw (by omega) (fun w e1 g1 g2 I1 a1 a2 a3 a4 => ?_) (fun e e1 I1 a1 a2 => ?_))
  · rw [e1, tl_b_inr] at h
    have z1 : zf 17 I I1 := zf.x a1
    have hx1 := hx.z z1 (by decide) (by decide)
    have t4 := a2.1
    iterate 1 refine em_next rfl ?_
    refine em_z_ne (fun _ => ?_) (fun q => absurd q (by decide))
    iterate 3 refine em_next rfl ?_
    refine em_inv_call rfl (ce_add_draft_chills a4 (fun I2 b1 b2 => ?_))
    have b3 := b2 (by rw [List.length_append, List.length_map]; omega)
    rw [decide_eq_false (by decide), Bool.or_false, List.append_assoc] at b3
    have z2 : zf 17 I1 I2 := zf.l (by decide) b1.1
    iterate 2 refine em_next rfl ?_
    refine em_inv_call rfl (tz_take (k := 4) (la := la) (hx1.z z2 (by decide) (by decide)) (a2.keep (b1.1 _ (by decide) (by decide))) (a3.keep (by rw [b1.1 _ (by decide) (by decide)]) (by rw [b1.1 _ (by decide) (by decide)])) (by decide) (by decide) (by decide) (fun e2 g3 I3 c1 c2 c3 => ?_) (fun e e2 I3 c1 c2 => ?_))
    · rw [e2, tl_b_inr] at h
      refine em_done rfl (h I3 ((z1.tr z2).tr (zf.w c1)) c2 c3 ?_)
      exact b3.keep (c1.1 _ (by decide)) (c1.1 _ (by decide))
    · rw [e2, tl_b_inl] at h
      exact em_done rfl (h I3 ((z1.tr z2).tr (zf.w c1)) c2)
  · rw [e1, tl_b_inl] at h
    iterate 1 refine em_next rfl ?_
    refine em_z_ne (fun q => absurd rfl q) (fun _ => ?_)
    iterate 1 refine em_next rfl ?_
    exact em_done rfl (h I1 a1 a2)
theorem ce_ifs_draft_chills {i m t : Nat} {s : List Int32} {lp : Bool} {la : tl_F} (hm : i + m = 4) (hx : cx b L n I J) (hc : cat b L t I) (hl : lat I la) (hw : cw I 17 s lp) (hsl : s.length + 2 ≤ t) (h : tl_lo b L 17 I J Q s lp la (tl_ifs (tk_K b L) (tk_V b L) m t)) : em_wp em_sc0 (d + 22) 77 32 [some (.ref 40), some (.ref 17), some (.int (nI i))] [] (em_SH, I, J, em_RT 17) Q := by
  induction m generalizing i t s lp I with
  | zero =>
    have e : i = 4 := by omega
    subst e
    rw [tl_ifs] at h
    iterate 3 refine em_next rfl ?_
    refine em_c_gt (fun z => absurd z (by decide)) (fun _ => ?_)
    iterate 4 refine em_next rfl ?_
    have hck := ck_inj (tk_K b L t) (kr b L t) 29 (by decide)
    have hlt := (ck_is _ (kr b L t)).2.2.2.2.2.2.2.2.1
    refine em_c_neE hc.2.2.2 (y' := nI 265) rfl (fun z => ?_) (fun z => ?_)
    · rw [if_neg (fun e => z (by rw [e]; rfl))] at h
      exact ce_lend_draft_chills hx hc hl hw hsl h
    · rw [if_pos (hck.mp ((nI_eq (by omega) (by decide)).mp z))] at h
      iterate 3 refine em_next rfl ?_
      refine em_c_lt (fun z => absurd z (by decide)) (fun _ => ?_)
      iterate 2 refine em_next rfl ?_
      refine em_inv_call rfl (ce_refuse (k := 2) hx hc (fun I2 a1 a2 a3 a4 => ?_))
      exact em_done rfl (h I2 (zf.w (wf.of a1 a2)) ⟨a3, a4⟩)
  | succ m ih =>
    rw [tl_ifs] at h
    iterate 3 refine em_next rfl ?_
    refine em_c_gtE rfl (y' := nI 4) rfl (fun z => absurd ((nI_ltI (by decide) (by omega)).mp z) (by omega)) (fun _ => ?_)
    iterate 4 refine em_next rfl ?_
    have hck := ck_inj (tk_K b L t) (kr b L t) 29 (by decide)
    have hlt := (ck_is _ (kr b L t)).2.2.2.2.2.2.2.2.1
    refine em_c_neE hc.2.2.2 (y' := nI 265) rfl (fun z => ?_) (fun z => ?_)
    · rw [if_neg (fun e => z (by rw [e]; rfl))] at h
      exact ce_lend_draft_chills hx hc hl hw hsl h
    have hk := hck.mp ((nI_eq (by omega) (by decide)).mp z)
    rw [if_pos hk] at h
    unfold tl_br at h
    iterate 3 refine em_next rfl ?_
    refine em_c_ltE rfl (y' := nI 4) rfl (fun _ => ?_) (fun z => absurd (nI_lt (by omega) (by decide)) z)
    have bad : ∀ (e : tl_E) (K : Nat → Nat → Int32), (∀ I' : Nat → Nat → Int32, zf 17 I I' → flt b L I' e → Q (some (.int 0)) (em_SH, I', J, em_RT 17)) → zf 17 I K → flt b L K e → em_wp em_sc0 (d + 22) 77 100 [some (.ref 40), some (.ref 17), some (.int (nI i))] [] (em_SH, K, J, em_RT 17) Q := fun e K hh k1 k2 => by
      iterate 1 refine em_next rfl ?_
      exact em_done rfl (hh K k1 k2)
    have bad2 : ∀ (e : tl_E) (K : Nat → Nat → Int32), (∀ I' : Nat → Nat → Int32, zf 17 I I' → flt b L I' e → Q (some (.int 0)) (em_SH, I', J, em_RT 17)) → zf 17 I K → flt b L K e → em_wp em_sc0 (d + 22) 77 127 [some (.ref 40), some (.ref 17), some (.int (nI i))] [] (em_SH, K, J, em_RT 17) Q := fun e K hh k1 k2 => by
      iterate 1 refine em_next rfl ?_
      exact em_done rfl (hh K k1 k2)
    iterate 1 refine em_next rfl ?_
    refine em_inv_call rfl (tz_accept hx hc hl (by omega) (fun g1 I1 a1 a2 a3 => ?_) (fun g1 I1 a1 a2 => ?_))
    rotate_left
    · rw [show tl_acc t none = .inl (2, t) from if_neg g1, tl_b_inl, tl_b_inl] at h
      iterate 1 refine em_next rfl ?_
      refine em_z_eq (fun _ => ?_) (fun q => absurd rfl q)
      exact bad _ I1 h (zf.w a1) a2
    rw [show tl_acc t none = .inr (t + 1, none) from if_pos g1, tl_b_inr] at h
    have z1 : zf 17 I I1 := zf.w a1
    iterate 1 refine em_next rfl ?_
    refine em_z_eq (fun q => absurd q (by decide)) (fun _ => ?_)
    iterate 2 refine em_next rfl ?_
    refine em_inv_call rfl (tz_sum_draft_chills (hx.z z1 (by decide) (by decide)) a2 a3 (hw.keep (a1.1 _ (by decide)) (a1.1 _ (by decide))) (by omega) (fun w1 e1 p1 p2 I2 b1 b2 b3 b4 => ?_) (fun e e1 I2 b1 b2 => ?_))
    rotate_left
    · rw [e1, tl_b_inl, tl_b_inl] at h
      iterate 1 refine em_next rfl ?_
      refine em_z_eq (fun _ => ?_) (fun q => absurd rfl q)
      exact bad _ I2 h (z1.tr b1) b2
    rw [e1, tl_b_inr] at h
    have z2 : zf 17 I I2 := z1.tr (zf.x b1)
    iterate 1 refine em_next rfl ?_
    refine em_z_eq (fun q => absurd q (by decide)) (fun _ => ?_)
    iterate 2 refine em_next rfl ?_
    refine em_inv_call rfl (tz_take (k := 13) (la := la) (hx.z z2 (by decide) (by decide)) b2 b3 (by decide) (by decide) (by decide) (fun e2 p3 I3 c1 c2 c3 => ?_) (fun e e2 I3 c1 c2 => ?_))
    rotate_left
    · rw [e2, tl_b_inl, tl_b_inl] at h
      iterate 1 refine em_next rfl ?_
      refine em_z_eq (fun _ => ?_) (fun q => absurd rfl q)
      exact bad _ I3 h (z2.tr (zf.w c1)) c2
    rw [e2, tl_b_inr] at h
    have z3 : zf 17 I I3 := z2.tr (zf.w c1)
    have l2 : (s ++ w1.2.map cst).length + 3 ≤ w1.1 := by rw [List.length_append, List.length_map]; omega
    iterate 1 refine em_next rfl ?_
    refine em_z_eq (fun q => absurd q (by decide)) (fun _ => ?_)
    iterate 2 refine em_next rfl ?_
    refine em_inv_call rfl (tz_sum_draft_chills (hx.z z3 (by decide) (by decide)) c2 c3 (b4.keep (c1.1 _ (by decide)) (c1.1 _ (by decide))) (by omega) (fun w2 e3 p4 p5 I4 d1 d2 d3 d4 => ?_) (fun e e3 I4 d1 d2 => ?_))
    rotate_left
    · rw [e3, tl_b_inl, tl_b_inl] at h
      iterate 1 refine em_next rfl ?_
      refine em_z_eq (fun _ => ?_) (fun q => absurd rfl q)
      exact bad _ I4 h (z3.tr d1) d2
    rw [e3, tl_b_inr] at h
    have z4 : zf 17 I I4 := z3.tr (zf.x d1)
    have l3 : ((s ++ w1.2.map cst) ++ w2.2.map cst).length + 4 ≤ w2.1 := by
      rw [List.length_append, List.length_map]
      omega
    iterate 1 refine em_next rfl ?_
    refine em_z_eq (fun q => absurd q (by decide)) (fun _ => ?_)
    iterate 2 refine em_next rfl ?_
    refine em_inv_call rfl (tz_take (k := 30) (la := la) (hx.z z4 (by decide) (by decide)) d2 d3 (by decide) (by decide) (by decide) (fun e4 p6 I5 f1 f2 f3 => ?_) (fun e e4 I5 f1 f2 => ?_))
    rotate_left
    · rw [e4, tl_b_inl, tl_b_inl] at h
      iterate 1 refine em_next rfl ?_
      refine em_z_ne (fun q => absurd rfl q) (fun _ => ?_)
      exact bad _ I5 h (z4.tr (zf.w f1)) f2
    rw [e4, tl_b_inr] at h
    have z5 : zf 17 I I5 := z4.tr (zf.w f1)
    iterate 1 refine em_next rfl ?_
    refine em_z_ne (fun _ => ?_) (fun q => absurd q (by decide))
    iterate 2 refine em_next rfl ?_
    refine em_inv_call rfl (ce_begin_draft_chills (d4.keep (f1.1 _ (by decide)) (f1.1 _ (by decide))) (by omega) (fun I6 q1 q2 q3 => ?_))
    have z6 : zf 17 I I6 := z5.tr (zf.l (by decide) q1)
    have c6 : cat b L (w2.1 + 1) I6 := f2.keep (q1 _ (by decide) (by decide))
    have la6 : lat I6 la := f3.keep (by rw [q1 _ (by decide) (by decide)]) (by rw [q1 _ (by decide) (by decide)])
    have l4 : (((s ++ w1.2.map cst) ++ w2.2.map cst) ++ [-14, 0]).length + 3 ≤ w2.1 + 1 := by
      rw [List.length_append]
      dsimp only [List.length]
      omega
    iterate 2 refine em_next rfl ?_
    refine em_inv_call rfl (tz_sum_draft_chills (hx.z z6 (by decide) (by decide)) c6 la6 q2 (by omega) (fun w3 e5 p7 p8 I7 r1 r2 r3 r4 => ?_) (fun e e5 I7 r1 r2 => ?_))
    rotate_left
    · rw [e5, tl_b_inl, tl_b_inl] at h
      iterate 1 refine em_next rfl ?_
      refine em_z_eq (fun _ => ?_) (fun q => absurd rfl q)
      exact bad2 _ I7 h (z6.tr r1) r2
    rw [e5, tl_b_inr] at h
    have z7 : zf 17 I I7 := z6.tr (zf.x r1)
    iterate 1 refine em_next rfl ?_
    refine em_z_eq (fun q => absurd q (by decide)) (fun _ => ?_)
    iterate 2 refine em_next rfl ?_
    refine em_inv_call rfl (tz_take (k := 31) (la := la) (hx.z z7 (by decide) (by decide)) r2 r3 (by decide) (by decide) (by decide) (fun e6 p9 I8 s1 s2 s3 => ?_) (fun e e6 I8 s1 s2 => ?_))
    rotate_left
    · rw [e6, tl_b_inl, tl_b_inl] at h
      iterate 1 refine em_next rfl ?_
      refine em_z_ne (fun q => absurd rfl q) (fun _ => ?_)
      exact bad2 _ I8 h (z7.tr (zf.w s1)) s2
    rw [e6, tl_b_inr, tl_b_inr] at h
    have z8 : zf 17 I I8 := z7.tr (zf.w s1)
    have r5 : cw I8 17 ((((s ++ w1.2.map cst) ++ w2.2.map cst) ++ [-14]) ++ 0 :: w3.2.map cst) (((lp || hp w1.2) || hp w2.2) || hp w3.2) := by
      have := r4.keep (s1.1 _ (by decide)) (s1.1 _ (by decide))
      rw [List.append_assoc _ [-14, 0]] at this
      rw [List.append_assoc _ [-14]]
      exact this
    have k8 : I8 17 3 = nI (((s ++ w1.2.map cst) ++ w2.2.map cst) ++ [-14]).length := by
      rw [s1.1 _ (by decide), r1.2.2 _ (by decide) (by decide), q3, List.length_append (bs := [-14])]
      rfl
    have l5 : ((((s ++ w1.2.map cst) ++ w2.2.map cst) ++ [-14]) ++ 0 :: w3.2.map cst).length + 3 ≤ w3.1 := by
      simp only [List.length_append, List.length_map, List.length_cons, List.length_nil] at l4 ⊢
      omega
    iterate 1 refine em_next rfl ?_
    refine em_z_ne (fun _ => ?_) (fun q => absurd q (by decide))
    iterate 2 refine em_next rfl ?_
    refine em_inv_call rfl (ce_end_draft_chills r5 k8 (by omega) (fun I9 u1 u2 => ?_))
    have z9 : zf 17 I I9 := z8.tr (zf.l (by decide) u1.1)
    have g := ih (i := i + 1) (t := w3.1 + 1) (I := I9) (by omega) (hx.z z9 (by decide) (by decide)) (s2.keep (u1.1 _ (by decide) (by decide))) (s3.keep (by rw [u1.1 _ (by decide) (by decide)]) (by rw [u1.1 _ (by decide) (by decide)])) u2 (by
      simp only [List.length_append, List.length_map, List.length_cons, List.length_nil] at l5 ⊢
      omega) (by
      cases hr : tl_ifs (tk_K b L) (tk_V b L) m (w3.1 + 1) with
      | inl e =>
        rw [hr, tl_b_inl] at h
        exact fun I' y1 y2 => h I' (z9.tr y1) y2
      | inr y =>
        rw [hr, tl_b_inr] at h
        intro I' y1 y2 y3 y4
        refine h I' (z9.tr y1) y2 y3 ?_
        rw [List.length_map] at y4
        have e1 : s ++ cfl ((w1.2, w2.2, w3.2) :: y.2.1) y.2.2 = ((((s ++ w1.2.map cst) ++ w2.2.map cst) ++ [-14]) ++ nI (w3.2.length + 1) :: (w3.2.map cst ++ [-15])) ++ cfl y.2.1 y.2.2 := by
          rw [cfl]
          simp only [List.append_assoc, List.cons_append, List.nil_append]
        have e2 : (lp || lhp ((w1.2, w2.2, w3.2) :: y.2.1, y.2.2)) = ((((lp || hp w1.2) || hp w2.2) || hp w3.2) || lhp y.2) := by
          rw [lhp_cons]
          simp only [Bool.or_assoc]
        show cw I' 17 (s ++ cfl ((w1.2, w2.2, w3.2) :: y.2.1) y.2.2) (lp || lhp ((w1.2, w2.2, w3.2) :: y.2.1, y.2.2))
        rw [e1, e2]
        exact y4)
    rw [nI_succ] at g
    iterate 2 refine em_next rfl ?_
    exact g
theorem ce_takeLaw_draft_chills {t : Nat} {la : tl_F} (hx : cx b L n I J) (hc : cat b L t I) (hl : lat I la) (hg : ¬ tk_K b L t = 0 ∧ ¬ tk_K b L t = 3) (h : tl_lo b L 17 I J Q [] false la (tl_law (tk_K b L) (tk_V b L) t)) : em_call (d + 22) 77 [.ref 40, .ref 17] (em_SH, I, J, em_RT lw) Q := by
  unfold tl_law at h
  iterate 3 refine em_next rfl ?_
  show em_wp em_sc0 (d + 22) 77 _ _ _ (em_putR (em_SH, I, J, em_RT lw) 40 3 (some 17)) Q
  rw [em_RT_put]
  iterate 2 refine em_next rfl ?_
  refine em_inv_call rfl (ce_lclear_draft_chills (fun I1 a1 a2 => ?_))
  have z1 : zf 17 I I1 := zf.l (by decide) a1.1
  iterate 1 refine em_next rfl ?_
  refine em_inv_call rfl (tz_accept (hx.z z1 (by decide) (by decide)) (hc.keep (a1.1 _ (by decide) (by decide))) (la := la) (hl.keep (by rw [a1.1 _ (by decide) (by decide)]) (by rw [a1.1 _ (by decide) (by decide)])) hg (fun g1 I2 b1 b2 b3 => ?_) (fun g1 I2 b1 b2 => ?_))
  rotate_left
  · rw [show tl_acc t none = .inl (2, t) from if_neg g1, tl_b_inl] at h
    iterate 1 refine em_next rfl ?_
    refine em_z_eq (fun _ => ?_) (fun q => absurd rfl q)
    iterate 1 refine em_next rfl ?_
    exact em_done rfl (h I2 (z1.tr (zf.w b1)) b2)
  rw [show tl_acc t none = .inr (t + 1, none) from if_pos g1, tl_b_inr] at h
  have z2 : zf 17 I I2 := z1.tr (zf.w b1)
  iterate 1 refine em_next rfl ?_
  refine em_z_eq (fun q => absurd q (by decide)) (fun _ => ?_)
  iterate 2 refine em_next rfl ?_
  refine em_inv_call rfl (tz_take (k := 5) (la := la) (hx.z z2 (by decide) (by decide)) b2 b3 (by decide) (by decide) (by decide) (fun e2 p3 I3 c1 c2 c3 => ?_) (fun e e2 I3 c1 c2 => ?_))
  rotate_left
  · rw [e2, tl_b_inl] at h
    iterate 1 refine em_next rfl ?_
    refine em_z_ne (fun q => absurd rfl q) (fun _ => ?_)
    iterate 1 refine em_next rfl ?_
    exact em_done rfl (h I3 (z2.tr (zf.w c1)) c2)
  rw [e2, tl_b_inr] at h
  iterate 1 refine em_next rfl ?_
  refine em_z_ne (fun _ => ?_) (fun q => absurd q (by decide))
  iterate 2 refine em_next rfl ?_
  exact ce_ifs_draft_chills (i := 0) (m := 4) (by decide) (hx.z (z2.tr (zf.w c1)) (by decide) (by decide)) c2 c3 (a2.keep (by rw [c1.1 _ (by decide), b1.1 _ (by decide)]) (by rw [c1.1 _ (by decide), b1.1 _ (by decide)])) (by dsimp only [List.length]; omega) (h.k (z2.tr (zf.w c1)))
theorem tz_sum_draft_costs {t : Nat} {I : Nat → Nat → Int32} {s : List Int32} {lp : Bool} {la : tl_F} {Q : Option Value → em_M → Prop} {d : Nat} (hx : cx b L n I J) (hc : cat b L t I) (hl : lat I la) (hw : cw I 20 s lp) (hsl : s.length ≤ t) (h1 : ∀ w, tl_sum (tk_K b L) (tk_V b L) t = .inr w → t < w.1 → w.2.length ≤ w.1 - t → ∀ I', xf 20 I I' → cat b L w.1 I' → lat I' la → cw I' 20 (s ++ w.2.map cst) (lp || hp w.2) → Q (some (.int 1)) (em_SH, I', J, em_RT 20)) (h2 : ∀ e, tl_sum (tk_K b L) (tk_V b L) t = .inl e → ∀ I', zf 20 I I' → flt b L I' e → Q (some (.int 0)) (em_SH, I', J, em_RT 20)) : em_call (d + 21) 78 [.ref 40, .int (nI 0)] (em_SH, I, J, em_RT 20) Q := by
  refine ce_sum_draft_costs hx hc hw hsl ?_
  cases hr : rd_sum (tk_K b L) (tk_V b L) t with
  | inl e => exact fun I' a1 a2 a3 => h2 e hr I' (zf.x a1) ⟨a2, a3⟩
  | inr w =>
    obtain ⟨⟨g1, g2, g3, g4⟩, -⟩ := rd_pr (fun t h => tk_V_lt h) (by decide) (by decide) hc.1 hr
    exact fun I' a1 a2 a3 => h1 w hr (g3 (by decide)) g4 I' a1 a2 (hl.x a1) a3
theorem ce_lend_draft_costs {i t : Nat} {s : List Int32} {lp : Bool} {la : tl_F} (hx : cx b L n I J) (hc : cat b L t I) (hl : lat I la) (hw : cw I 20 s lp) (hsl : s.length + 2 ≤ t) (h : tl_lo b L 20 I J Q s lp la (tl_end (tk_K b L) (tk_V b L) t)) : em_wp em_sc0 (d + 22) 77 142 [some (.ref 40), some (.ref 20), some (.int (nI i))] [] (em_SH, I, J, em_RT 20) Q := by
  unfold tl_end at h
  iterate 2 refine em_next rfl ?_
  refine em_inv_call rfl (tz_sum_draft_costs hx hc hl hw (by omega) (fun w e1 g1 g2 I1 a1 a2 a3 a4 => ?_) (fun e e1 I1 a1 a2 => ?_))
  · rw [e1, tl_b_inr] at h
    have z1 : zf 20 I I1 := zf.x a1
    have hx1 := hx.z z1 (by decide) (by decide)
    have t4 := a2.1
    iterate 1 refine em_next rfl ?_
    refine em_z_ne (fun _ => ?_) (fun q => absurd q (by decide))
    iterate 3 refine em_next rfl ?_
    refine em_inv_call rfl (ce_add_draft_costs a4 (fun I2 b1 b2 => ?_))
    have b3 := b2 (by rw [List.length_append, List.length_map]; omega)
    rw [decide_eq_false (by decide), Bool.or_false, List.append_assoc] at b3
    have z2 : zf 20 I1 I2 := zf.l (by decide) b1.1
    iterate 2 refine em_next rfl ?_
    refine em_inv_call rfl (tz_take (k := 4) (la := la) (hx1.z z2 (by decide) (by decide)) (a2.keep (b1.1 _ (by decide) (by decide))) (a3.keep (by rw [b1.1 _ (by decide) (by decide)]) (by rw [b1.1 _ (by decide) (by decide)])) (by decide) (by decide) (by decide) (fun e2 g3 I3 c1 c2 c3 => ?_) (fun e e2 I3 c1 c2 => ?_))
    · rw [e2, tl_b_inr] at h
      refine em_done rfl (h I3 ((z1.tr z2).tr (zf.w c1)) c2 c3 ?_)
      exact b3.keep (c1.1 _ (by decide)) (c1.1 _ (by decide))
    · rw [e2, tl_b_inl] at h
      exact em_done rfl (h I3 ((z1.tr z2).tr (zf.w c1)) c2)
  · rw [e1, tl_b_inl] at h
    iterate 1 refine em_next rfl ?_
    refine em_z_ne (fun q => absurd rfl q) (fun _ => ?_)
    iterate 1 refine em_next rfl ?_
    exact em_done rfl (h I1 a1 a2)
theorem ce_ifs_draft_costs {i m t : Nat} {s : List Int32} {lp : Bool} {la : tl_F} (hm : i + m = 4) (hx : cx b L n I J) (hc : cat b L t I) (hl : lat I la) (hw : cw I 20 s lp) (hsl : s.length + 2 ≤ t) (h : tl_lo b L 20 I J Q s lp la (tl_ifs (tk_K b L) (tk_V b L) m t)) : em_wp em_sc0 (d + 22) 77 32 [some (.ref 40), some (.ref 20), some (.int (nI i))] [] (em_SH, I, J, em_RT 20) Q := by
  induction m generalizing i t s lp I with
  | zero =>
    have e : i = 4 := by omega
    subst e
    rw [tl_ifs] at h
    iterate 3 refine em_next rfl ?_
    refine em_c_gt (fun z => absurd z (by decide)) (fun _ => ?_)
    iterate 4 refine em_next rfl ?_
    have hck := ck_inj (tk_K b L t) (kr b L t) 29 (by decide)
    have hlt := (ck_is _ (kr b L t)).2.2.2.2.2.2.2.2.1
    refine em_c_neE hc.2.2.2 (y' := nI 265) rfl (fun z => ?_) (fun z => ?_)
    · rw [if_neg (fun e => z (by rw [e]; rfl))] at h
      exact ce_lend_draft_costs hx hc hl hw hsl h
    · rw [if_pos (hck.mp ((nI_eq (by omega) (by decide)).mp z))] at h
      iterate 3 refine em_next rfl ?_
      refine em_c_lt (fun z => absurd z (by decide)) (fun _ => ?_)
      iterate 2 refine em_next rfl ?_
      refine em_inv_call rfl (ce_refuse (k := 2) hx hc (fun I2 a1 a2 a3 a4 => ?_))
      exact em_done rfl (h I2 (zf.w (wf.of a1 a2)) ⟨a3, a4⟩)
  | succ m ih =>
    rw [tl_ifs] at h
    iterate 3 refine em_next rfl ?_
    refine em_c_gtE rfl (y' := nI 4) rfl (fun z => absurd ((nI_ltI (by decide) (by omega)).mp z) (by omega)) (fun _ => ?_)
    iterate 4 refine em_next rfl ?_
    have hck := ck_inj (tk_K b L t) (kr b L t) 29 (by decide)
    have hlt := (ck_is _ (kr b L t)).2.2.2.2.2.2.2.2.1
    refine em_c_neE hc.2.2.2 (y' := nI 265) rfl (fun z => ?_) (fun z => ?_)
    · rw [if_neg (fun e => z (by rw [e]; rfl))] at h
      exact ce_lend_draft_costs hx hc hl hw hsl h
    have hk := hck.mp ((nI_eq (by omega) (by decide)).mp z)
    rw [if_pos hk] at h
    unfold tl_br at h
    iterate 3 refine em_next rfl ?_
    refine em_c_ltE rfl (y' := nI 4) rfl (fun _ => ?_) (fun z => absurd (nI_lt (by omega) (by decide)) z)
    have bad : ∀ (e : tl_E) (K : Nat → Nat → Int32), (∀ I' : Nat → Nat → Int32, zf 20 I I' → flt b L I' e → Q (some (.int 0)) (em_SH, I', J, em_RT 20)) → zf 20 I K → flt b L K e → em_wp em_sc0 (d + 22) 77 100 [some (.ref 40), some (.ref 20), some (.int (nI i))] [] (em_SH, K, J, em_RT 20) Q := fun e K hh k1 k2 => by
      iterate 1 refine em_next rfl ?_
      exact em_done rfl (hh K k1 k2)
    have bad2 : ∀ (e : tl_E) (K : Nat → Nat → Int32), (∀ I' : Nat → Nat → Int32, zf 20 I I' → flt b L I' e → Q (some (.int 0)) (em_SH, I', J, em_RT 20)) → zf 20 I K → flt b L K e → em_wp em_sc0 (d + 22) 77 127 [some (.ref 40), some (.ref 20), some (.int (nI i))] [] (em_SH, K, J, em_RT 20) Q := fun e K hh k1 k2 => by
      iterate 1 refine em_next rfl ?_
      exact em_done rfl (hh K k1 k2)
    iterate 1 refine em_next rfl ?_
    refine em_inv_call rfl (tz_accept hx hc hl (by omega) (fun g1 I1 a1 a2 a3 => ?_) (fun g1 I1 a1 a2 => ?_))
    rotate_left
    · rw [show tl_acc t none = .inl (2, t) from if_neg g1, tl_b_inl, tl_b_inl] at h
      iterate 1 refine em_next rfl ?_
      refine em_z_eq (fun _ => ?_) (fun q => absurd rfl q)
      exact bad _ I1 h (zf.w a1) a2
    rw [show tl_acc t none = .inr (t + 1, none) from if_pos g1, tl_b_inr] at h
    have z1 : zf 20 I I1 := zf.w a1
    iterate 1 refine em_next rfl ?_
    refine em_z_eq (fun q => absurd q (by decide)) (fun _ => ?_)
    iterate 2 refine em_next rfl ?_
    refine em_inv_call rfl (tz_sum_draft_costs (hx.z z1 (by decide) (by decide)) a2 a3 (hw.keep (a1.1 _ (by decide)) (a1.1 _ (by decide))) (by omega) (fun w1 e1 p1 p2 I2 b1 b2 b3 b4 => ?_) (fun e e1 I2 b1 b2 => ?_))
    rotate_left
    · rw [e1, tl_b_inl, tl_b_inl] at h
      iterate 1 refine em_next rfl ?_
      refine em_z_eq (fun _ => ?_) (fun q => absurd rfl q)
      exact bad _ I2 h (z1.tr b1) b2
    rw [e1, tl_b_inr] at h
    have z2 : zf 20 I I2 := z1.tr (zf.x b1)
    iterate 1 refine em_next rfl ?_
    refine em_z_eq (fun q => absurd q (by decide)) (fun _ => ?_)
    iterate 2 refine em_next rfl ?_
    refine em_inv_call rfl (tz_take (k := 13) (la := la) (hx.z z2 (by decide) (by decide)) b2 b3 (by decide) (by decide) (by decide) (fun e2 p3 I3 c1 c2 c3 => ?_) (fun e e2 I3 c1 c2 => ?_))
    rotate_left
    · rw [e2, tl_b_inl, tl_b_inl] at h
      iterate 1 refine em_next rfl ?_
      refine em_z_eq (fun _ => ?_) (fun q => absurd rfl q)
      exact bad _ I3 h (z2.tr (zf.w c1)) c2
    rw [e2, tl_b_inr] at h
    have z3 : zf 20 I I3 := z2.tr (zf.w c1)
    have l2 : (s ++ w1.2.map cst).length + 3 ≤ w1.1 := by rw [List.length_append, List.length_map]; omega
    iterate 1 refine em_next rfl ?_
    refine em_z_eq (fun q => absurd q (by decide)) (fun _ => ?_)
    iterate 2 refine em_next rfl ?_
    refine em_inv_call rfl (tz_sum_draft_costs (hx.z z3 (by decide) (by decide)) c2 c3 (b4.keep (c1.1 _ (by decide)) (c1.1 _ (by decide))) (by omega) (fun w2 e3 p4 p5 I4 d1 d2 d3 d4 => ?_) (fun e e3 I4 d1 d2 => ?_))
    rotate_left
    · rw [e3, tl_b_inl, tl_b_inl] at h
      iterate 1 refine em_next rfl ?_
      refine em_z_eq (fun _ => ?_) (fun q => absurd rfl q)
      exact bad _ I4 h (z3.tr d1) d2
    rw [e3, tl_b_inr] at h
    have z4 : zf 20 I I4 := z3.tr (zf.x d1)
    have l3 : ((s ++ w1.2.map cst) ++ w2.2.map cst).length + 4 ≤ w2.1 := by
      rw [List.length_append, List.length_map]
      omega
    iterate 1 refine em_next rfl ?_
    refine em_z_eq (fun q => absurd q (by decide)) (fun _ => ?_)
    iterate 2 refine em_next rfl ?_
    refine em_inv_call rfl (tz_take (k := 30) (la := la) (hx.z z4 (by decide) (by decide)) d2 d3 (by decide) (by decide) (by decide) (fun e4 p6 I5 f1 f2 f3 => ?_) (fun e e4 I5 f1 f2 => ?_))
    rotate_left
    · rw [e4, tl_b_inl, tl_b_inl] at h
      iterate 1 refine em_next rfl ?_
      refine em_z_ne (fun q => absurd rfl q) (fun _ => ?_)
      exact bad _ I5 h (z4.tr (zf.w f1)) f2
    rw [e4, tl_b_inr] at h
    have z5 : zf 20 I I5 := z4.tr (zf.w f1)
    iterate 1 refine em_next rfl ?_
    refine em_z_ne (fun _ => ?_) (fun q => absurd q (by decide))
    iterate 2 refine em_next rfl ?_
    refine em_inv_call rfl (ce_begin_draft_costs (d4.keep (f1.1 _ (by decide)) (f1.1 _ (by decide))) (by omega) (fun I6 q1 q2 q3 => ?_))
    have z6 : zf 20 I I6 := z5.tr (zf.l (by decide) q1)
    have c6 : cat b L (w2.1 + 1) I6 := f2.keep (q1 _ (by decide) (by decide))
    have la6 : lat I6 la := f3.keep (by rw [q1 _ (by decide) (by decide)]) (by rw [q1 _ (by decide) (by decide)])
    have l4 : (((s ++ w1.2.map cst) ++ w2.2.map cst) ++ [-14, 0]).length + 3 ≤ w2.1 + 1 := by
      rw [List.length_append]
      dsimp only [List.length]
      omega
    iterate 2 refine em_next rfl ?_
    refine em_inv_call rfl (tz_sum_draft_costs (hx.z z6 (by decide) (by decide)) c6 la6 q2 (by omega) (fun w3 e5 p7 p8 I7 r1 r2 r3 r4 => ?_) (fun e e5 I7 r1 r2 => ?_))
    rotate_left
    · rw [e5, tl_b_inl, tl_b_inl] at h
      iterate 1 refine em_next rfl ?_
      refine em_z_eq (fun _ => ?_) (fun q => absurd rfl q)
      exact bad2 _ I7 h (z6.tr r1) r2
    rw [e5, tl_b_inr] at h
    have z7 : zf 20 I I7 := z6.tr (zf.x r1)
    iterate 1 refine em_next rfl ?_
    refine em_z_eq (fun q => absurd q (by decide)) (fun _ => ?_)
    iterate 2 refine em_next rfl ?_
    refine em_inv_call rfl (tz_take (k := 31) (la := la) (hx.z z7 (by decide) (by decide)) r2 r3 (by decide) (by decide) (by decide) (fun e6 p9 I8 s1 s2 s3 => ?_) (fun e e6 I8 s1 s2 => ?_))
    rotate_left
    · rw [e6, tl_b_inl, tl_b_inl] at h
      iterate 1 refine em_next rfl ?_
      refine em_z_ne (fun q => absurd rfl q) (fun _ => ?_)
      exact bad2 _ I8 h (z7.tr (zf.w s1)) s2
    rw [e6, tl_b_inr, tl_b_inr] at h
    have z8 : zf 20 I I8 := z7.tr (zf.w s1)
    have r5 : cw I8 20 ((((s ++ w1.2.map cst) ++ w2.2.map cst) ++ [-14]) ++ 0 :: w3.2.map cst) (((lp || hp w1.2) || hp w2.2) || hp w3.2) := by
      have := r4.keep (s1.1 _ (by decide)) (s1.1 _ (by decide))
      rw [List.append_assoc _ [-14, 0]] at this
      rw [List.append_assoc _ [-14]]
      exact this
    have k8 : I8 20 3 = nI (((s ++ w1.2.map cst) ++ w2.2.map cst) ++ [-14]).length := by
      rw [s1.1 _ (by decide), r1.2.2 _ (by decide) (by decide), q3, List.length_append (bs := [-14])]
      rfl
    have l5 : ((((s ++ w1.2.map cst) ++ w2.2.map cst) ++ [-14]) ++ 0 :: w3.2.map cst).length + 3 ≤ w3.1 := by
      simp only [List.length_append, List.length_map, List.length_cons, List.length_nil] at l4 ⊢
      omega
    iterate 1 refine em_next rfl ?_
    refine em_z_ne (fun _ => ?_) (fun q => absurd q (by decide))
    iterate 2 refine em_next rfl ?_
    refine em_inv_call rfl (ce_end_draft_costs r5 k8 (by omega) (fun I9 u1 u2 => ?_))
    have z9 : zf 20 I I9 := z8.tr (zf.l (by decide) u1.1)
    have g := ih (i := i + 1) (t := w3.1 + 1) (I := I9) (by omega) (hx.z z9 (by decide) (by decide)) (s2.keep (u1.1 _ (by decide) (by decide))) (s3.keep (by rw [u1.1 _ (by decide) (by decide)]) (by rw [u1.1 _ (by decide) (by decide)])) u2 (by
      simp only [List.length_append, List.length_map, List.length_cons, List.length_nil] at l5 ⊢
      omega) (by
      cases hr : tl_ifs (tk_K b L) (tk_V b L) m (w3.1 + 1) with
      | inl e =>
        rw [hr, tl_b_inl] at h
        exact fun I' y1 y2 => h I' (z9.tr y1) y2
      | inr y =>
        rw [hr, tl_b_inr] at h
        intro I' y1 y2 y3 y4
        refine h I' (z9.tr y1) y2 y3 ?_
        rw [List.length_map] at y4
        have e1 : s ++ cfl ((w1.2, w2.2, w3.2) :: y.2.1) y.2.2 = ((((s ++ w1.2.map cst) ++ w2.2.map cst) ++ [-14]) ++ nI (w3.2.length + 1) :: (w3.2.map cst ++ [-15])) ++ cfl y.2.1 y.2.2 := by
          rw [cfl]
          simp only [List.append_assoc, List.cons_append, List.nil_append]
        have e2 : (lp || lhp ((w1.2, w2.2, w3.2) :: y.2.1, y.2.2)) = ((((lp || hp w1.2) || hp w2.2) || hp w3.2) || lhp y.2) := by
          rw [lhp_cons]
          simp only [Bool.or_assoc]
        show cw I' 20 (s ++ cfl ((w1.2, w2.2, w3.2) :: y.2.1) y.2.2) (lp || lhp ((w1.2, w2.2, w3.2) :: y.2.1, y.2.2))
        rw [e1, e2]
        exact y4)
    rw [nI_succ] at g
    iterate 2 refine em_next rfl ?_
    exact g
theorem ce_takeLaw_draft_costs {t : Nat} {la : tl_F} (hx : cx b L n I J) (hc : cat b L t I) (hl : lat I la) (hg : ¬ tk_K b L t = 0 ∧ ¬ tk_K b L t = 3) (h : tl_lo b L 20 I J Q [] false la (tl_law (tk_K b L) (tk_V b L) t)) : em_call (d + 22) 77 [.ref 40, .ref 20] (em_SH, I, J, em_RT lw) Q := by
  unfold tl_law at h
  iterate 3 refine em_next rfl ?_
  show em_wp em_sc0 (d + 22) 77 _ _ _ (em_putR (em_SH, I, J, em_RT lw) 40 3 (some 20)) Q
  rw [em_RT_put]
  iterate 2 refine em_next rfl ?_
  refine em_inv_call rfl (ce_lclear_draft_costs (fun I1 a1 a2 => ?_))
  have z1 : zf 20 I I1 := zf.l (by decide) a1.1
  iterate 1 refine em_next rfl ?_
  refine em_inv_call rfl (tz_accept (hx.z z1 (by decide) (by decide)) (hc.keep (a1.1 _ (by decide) (by decide))) (la := la) (hl.keep (by rw [a1.1 _ (by decide) (by decide)]) (by rw [a1.1 _ (by decide) (by decide)])) hg (fun g1 I2 b1 b2 b3 => ?_) (fun g1 I2 b1 b2 => ?_))
  rotate_left
  · rw [show tl_acc t none = .inl (2, t) from if_neg g1, tl_b_inl] at h
    iterate 1 refine em_next rfl ?_
    refine em_z_eq (fun _ => ?_) (fun q => absurd rfl q)
    iterate 1 refine em_next rfl ?_
    exact em_done rfl (h I2 (z1.tr (zf.w b1)) b2)
  rw [show tl_acc t none = .inr (t + 1, none) from if_pos g1, tl_b_inr] at h
  have z2 : zf 20 I I2 := z1.tr (zf.w b1)
  iterate 1 refine em_next rfl ?_
  refine em_z_eq (fun q => absurd q (by decide)) (fun _ => ?_)
  iterate 2 refine em_next rfl ?_
  refine em_inv_call rfl (tz_take (k := 5) (la := la) (hx.z z2 (by decide) (by decide)) b2 b3 (by decide) (by decide) (by decide) (fun e2 p3 I3 c1 c2 c3 => ?_) (fun e e2 I3 c1 c2 => ?_))
  rotate_left
  · rw [e2, tl_b_inl] at h
    iterate 1 refine em_next rfl ?_
    refine em_z_ne (fun q => absurd rfl q) (fun _ => ?_)
    iterate 1 refine em_next rfl ?_
    exact em_done rfl (h I3 (z2.tr (zf.w c1)) c2)
  rw [e2, tl_b_inr] at h
  iterate 1 refine em_next rfl ?_
  refine em_z_ne (fun _ => ?_) (fun q => absurd q (by decide))
  iterate 2 refine em_next rfl ?_
  exact ce_ifs_draft_costs (i := 0) (m := 4) (by decide) (hx.z (z2.tr (zf.w c1)) (by decide) (by decide)) c2 c3 (a2.keep (by rw [c1.1 _ (by decide), b1.1 _ (by decide)]) (by rw [c1.1 _ (by decide), b1.1 _ (by decide)])) (by dsimp only [List.length]; omega) (h.k (z2.tr (zf.w c1)))
end CLAW3
