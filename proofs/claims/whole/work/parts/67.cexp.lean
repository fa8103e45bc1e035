/-! the class takes a sum -/
def hp (c : ek_cd) : Bool := c.any (fun q => decide (q = (1, 8)))
theorem hp_app (a c : ek_cd) : hp (a ++ c) = (hp a || hp c) := by unfold hp; exact List.any_append
def cw (I : Nat → Nat → Int32) (q : Nat) (s : List Int32) (lp : Bool) : Prop := s.length ≤ 400 ∧ I q 2 = nI s.length ∧ csq (I (q + 1)) 0 s ∧ I q 4 = em_bb lp
/-- what taking a sum changes, with the law's cell q -/
def xf (q : Nat) (I I' : Nat → Nat → Int32) : Prop := (∀ a, a ≠ 40 → a ≠ q → a ≠ q + 1 → I' a = I a) ∧ (∀ j, j ∉ [4, 5, 6, 7] → I' 40 j = I 40 j) ∧ ∀ j, j ≠ 2 → j ≠ 4 → I' q j = I q j
/-- what an added step changes -/
def af (q : Nat) (I I' : Nat → Nat → Int32) : Prop := (∀ a, a ≠ q → a ≠ q + 1 → I' a = I a) ∧ ∀ j, j ≠ 2 → j ≠ 4 → I' q j = I q j
theorem xf.rf {q : Nat} {I : Nat → Nat → Int32} : xf q I I := ⟨fun _ _ _ _ => rfl, fun _ _ => rfl, fun _ _ _ => rfl⟩
theorem xf.tr {q : Nat} {I I' I'' : Nat → Nat → Int32} (h : xf q I I') (h' : xf q I' I'') : xf q I I'' := ⟨fun a h1 h2 h3 => (h'.1 a h1 h2 h3).trans (h.1 a h1 h2 h3), fun j hj => (h'.2.1 j hj).trans (h.2.1 j hj), fun j z1 z2 => (h'.2.2 j z1 z2).trans (h.2.2 j z1 z2)⟩
/-- tokens as the class has them, and where it stands -/
def cx (b : Nat → Nat) (L n : Nat) (I : Nat → Nat → Int32) (J : Nat → Nat → Int64) : Prop := ct_T b L I J n ∧ cs_n b L n
def cat (b : Nat → Nat) (L t : Nat) (I : Nat → Nat → Int32) : Prop := t ≤ 400 ∧ tk_gd (tk_K b L) t ∧ I 40 4 = nI t ∧ I 40 5 = nI (ck (tk_K b L t))
theorem ck_is : ∀ k, k < 41 → (ck k = 2 ↔ k = 2) ∧ (ck k = 40 ↔ k = 6) ∧ (ck k = 41 ↔ k = 7) ∧ (ck k = 43 ↔ k = 8) ∧ (ck k = 45 ↔ k = 9) ∧ (ck k = 42 ↔ k = 10) ∧ (ck k = 47 ↔ k = 15) ∧ (268 ≤ ck k ∧ ck k ≤ 276 ↔ 32 ≤ k ∧ k ≤ 40) ∧ ck k < 300 ∧ (32 ≤ k → ck k - 268 = k - 32) ∧ (ck k = 59 ↔ k = 4) ∧ (ck k = 61 ↔ k = 5) ∧ (ck k = 60 ↔ k = 13) ∧ (ck k = 1 ↔ k = 1) := by decide +kernel
section CEXP
variable {d lw : Nat} {b : Nat → Nat} {L n : Nat} {I I0 I' I'' : Nat → Nat → Int32} {J J0 J' J'' : Nat → Nat → Int64} {M : em_M} {Q : Option Value → em_M → Prop}
theorem cx.lt {t : Nat} (h : cx b L n I J) (ht : t ≤ 400) (hg : tk_gd (tk_K b L) t) : t < n := by
  rcases h.2 with e | ⟨h1, h2, h3⟩
  · omega
  · by_cases e : t < n
    · exact e
    · have := hg (n - 1) (by omega)
      rcases h3 with h3 | h3
      · exact absurd h3 this.1
      · exact absurd h3 this.2
theorem cx.keep (h : cx b L n I J) (h1 : I' 4 = I 4) (h2 : I' 5 = I 5) (h3 : J' 6 = J 6) : cx b L n I' J' := by
  refine ⟨fun t ht => ?_, h.2⟩
  rw [h1, h2, h3]
  exact h.1 t ht
/-- a token that fits is taken -/
theorem ce_accept (hx : cx b L n I J) {t : Nat} (hc : cat b L t I) (hg : ¬ tk_K b L t = 0 ∧ ¬ tk_K b L t = 3) (h1 : t < 400 → ∀ I', xf 0 I I' → (∀ a, a ≠ 40 → I' a = I a) → cat b L (t + 1) I' → Q (some (.int 1)) (em_SH, I', J, em_RT lw)) (h2 : ¬ t < 400 → ∀ I', xf 0 I I' → (∀ a, a ≠ 40 → I' a = I a) → I' 40 6 = nI 2 → I' 40 7 = nI (tk_P b L t) → Q (some (.int 0)) (em_SH, I', J, em_RT lw)) : em_call d 84 [.ref 40] (em_SH, I, J, em_RT lw) Q := by
  obtain ⟨c1, c2, c3, c4⟩ := hc
  have hlt := hx.lt c1 c2
  have hT := hx.1 t hlt
  have nn : n ≤ 401 := by
    rcases hx.2 with e | ⟨_, e, _⟩ <;> omega
  iterate 4 refine em_next rfl ?_
  refine em_c_ltE c3 (y' := nI 400) rfl (fun z => ?_) (fun z => ?_)
  · have z2 := (nI_ltI (by omega) (by decide)).mp z
    have hg1 := c2.s hg.1 hg.2
    have hlt1 := hx.lt (t := t + 1) (by omega) hg1
    have hT1 := hx.1 (t + 1) hlt1
    iterate 5 refine em_next rfl ?_
    refine em_tp (y := nI (t + 1)) ?_ ?_
    · show I 40 4 + 1 = nI (t + 1)
      rw [c3, nI_succ]
    iterate 1 refine em_next rfl ?_
    show em_wp em_sc0 d 84 _ _ _ (em_SH, em_u I 40 4 (nI (t + 1)), J, em_RT lw) Q
    iterate 5 refine em_next rfl ?_
    refine em_next rfl ?_
    refine em_ialE (k := t + 1) rfl rfl (em_u_self (I := I) (a := 40) (j := 4) (x := nI (t + 1))) (by omega) (by decide) ?_
    refine em_tp (y := nI (ck (tk_K b L (t + 1)))) (by rw [em_u_row (by decide)]; exact hT1.1) ?_
    iterate 2 refine em_next rfl ?_
    refine em_done rfl ?_
    show Q (some (.int 1)) (em_SH, em_u (em_u I 40 4 (nI (t + 1))) 40 5 (nI (ck (tk_K b L (t + 1)))), J, em_RT lw)
    refine h1 z2 _ ⟨fun a z1 _ _ => by rw [em_u_row z1, em_u_row z1], fun j hj => ?_, fun j _ _ => by rw [em_u_row (by decide), em_u_row (by decide)]⟩ (fun a z1 => by rw [em_u_row z1, em_u_row z1]) ⟨by omega, hg1, by rw [em_u_ne (by decide), em_u_self], em_u_self⟩
    rw [em_u_ne (fun q => hj (by rw [q]; decide)), em_u_ne (fun q => hj (by rw [q]; decide))]
  · have z2 : ¬ t < 400 := fun e => z ((nI_ltI (by omega) (by decide)).mpr e)
    iterate 3 refine em_next rfl ?_
    show em_wp em_sc0 d 84 _ _ _ (em_SH, em_u I 40 6 (nI 2), J, em_RT lw) Q
    iterate 6 refine em_next rfl ?_
    refine em_ialE (k := t) rfl rfl (by show em_u I 40 6 (nI 2) 40 4 = nI t; rw [em_u_ne (by decide)]; exact c3) (by omega) (by decide) ?_
    refine em_tp (y := nI (tk_P b L t)) (by rw [em_u_row (by decide)]; exact hT.2.1) ?_
    iterate 2 refine em_next rfl ?_
    refine em_done rfl ?_
    show Q (some (.int 0)) (em_SH, em_u (em_u I 40 6 (nI 2)) 40 7 (nI (tk_P b L t)), J, em_RT lw)
    refine h2 z2 _ ⟨fun a z1 _ _ => by rw [em_u_row z1, em_u_row z1], fun j hj => ?_, fun j _ _ => by rw [em_u_row (by decide), em_u_row (by decide)]⟩ (fun a z1 => by rw [em_u_row z1, em_u_row z1]) (by rw [em_u_ne (by decide), em_u_self]) em_u_self
    rw [em_u_ne (fun q => hj (by rw [q]; decide)), em_u_ne (fun q => hj (by rw [q]; decide))]
theorem ce_refuse (hx : cx b L n I J) {t k : Nat} (hc : cat b L t I) (h : ∀ I', xf 0 I I' → (∀ a, a ≠ 40 → I' a = I a) → I' 40 6 = nI k → I' 40 7 = nI (tk_P b L t) → Q (some (.int 0)) (em_SH, I', J, em_RT lw)) : em_call d 85 [.ref 40, .int (nI k)] (em_SH, I, J, em_RT lw) Q := by
  obtain ⟨c1, c2, c3, c4⟩ := hc
  have hlt := hx.lt c1 c2
  have hT := hx.1 t hlt
  iterate 3 refine em_next rfl ?_
  show em_wp em_sc0 d 85 _ _ _ (em_SH, em_u I 40 6 (nI k), J, em_RT lw) Q
  iterate 5 refine em_next rfl ?_
  refine em_next rfl ?_
  refine em_ialE (k := t) rfl rfl (by show em_u I 40 6 (nI k) 40 4 = nI t; rw [em_u_ne (by decide)]; exact c3) (by omega) (by decide) ?_
  refine em_tp (y := nI (tk_P b L t)) (by rw [em_u_row (by decide)]; exact hT.2.1) ?_
  iterate 2 refine em_next rfl ?_
  refine em_done rfl ?_
  show Q (some (.int 0)) (em_SH, em_u (em_u I 40 6 (nI k)) 40 7 (nI (tk_P b L t)), J, em_RT lw)
  refine h _ ⟨fun a z1 _ _ => by rw [em_u_row z1, em_u_row z1], fun j hj => ?_, fun j _ _ => by rw [em_u_row (by decide), em_u_row (by decide)]⟩ (fun a z1 => by rw [em_u_row z1, em_u_row z1]) (by rw [em_u_ne (by decide), em_u_self]) em_u_self
  rw [em_u_ne (fun q => hj (by rw [q]; decide)), em_u_ne (fun q => hj (by rw [q]; decide))]
/-- a step added; with no room none is -/
theorem ce_add_draft_lies {s : List Int32} {lp : Bool} {x : Int32} (hw : cw I 11 s lp) (h : ∀ I' : Nat → Nat → Int32, af 11 I I' → (s.length < 400 → cw I' 11 (s ++ [x]) (lp || decide (x = -9))) → Q none (em_SH, I', J, em_RT lw)) : em_call d 10 [.ref 11, .int x] (em_SH, I, J, em_RT lw) Q := by
  obtain ⟨w1, w2, w3, w4⟩ := hw
  have fin : ∀ (K : Nat → Nat → Int32), af 11 I K → K 11 4 = em_bb lp → (s.length < 400 → K 11 2 = nI (s ++ [x]).length ∧ csq (K 12) 0 (s ++ [x])) → em_wp em_sc0 d 10 30 [some (.ref 11), some (.int (x))] [] (em_SH, K, J, em_RT lw) Q := fun K k1 k2 k3 => by
    have fin2 : ∀ y : Int32, y = em_bb (lp || decide (x = -9)) → em_wp em_sc0 d 10 47 [some (.ref 11), some (.int (x))] [.int y, .ref 11] (em_SH, K, J, em_RT lw) Q := fun y hy => by
      have h' := h
      generalize (lp || decide (x = -9)) = z at hy h'
      subst hy
      have fz : ∀ w : Int32, w = em_bb z → Q none (em_SH, em_u K 11 4 w, J, em_RT lw) := fun w hw => by
        subst hw
        exact h' _ ⟨fun a z1 z2 => by rw [em_u_row z1]; exact k1.1 a z1 z2, fun j z1 z2 => by rw [em_u_ne z2]; exact k1.2 j z1 z2⟩ (fun hl => ⟨by rw [List.length_append]; dsimp only [List.length]; omega, by rw [em_u_ne (by decide)]; exact (k3 hl).1, by rw [em_u_row (by decide)]; exact (k3 hl).2, em_u_self⟩)
      cases z with
      | true =>
        iterate 1 refine em_next rfl ?_
        exact em_done rfl (fz 1 rfl)
      | false =>
        iterate 1 refine em_next rfl ?_
        exact em_done rfl (fz 0 rfl)
    iterate 6 refine em_next rfl ?_
    refine em_c_neE rfl (y' := -9) rfl (fun z => ?_) (fun z => ?_)
    · iterate 2 refine em_next rfl ?_
      exact fin2 _ (by
        show K 11 4 ||| 0 = _
        rw [k2, decide_eq_false z, Bool.or_false]
        exact Int32.or_zero)
    · iterate 3 refine em_next rfl ?_
      exact fin2 _ (by
        show K 11 4 ||| 1 = _
        rw [k2, decide_eq_true z, Bool.or_true]
        cases lp <;> rfl)
  iterate 4 refine em_next rfl ?_
  refine em_c_geE w2 (y' := nI 400) rfl (fun z => ?_) (fun z => ?_)
  · have z2 := (nI_leI (by decide) (by omega)).mp z
    exact fin I ⟨fun _ _ _ => rfl, fun _ _ _ => rfl⟩ w4 (fun q => by omega)
  · have z2 := Nat.not_le.mp (fun e => z ((nI_leI (by decide) (by omega)).mpr e))
    iterate 5 refine em_next rfl ?_
    refine em_iasE (k := s.length) rfl rfl w2 z2 (by decide) ?_
    iterate 5 refine em_next rfl ?_
    refine em_tp (y := nI (s.length + 1)) ?_ ?_
    · show I 11 2 + 1 = nI (s.length + 1)
      rw [w2, nI_succ]
    iterate 1 refine em_next rfl ?_
    refine fin (em_u (em_u I 12 s.length x) 11 2 (nI (s.length + 1))) ⟨fun a z1 z2 => by rw [em_u_row z1, em_u_row z2], fun j z1 z2 => by rw [em_u_ne z1, em_u_row (by decide)]⟩ (by rw [em_u_ne (by decide), em_u_row (by decide)]; exact w4) (fun _ => ⟨by rw [em_u_self, List.length_append]; rfl, ?_⟩)
    rw [em_u_row (by decide), csq_app]
    refine ⟨w3.keep (hi := s.length) (by omega) (fun j hj => em_u_ne (by omega)), ?_, trivial⟩
    rw [Nat.zero_add, em_u_self]
theorem ce_addSign_draft_lies {s : List Int32} {lp : Bool} {k : Nat} (hk : k = 8 ∨ k = 9 ∨ k = 10 ∨ k = 15) (hw : cw I 11 s lp) (hl : s.length < 400) (h : ∀ I' : Nat → Nat → Int32, af 11 I I' → cw I' 11 (s ++ [cst (rd_op k, 0)]) lp → Q none (em_SH, I', J, em_RT lw)) : em_call (d + 1) 11 [.ref 11, .int (nI (ck k))] (em_SH, I, J, em_RT lw) Q := by
  rcases hk with rfl | rfl | rfl | rfl
  · iterate 4 refine em_next rfl ?_
    refine em_inv_call rfl (ce_add_draft_lies hw (fun I1 a1 a2 => ?_))
    iterate 1 refine em_next rfl ?_
    have := a2 hl
    rw [decide_eq_false (by decide), Bool.or_false] at this
    exact em_done rfl (h I1 a1 this)
  · iterate 4 refine em_next rfl ?_
    refine em_inv_call rfl (ce_add_draft_lies hw (fun I1 a1 a2 => ?_))
    iterate 1 refine em_next rfl ?_
    have := a2 hl
    rw [decide_eq_false (by decide), Bool.or_false] at this
    exact em_done rfl (h I1 a1 this)
  · iterate 4 refine em_next rfl ?_
    refine em_inv_call rfl (ce_add_draft_lies hw (fun I1 a1 a2 => ?_))
    iterate 1 refine em_next rfl ?_
    have := a2 hl
    rw [decide_eq_false (by decide), Bool.or_false] at this
    exact em_done rfl (h I1 a1 this)
  · iterate 4 refine em_next rfl ?_
    refine em_inv_call rfl (ce_add_draft_lies hw (fun I1 a1 a2 => ?_))
    have := a2 hl
    rw [decide_eq_false (by decide), Bool.or_false] at this
    exact em_done rfl (h I1 a1 this)
/-- a step added; with no room none is -/
theorem ce_add_draft_parts {s : List Int32} {lp : Bool} {x : Int32} (hw : cw I 14 s lp) (h : ∀ I' : Nat → Nat → Int32, af 14 I I' → (s.length < 400 → cw I' 14 (s ++ [x]) (lp || decide (x = -9))) → Q none (em_SH, I', J, em_RT lw)) : em_call d 10 [.ref 14, .int x] (em_SH, I, J, em_RT lw) Q := by
  obtain ⟨w1, w2, w3, w4⟩ := hw
  have fin : ∀ (K : Nat → Nat → Int32), af 14 I K → K 14 4 = em_bb lp → (s.length < 400 → K 14 2 = nI (s ++ [x]).length ∧ csq (K 15) 0 (s ++ [x])) → em_wp em_sc0 d 10 30 [some (.ref 14), some (.int (x))] [] (em_SH, K, J, em_RT lw) Q := fun K k1 k2 k3 => by
    have fin2 : ∀ y : Int32, y = em_bb (lp || decide (x = -9)) → em_wp em_sc0 d 10 47 [some (.ref 14), some (.int (x))] [.int y, .ref 14] (em_SH, K, J, em_RT lw) Q := fun y hy => by
      have h' := h
      generalize (lp || decide (x = -9)) = z at hy h'
      subst hy
      have fz : ∀ w : Int32, w = em_bb z → Q none (em_SH, em_u K 14 4 w, J, em_RT lw) := fun w hw => by
        subst hw
        exact h' _ ⟨fun a z1 z2 => by rw [em_u_row z1]; exact k1.1 a z1 z2, fun j z1 z2 => by rw [em_u_ne z2]; exact k1.2 j z1 z2⟩ (fun hl => ⟨by rw [List.length_append]; dsimp only [List.length]; omega, by rw [em_u_ne (by decide)]; exact (k3 hl).1, by rw [em_u_row (by decide)]; exact (k3 hl).2, em_u_self⟩)
      cases z with
      | true =>
        iterate 1 refine em_next rfl ?_
        exact em_done rfl (fz 1 rfl)
      | false =>
        iterate 1 refine em_next rfl ?_
        exact em_done rfl (fz 0 rfl)
    iterate 6 refine em_next rfl ?_
    refine em_c_neE rfl (y' := -9) rfl (fun z => ?_) (fun z => ?_)
    · iterate 2 refine em_next rfl ?_
      exact fin2 _ (by
        show K 14 4 ||| 0 = _
        rw [k2, decide_eq_false z, Bool.or_false]
        exact Int32.or_zero)
    · iterate 3 refine em_next rfl ?_
      exact fin2 _ (by
        show K 14 4 ||| 1 = _
        rw [k2, decide_eq_true z, Bool.or_true]
        cases lp <;> rfl)
  iterate 4 refine em_next rfl ?_
  refine em_c_geE w2 (y' := nI 400) rfl (fun z => ?_) (fun z => ?_)
  · have z2 := (nI_leI (by decide) (by omega)).mp z
    exact fin I ⟨fun _ _ _ => rfl, fun _ _ _ => rfl⟩ w4 (fun q => by omega)
  · have z2 := Nat.not_le.mp (fun e => z ((nI_leI (by decide) (by omega)).mpr e))
    iterate 5 refine em_next rfl ?_
    refine em_iasE (k := s.length) rfl rfl w2 z2 (by decide) ?_
    iterate 5 refine em_next rfl ?_
    refine em_tp (y := nI (s.length + 1)) ?_ ?_
    · show I 14 2 + 1 = nI (s.length + 1)
      rw [w2, nI_succ]
    iterate 1 refine em_next rfl ?_
    refine fin (em_u (em_u I 15 s.length x) 14 2 (nI (s.length + 1))) ⟨fun a z1 z2 => by rw [em_u_row z1, em_u_row z2], fun j z1 z2 => by rw [em_u_ne z1, em_u_row (by decide)]⟩ (by rw [em_u_ne (by decide), em_u_row (by decide)]; exact w4) (fun _ => ⟨by rw [em_u_self, List.length_append]; rfl, ?_⟩)
    rw [em_u_row (by decide), csq_app]
    refine ⟨w3.keep (hi := s.length) (by omega) (fun j hj => em_u_ne (by omega)), ?_, trivial⟩
    rw [Nat.zero_add, em_u_self]
theorem ce_addSign_draft_parts {s : List Int32} {lp : Bool} {k : Nat} (hk : k = 8 ∨ k = 9 ∨ k = 10 ∨ k = 15) (hw : cw I 14 s lp) (hl : s.length < 400) (h : ∀ I' : Nat → Nat → Int32, af 14 I I' → cw I' 14 (s ++ [cst (rd_op k, 0)]) lp → Q none (em_SH, I', J, em_RT lw)) : em_call (d + 1) 11 [.ref 14, .int (nI (ck k))] (em_SH, I, J, em_RT lw) Q := by
  rcases hk with rfl | rfl | rfl | rfl
  · iterate 4 refine em_next rfl ?_
    refine em_inv_call rfl (ce_add_draft_parts hw (fun I1 a1 a2 => ?_))
    iterate 1 refine em_next rfl ?_
    have := a2 hl
    rw [decide_eq_false (by decide), Bool.or_false] at this
    exact em_done rfl (h I1 a1 this)
  · iterate 4 refine em_next rfl ?_
    refine em_inv_call rfl (ce_add_draft_parts hw (fun I1 a1 a2 => ?_))
    iterate 1 refine em_next rfl ?_
    have := a2 hl
    rw [decide_eq_false (by decide), Bool.or_false] at this
    exact em_done rfl (h I1 a1 this)
  · iterate 4 refine em_next rfl ?_
    refine em_inv_call rfl (ce_add_draft_parts hw (fun I1 a1 a2 => ?_))
    iterate 1 refine em_next rfl ?_
    have := a2 hl
    rw [decide_eq_false (by decide), Bool.or_false] at this
    exact em_done rfl (h I1 a1 this)
  · iterate 4 refine em_next rfl ?_
    refine em_inv_call rfl (ce_add_draft_parts hw (fun I1 a1 a2 => ?_))
    have := a2 hl
    rw [decide_eq_false (by decide), Bool.or_false] at this
    exact em_done rfl (h I1 a1 this)
/-- a step added; with no room none is -/
theorem ce_add_draft_chills {s : List Int32} {lp : Bool} {x : Int32} (hw : cw I 17 s lp) (h : ∀ I' : Nat → Nat → Int32, af 17 I I' → (s.length < 400 → cw I' 17 (s ++ [x]) (lp || decide (x = -9))) → Q none (em_SH, I', J, em_RT lw)) : em_call d 10 [.ref 17, .int x] (em_SH, I, J, em_RT lw) Q := by
  obtain ⟨w1, w2, w3, w4⟩ := hw
  have fin : ∀ (K : Nat → Nat → Int32), af 17 I K → K 17 4 = em_bb lp → (s.length < 400 → K 17 2 = nI (s ++ [x]).length ∧ csq (K 18) 0 (s ++ [x])) → em_wp em_sc0 d 10 30 [some (.ref 17), some (.int (x))] [] (em_SH, K, J, em_RT lw) Q := fun K k1 k2 k3 => by
    have fin2 : ∀ y : Int32, y = em_bb (lp || decide (x = -9)) → em_wp em_sc0 d 10 47 [some (.ref 17), some (.int (x))] [.int y, .ref 17] (em_SH, K, J, em_RT lw) Q := fun y hy => by
      have h' := h
      generalize (lp || decide (x = -9)) = z at hy h'
      subst hy
      have fz : ∀ w : Int32, w = em_bb z → Q none (em_SH, em_u K 17 4 w, J, em_RT lw) := fun w hw => by
        subst hw
        exact h' _ ⟨fun a z1 z2 => by rw [em_u_row z1]; exact k1.1 a z1 z2, fun j z1 z2 => by rw [em_u_ne z2]; exact k1.2 j z1 z2⟩ (fun hl => ⟨by rw [List.length_append]; dsimp only [List.length]; omega, by rw [em_u_ne (by decide)]; exact (k3 hl).1, by rw [em_u_row (by decide)]; exact (k3 hl).2, em_u_self⟩)
      cases z with
      | true =>
        iterate 1 refine em_next rfl ?_
        exact em_done rfl (fz 1 rfl)
      | false =>
        iterate 1 refine em_next rfl ?_
        exact em_done rfl (fz 0 rfl)
    iterate 6 refine em_next rfl ?_
    refine em_c_neE rfl (y' := -9) rfl (fun z => ?_) (fun z => ?_)
    · iterate 2 refine em_next rfl ?_
      exact fin2 _ (by
        show K 17 4 ||| 0 = _
        rw [k2, decide_eq_false z, Bool.or_false]
        exact Int32.or_zero)
    · iterate 3 refine em_next rfl ?_
      exact fin2 _ (by
        show K 17 4 ||| 1 = _
        rw [k2, decide_eq_true z, Bool.or_true]
        cases lp <;> rfl)
  iterate 4 refine em_next rfl ?_
  refine em_c_geE w2 (y' := nI 400) rfl (fun z => ?_) (fun z => ?_)
  · have z2 := (nI_leI (by decide) (by omega)).mp z
    exact fin I ⟨fun _ _ _ => rfl, fun _ _ _ => rfl⟩ w4 (fun q => by omega)
  · have z2 := Nat.not_le.mp (fun e => z ((nI_leI (by decide) (by omega)).mpr e))
    iterate 5 refine em_next rfl ?_
    refine em_iasE (k := s.length) rfl rfl w2 z2 (by decide) ?_
    iterate 5 refine em_next rfl ?_
    refine em_tp (y := nI (s.length + 1)) ?_ ?_
    · show I 17 2 + 1 = nI (s.length + 1)
      rw [w2, nI_succ]
    iterate 1 refine em_next rfl ?_
    refine fin (em_u (em_u I 18 s.length x) 17 2 (nI (s.length + 1))) ⟨fun a z1 z2 => by rw [em_u_row z1, em_u_row z2], fun j z1 z2 => by rw [em_u_ne z1, em_u_row (by decide)]⟩ (by rw [em_u_ne (by decide), em_u_row (by decide)]; exact w4) (fun _ => ⟨by rw [em_u_self, List.length_append]; rfl, ?_⟩)
    rw [em_u_row (by decide), csq_app]
    refine ⟨w3.keep (hi := s.length) (by omega) (fun j hj => em_u_ne (by omega)), ?_, trivial⟩
    rw [Nat.zero_add, em_u_self]
theorem ce_addSign_draft_chills {s : List Int32} {lp : Bool} {k : Nat} (hk : k = 8 ∨ k = 9 ∨ k = 10 ∨ k = 15) (hw : cw I 17 s lp) (hl : s.length < 400) (h : ∀ I' : Nat → Nat → Int32, af 17 I I' → cw I' 17 (s ++ [cst (rd_op k, 0)]) lp → Q none (em_SH, I', J, em_RT lw)) : em_call (d + 1) 11 [.ref 17, .int (nI (ck k))] (em_SH, I, J, em_RT lw) Q := by
  rcases hk with rfl | rfl | rfl | rfl
  · iterate 4 refine em_next rfl ?_
    refine em_inv_call rfl (ce_add_draft_chills hw (fun I1 a1 a2 => ?_))
    iterate 1 refine em_next rfl ?_
    have := a2 hl
    rw [decide_eq_false (by decide), Bool.or_false] at this
    exact em_done rfl (h I1 a1 this)
  · iterate 4 refine em_next rfl ?_
    refine em_inv_call rfl (ce_add_draft_chills hw (fun I1 a1 a2 => ?_))
    iterate 1 refine em_next rfl ?_
    have := a2 hl
    rw [decide_eq_false (by decide), Bool.or_false] at this
    exact em_done rfl (h I1 a1 this)
  · iterate 4 refine em_next rfl ?_
    refine em_inv_call rfl (ce_add_draft_chills hw (fun I1 a1 a2 => ?_))
    iterate 1 refine em_next rfl ?_
    have := a2 hl
    rw [decide_eq_false (by decide), Bool.or_false] at this
    exact em_done rfl (h I1 a1 this)
  · iterate 4 refine em_next rfl ?_
    refine em_inv_call rfl (ce_add_draft_chills hw (fun I1 a1 a2 => ?_))
    have := a2 hl
    rw [decide_eq_false (by decide), Bool.or_false] at this
    exact em_done rfl (h I1 a1 this)
/-- a step added; with no room none is -/
theorem ce_add_draft_costs {s : List Int32} {lp : Bool} {x : Int32} (hw : cw I 20 s lp) (h : ∀ I' : Nat → Nat → Int32, af 20 I I' → (s.length < 400 → cw I' 20 (s ++ [x]) (lp || decide (x = -9))) → Q none (em_SH, I', J, em_RT lw)) : em_call d 10 [.ref 20, .int x] (em_SH, I, J, em_RT lw) Q := by
  obtain ⟨w1, w2, w3, w4⟩ := hw
  have fin : ∀ (K : Nat → Nat → Int32), af 20 I K → K 20 4 = em_bb lp → (s.length < 400 → K 20 2 = nI (s ++ [x]).length ∧ csq (K 21) 0 (s ++ [x])) → em_wp em_sc0 d 10 30 [some (.ref 20), some (.int (x))] [] (em_SH, K, J, em_RT lw) Q := fun K k1 k2 k3 => by
    have fin2 : ∀ y : Int32, y = em_bb (lp || decide (x = -9)) → em_wp em_sc0 d 10 47 [some (.ref 20), some (.int (x))] [.int y, .ref 20] (em_SH, K, J, em_RT lw) Q := fun y hy => by
      have h' := h
      generalize (lp || decide (x = -9)) = z at hy h'
      subst hy
      have fz : ∀ w : Int32, w = em_bb z → Q none (em_SH, em_u K 20 4 w, J, em_RT lw) := fun w hw => by
        subst hw
        exact h' _ ⟨fun a z1 z2 => by rw [em_u_row z1]; exact k1.1 a z1 z2, fun j z1 z2 => by rw [em_u_ne z2]; exact k1.2 j z1 z2⟩ (fun hl => ⟨by rw [List.length_append]; dsimp only [List.length]; omega, by rw [em_u_ne (by decide)]; exact (k3 hl).1, by rw [em_u_row (by decide)]; exact (k3 hl).2, em_u_self⟩)
      cases z with
      | true =>
        iterate 1 refine em_next rfl ?_
        exact em_done rfl (fz 1 rfl)
      | false =>
        iterate 1 refine em_next rfl ?_
        exact em_done rfl (fz 0 rfl)
    iterate 6 refine em_next rfl ?_
    refine em_c_neE rfl (y' := -9) rfl (fun z => ?_) (fun z => ?_)
    · iterate 2 refine em_next rfl ?_
      exact fin2 _ (by
        show K 20 4 ||| 0 = _
        rw [k2, decide_eq_false z, Bool.or_false]
        exact Int32.or_zero)
    · iterate 3 refine em_next rfl ?_
      exact fin2 _ (by
        show K 20 4 ||| 1 = _
        rw [k2, decide_eq_true z, Bool.or_true]
        cases lp <;> rfl)
  iterate 4 refine em_next rfl ?_
  refine em_c_geE w2 (y' := nI 400) rfl (fun z => ?_) (fun z => ?_)
  · have z2 := (nI_leI (by decide) (by omega)).mp z
    exact fin I ⟨fun _ _ _ => rfl, fun _ _ _ => rfl⟩ w4 (fun q => by omega)
  · have z2 := Nat.not_le.mp (fun e => z ((nI_leI (by decide) (by omega)).mpr e))
    iterate 5 refine em_next rfl ?_
    refine em_iasE (k := s.length) rfl rfl w2 z2 (by decide) ?_
    iterate 5 refine em_next rfl ?_
    refine em_tp (y := nI (s.length + 1)) ?_ ?_
    · show I 20 2 + 1 = nI (s.length + 1)
      rw [w2, nI_succ]
    iterate 1 refine em_next rfl ?_
    refine fin (em_u (em_u I 21 s.length x) 20 2 (nI (s.length + 1))) ⟨fun a z1 z2 => by rw [em_u_row z1, em_u_row z2], fun j z1 z2 => by rw [em_u_ne z1, em_u_row (by decide)]⟩ (by rw [em_u_ne (by decide), em_u_row (by decide)]; exact w4) (fun _ => ⟨by rw [em_u_self, List.length_append]; rfl, ?_⟩)
    rw [em_u_row (by decide), csq_app]
    refine ⟨w3.keep (hi := s.length) (by omega) (fun j hj => em_u_ne (by omega)), ?_, trivial⟩
    rw [Nat.zero_add, em_u_self]
theorem ce_addSign_draft_costs {s : List Int32} {lp : Bool} {k : Nat} (hk : k = 8 ∨ k = 9 ∨ k = 10 ∨ k = 15) (hw : cw I 20 s lp) (hl : s.length < 400) (h : ∀ I' : Nat → Nat → Int32, af 20 I I' → cw I' 20 (s ++ [cst (rd_op k, 0)]) lp → Q none (em_SH, I', J, em_RT lw)) : em_call (d + 1) 11 [.ref 20, .int (nI (ck k))] (em_SH, I, J, em_RT lw) Q := by
  rcases hk with rfl | rfl | rfl | rfl
  · iterate 4 refine em_next rfl ?_
    refine em_inv_call rfl (ce_add_draft_costs hw (fun I1 a1 a2 => ?_))
    iterate 1 refine em_next rfl ?_
    have := a2 hl
    rw [decide_eq_false (by decide), Bool.or_false] at this
    exact em_done rfl (h I1 a1 this)
  · iterate 4 refine em_next rfl ?_
    refine em_inv_call rfl (ce_add_draft_costs hw (fun I1 a1 a2 => ?_))
    iterate 1 refine em_next rfl ?_
    have := a2 hl
    rw [decide_eq_false (by decide), Bool.or_false] at this
    exact em_done rfl (h I1 a1 this)
  · iterate 4 refine em_next rfl ?_
    refine em_inv_call rfl (ce_add_draft_costs hw (fun I1 a1 a2 => ?_))
    iterate 1 refine em_next rfl ?_
    have := a2 hl
    rw [decide_eq_false (by decide), Bool.or_false] at this
    exact em_done rfl (h I1 a1 this)
  · iterate 4 refine em_next rfl ?_
    refine em_inv_call rfl (ce_add_draft_costs hw (fun I1 a1 a2 => ?_))
    have := a2 hl
    rw [decide_eq_false (by decide), Bool.or_false] at this
    exact em_done rfl (h I1 a1 this)
end CEXP
