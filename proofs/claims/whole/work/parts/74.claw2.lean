/-! the class's laws while they are written -/
theorem csq_set {g g' : Nat → Int32} {s r : List Int32} {x y : Int32} (h : csq g 0 (s ++ x :: r)) (h1 : g' s.length = y) (h2 : ∀ j, j ≠ s.length → g' j = g j) : csq g' 0 (s ++ y :: r) := by
  rw [csq_app] at h ⊢
  rw [Nat.zero_add] at h ⊢
  refine ⟨h.1.keep (hi := s.length) (by omega) (fun j hj => h2 j (by omega)), h1, ?_⟩
  have key : ∀ (r : List Int32) (a : Nat), s.length < a → csq g a r → csq g' a r := by
    intro r
    induction r with
    | nil => exact fun _ _ _ => trivial
    | cons z r ih => exact fun a ha hq => ⟨(h2 a (by omega)).trans hq.1, ih (a + 1) (by omega) hq.2⟩
  exact key r _ (by omega) h.2.2
section CLAW2
variable {d lw : Nat} {I I0 I' I'' : Nat → Nat → Int32} {J J0 J' J'' : Nat → Nat → Int64} {M : em_M} {Q : Option Value → em_M → Prop}
theorem ce_lclear_draft_lies (h : ∀ I' : Nat → Nat → Int32, af 11 I I' → cw I' 11 [] false → Q none (em_SH, I', J, em_RT lw)) : em_call d 8 [.ref 11] (em_SH, I, J, em_RT lw) Q := by
  iterate 6 refine em_next rfl ?_
  refine em_done rfl ?_
  show Q none (em_SH, em_u (em_u I 11 2 (nI 0)) 11 4 0, J, em_RT lw)
  exact h _ ⟨fun a z1 _ => by rw [em_u_row z1, em_u_row z1], fun j z1 z2 => by rw [em_u_ne z2, em_u_ne z1]⟩ ⟨by decide, by rw [em_u_ne (by decide), em_u_self]; rfl, trivial, em_u_self⟩
theorem ce_begin_draft_lies {s : List Int32} {lp : Bool} (hw : cw I 11 s lp) (hl : s.length + 1 < 400) (h : ∀ I' : Nat → Nat → Int32, (∀ a, a ≠ 11 → a ≠ 12 → I' a = I a) → cw I' 11 (s ++ [-14, 0]) lp → I' 11 3 = nI (s.length + 1) → Q none (em_SH, I', J, em_RT lw)) : em_call (d + 1) 12 [.ref 11] (em_SH, I, J, em_RT lw) Q := by
  iterate 2 refine em_next rfl ?_
  refine em_inv_call rfl (ce_add_draft_lies (x := -14) hw (fun I1 a1 a2 => ?_))
  have a3 := a2 (by omega)
  rw [decide_eq_false (by decide), Bool.or_false] at a3
  have e3 : I1 11 2 = nI (s.length + 1) := by
    have := a3.2.1
    rw [List.length_append] at this
    exact this
  iterate 4 refine em_next rfl ?_
  show em_wp em_sc0 (d + 1) 12 _ _ _ (em_SH, em_u I1 11 3 (I1 11 2), J, em_RT lw) Q
  rw [e3]
  have hw2 : cw (em_u I1 11 3 (nI (s.length + 1))) 11 (s ++ [-14]) lp := ⟨a3.1, by rw [em_u_ne (by decide)]; exact a3.2.1, by rw [em_u_row (by decide)]; exact a3.2.2.1, by rw [em_u_ne (by decide)]; exact a3.2.2.2⟩
  iterate 2 refine em_next rfl ?_
  refine em_inv_call rfl (ce_add_draft_lies (x := 0) hw2 (fun I2 b1 b2 => ?_))
  have b3 := b2 (by rw [List.length_append]; exact hl)
  rw [decide_eq_false (by decide), Bool.or_false, List.append_assoc] at b3
  refine em_done rfl (h I2 (fun a z1 z2 => ?_) b3 ?_)
  · rw [b1.1 a z1 z2, em_u_row z1]; exact a1.1 a z1 z2
  · rw [b1.2 _ (by decide) (by decide), em_u_self]
theorem ce_end_draft_lies {s r : List Int32} {lp : Bool} (hw : cw I 11 (s ++ 0 :: r) lp) (hk : I 11 3 = nI s.length) (hl : (s ++ 0 :: r).length < 400) (h : ∀ I' : Nat → Nat → Int32, af 11 I I' → cw I' 11 (s ++ nI (r.length + 1) :: (r ++ [-15])) lp → Q none (em_SH, I', J, em_RT lw)) : em_call (d + 1) 13 [.ref 11] (em_SH, I, J, em_RT lw) Q := by
  iterate 2 refine em_next rfl ?_
  refine em_inv_call rfl (ce_add_draft_lies (x := -15) hw (fun I1 a1 a2 => ?_))
  have a3 := a2 hl
  rw [decide_eq_false (by decide), Bool.or_false, List.append_assoc, List.cons_append] at a3
  have ll : (s ++ 0 :: r).length = s.length + (r.length + 1) := by rw [List.length_append, List.length_cons]
  have le : (s ++ 0 :: (r ++ [-15])).length = s.length + r.length + 2 := by rw [List.length_append, List.length_cons, List.length_append]; dsimp only [List.length]; omega
  have e1 : I1 11 2 = nI (s.length + r.length + 2) := by rw [a3.2.1, le]
  have e2 : I1 11 3 = nI s.length := (a1.2 _ (by decide) (by decide)).trans hk
  iterate 5 refine em_next rfl ?_
  refine em_c_geE e2 e1 (fun z => absurd ((nI_leI (by omega) (by omega)).mp z) (by omega)) (fun _ => ?_)
  iterate 11 refine em_next rfl ?_
  refine em_iasE (k := s.length) rfl rfl e2 (by omega) (by decide) ?_
  refine em_done rfl ?_
  have e4 : I1 11 2 - I1 11 3 - 1 = nI (r.length + 1) := by
    rw [e1, e2, nI_subN (by omega), show s.length + r.length + 2 - s.length = r.length + 1 + 1 by omega, nI_p1]
  show Q none (em_SH, em_u I1 12 s.length (I1 11 2 - I1 11 3 - 1), J, em_RT lw)
  rw [e4]
  refine h _ ⟨fun a z1 z2 => by rw [em_u_row z2]; exact a1.1 a z1 z2, fun j z1 z2 => by rw [em_u_row (by decide)]; exact a1.2 j z1 z2⟩ ⟨?_, ?_, ?_, by rw [em_u_row (by decide)]; exact a3.2.2.2⟩
  · rw [List.length_append, List.length_cons, List.length_append]; dsimp only [List.length]; omega
  · rw [em_u_row (by decide), e1, List.length_append, List.length_cons, List.length_append]
    dsimp only [List.length]
    congr 1 <;> omega
  · exact csq_set a3.2.2.1 em_u_self (fun j hj => em_u_ne hj)
theorem ce_lclear_draft_parts (h : ∀ I' : Nat → Nat → Int32, af 14 I I' → cw I' 14 [] false → Q none (em_SH, I', J, em_RT lw)) : em_call d 8 [.ref 14] (em_SH, I, J, em_RT lw) Q := by
  iterate 6 refine em_next rfl ?_
  refine em_done rfl ?_
  show Q none (em_SH, em_u (em_u I 14 2 (nI 0)) 14 4 0, J, em_RT lw)
  exact h _ ⟨fun a z1 _ => by rw [em_u_row z1, em_u_row z1], fun j z1 z2 => by rw [em_u_ne z2, em_u_ne z1]⟩ ⟨by decide, by rw [em_u_ne (by decide), em_u_self]; rfl, trivial, em_u_self⟩
theorem ce_begin_draft_parts {s : List Int32} {lp : Bool} (hw : cw I 14 s lp) (hl : s.length + 1 < 400) (h : ∀ I' : Nat → Nat → Int32, (∀ a, a ≠ 14 → a ≠ 15 → I' a = I a) → cw I' 14 (s ++ [-14, 0]) lp → I' 14 3 = nI (s.length + 1) → Q none (em_SH, I', J, em_RT lw)) : em_call (d + 1) 12 [.ref 14] (em_SH, I, J, em_RT lw) Q := by
  iterate 2 refine em_next rfl ?_
  refine em_inv_call rfl (ce_add_draft_parts (x := -14) hw (fun I1 a1 a2 => ?_))
  have a3 := a2 (by omega)
  rw [decide_eq_false (by decide), Bool.or_false] at a3
  have e3 : I1 14 2 = nI (s.length + 1) := by
    have := a3.2.1
    rw [List.length_append] at this
    exact this
  iterate 4 refine em_next rfl ?_
  show em_wp em_sc0 (d + 1) 12 _ _ _ (em_SH, em_u I1 14 3 (I1 14 2), J, em_RT lw) Q
  rw [e3]
  have hw2 : cw (em_u I1 14 3 (nI (s.length + 1))) 14 (s ++ [-14]) lp := ⟨a3.1, by rw [em_u_ne (by decide)]; exact a3.2.1, by rw [em_u_row (by decide)]; exact a3.2.2.1, by rw [em_u_ne (by decide)]; exact a3.2.2.2⟩
  iterate 2 refine em_next rfl ?_
  refine em_inv_call rfl (ce_add_draft_parts (x := 0) hw2 (fun I2 b1 b2 => ?_))
  have b3 := b2 (by rw [List.length_append]; exact hl)
  rw [decide_eq_false (by decide), Bool.or_false, List.append_assoc] at b3
  refine em_done rfl (h I2 (fun a z1 z2 => ?_) b3 ?_)
  · rw [b1.1 a z1 z2, em_u_row z1]; exact a1.1 a z1 z2
  · rw [b1.2 _ (by decide) (by decide), em_u_self]
theorem ce_end_draft_parts {s r : List Int32} {lp : Bool} (hw : cw I 14 (s ++ 0 :: r) lp) (hk : I 14 3 = nI s.length) (hl : (s ++ 0 :: r).length < 400) (h : ∀ I' : Nat → Nat → Int32, af 14 I I' → cw I' 14 (s ++ nI (r.length + 1) :: (r ++ [-15])) lp → Q none (em_SH, I', J, em_RT lw)) : em_call (d + 1) 13 [.ref 14] (em_SH, I, J, em_RT lw) Q := by
  iterate 2 refine em_next rfl ?_
  refine em_inv_call rfl (ce_add_draft_parts (x := -15) hw (fun I1 a1 a2 => ?_))
  have a3 := a2 hl
  rw [decide_eq_false (by decide), Bool.or_false, List.append_assoc, List.cons_append] at a3
  have ll : (s ++ 0 :: r).length = s.length + (r.length + 1) := by rw [List.length_append, List.length_cons]
  have le : (s ++ 0 :: (r ++ [-15])).length = s.length + r.length + 2 := by rw [List.length_append, List.length_cons, List.length_append]; dsimp only [List.length]; omega
  have e1 : I1 14 2 = nI (s.length + r.length + 2) := by rw [a3.2.1, le]
  have e2 : I1 14 3 = nI s.length := (a1.2 _ (by decide) (by decide)).trans hk
  iterate 5 refine em_next rfl ?_
  refine em_c_geE e2 e1 (fun z => absurd ((nI_leI (by omega) (by omega)).mp z) (by omega)) (fun _ => ?_)
  iterate 11 refine em_next rfl ?_
  refine em_iasE (k := s.length) rfl rfl e2 (by omega) (by decide) ?_
  refine em_done rfl ?_
  have e4 : I1 14 2 - I1 14 3 - 1 = nI (r.length + 1) := by
    rw [e1, e2, nI_subN (by omega), show s.length + r.length + 2 - s.length = r.length + 1 + 1 by omega, nI_p1]
  show Q none (em_SH, em_u I1 15 s.length (I1 14 2 - I1 14 3 - 1), J, em_RT lw)
  rw [e4]
  refine h _ ⟨fun a z1 z2 => by rw [em_u_row z2]; exact a1.1 a z1 z2, fun j z1 z2 => by rw [em_u_row (by decide)]; exact a1.2 j z1 z2⟩ ⟨?_, ?_, ?_, by rw [em_u_row (by decide)]; exact a3.2.2.2⟩
  · rw [List.length_append, List.length_cons, List.length_append]; dsimp only [List.length]; omega
  · rw [em_u_row (by decide), e1, List.length_append, List.length_cons, List.length_append]
    dsimp only [List.length]
    congr 1 <;> omega
  · exact csq_set a3.2.2.1 em_u_self (fun j hj => em_u_ne hj)
theorem ce_lclear_draft_chills (h : ∀ I' : Nat → Nat → Int32, af 17 I I' → cw I' 17 [] false → Q none (em_SH, I', J, em_RT lw)) : em_call d 8 [.ref 17] (em_SH, I, J, em_RT lw) Q := by
  iterate 6 refine em_next rfl ?_
  refine em_done rfl ?_
  show Q none (em_SH, em_u (em_u I 17 2 (nI 0)) 17 4 0, J, em_RT lw)
  exact h _ ⟨fun a z1 _ => by rw [em_u_row z1, em_u_row z1], fun j z1 z2 => by rw [em_u_ne z2, em_u_ne z1]⟩ ⟨by decide, by rw [em_u_ne (by decide), em_u_self]; rfl, trivial, em_u_self⟩
theorem ce_begin_draft_chills {s : List Int32} {lp : Bool} (hw : cw I 17 s lp) (hl : s.length + 1 < 400) (h : ∀ I' : Nat → Nat → Int32, (∀ a, a ≠ 17 → a ≠ 18 → I' a = I a) → cw I' 17 (s ++ [-14, 0]) lp → I' 17 3 = nI (s.length + 1) → Q none (em_SH, I', J, em_RT lw)) : em_call (d + 1) 12 [.ref 17] (em_SH, I, J, em_RT lw) Q := by
  iterate 2 refine em_next rfl ?_
  refine em_inv_call rfl (ce_add_draft_chills (x := -14) hw (fun I1 a1 a2 => ?_))
  have a3 := a2 (by omega)
  rw [decide_eq_false (by decide), Bool.or_false] at a3
  have e3 : I1 17 2 = nI (s.length + 1) := by
    have := a3.2.1
    rw [List.length_append] at this
    exact this
  iterate 4 refine em_next rfl ?_
  show em_wp em_sc0 (d + 1) 12 _ _ _ (em_SH, em_u I1 17 3 (I1 17 2), J, em_RT lw) Q
  rw [e3]
  have hw2 : cw (em_u I1 17 3 (nI (s.length + 1))) 17 (s ++ [-14]) lp := ⟨a3.1, by rw [em_u_ne (by decide)]; exact a3.2.1, by rw [em_u_row (by decide)]; exact a3.2.2.1, by rw [em_u_ne (by decide)]; exact a3.2.2.2⟩
  iterate 2 refine em_next rfl ?_
  refine em_inv_call rfl (ce_add_draft_chills (x := 0) hw2 (fun I2 b1 b2 => ?_))
  have b3 := b2 (by rw [List.length_append]; exact hl)
  rw [decide_eq_false (by decide), Bool.or_false, List.append_assoc] at b3
  refine em_done rfl (h I2 (fun a z1 z2 => ?_) b3 ?_)
  · rw [b1.1 a z1 z2, em_u_row z1]; exact a1.1 a z1 z2
  · rw [b1.2 _ (by decide) (by decide), em_u_self]
theorem ce_end_draft_chills {s r : List Int32} {lp : Bool} (hw : cw I 17 (s ++ 0 :: r) lp) (hk : I 17 3 = nI s.length) (hl : (s ++ 0 :: r).length < 400) (h : ∀ I' : Nat → Nat → Int32, af 17 I I' → cw I' 17 (s ++ nI (r.length + 1) :: (r ++ [-15])) lp → Q none (em_SH, I', J, em_RT lw)) : em_call (d + 1) 13 [.ref 17] (em_SH, I, J, em_RT lw) Q := by
  iterate 2 refine em_next rfl ?_
  refine em_inv_call rfl (ce_add_draft_chills (x := -15) hw (fun I1 a1 a2 => ?_))
  have a3 := a2 hl
  rw [decide_eq_false (by decide), Bool.or_false, List.append_assoc, List.cons_append] at a3
  have ll : (s ++ 0 :: r).length = s.length + (r.length + 1) := by rw [List.length_append, List.length_cons]
  have le : (s ++ 0 :: (r ++ [-15])).length = s.length + r.length + 2 := by rw [List.length_append, List.length_cons, List.length_append]; dsimp only [List.length]; omega
  have e1 : I1 17 2 = nI (s.length + r.length + 2) := by rw [a3.2.1, le]
  have e2 : I1 17 3 = nI s.length := (a1.2 _ (by decide) (by decide)).trans hk
  iterate 5 refine em_next rfl ?_
  refine em_c_geE e2 e1 (fun z => absurd ((nI_leI (by omega) (by omega)).mp z) (by omega)) (fun _ => ?_)
  iterate 11 refine em_next rfl ?_
  refine em_iasE (k := s.length) rfl rfl e2 (by omega) (by decide) ?_
  refine em_done rfl ?_
  have e4 : I1 17 2 - I1 17 3 - 1 = nI (r.length + 1) := by
    rw [e1, e2, nI_subN (by omega), show s.length + r.length + 2 - s.length = r.length + 1 + 1 by omega, nI_p1]
  show Q none (em_SH, em_u I1 18 s.length (I1 17 2 - I1 17 3 - 1), J, em_RT lw)
  rw [e4]
  refine h _ ⟨fun a z1 z2 => by rw [em_u_row z2]; exact a1.1 a z1 z2, fun j z1 z2 => by rw [em_u_row (by decide)]; exact a1.2 j z1 z2⟩ ⟨?_, ?_, ?_, by rw [em_u_row (by decide)]; exact a3.2.2.2⟩
  · rw [List.length_append, List.length_cons, List.length_append]; dsimp only [List.length]; omega
  · rw [em_u_row (by decide), e1, List.length_append, List.length_cons, List.length_append]
    dsimp only [List.length]
    congr 1 <;> omega
  · exact csq_set a3.2.2.1 em_u_self (fun j hj => em_u_ne hj)
theorem ce_lclear_draft_costs (h : ∀ I' : Nat → Nat → Int32, af 20 I I' → cw I' 20 [] false → Q none (em_SH, I', J, em_RT lw)) : em_call d 8 [.ref 20] (em_SH, I, J, em_RT lw) Q := by
  iterate 6 refine em_next rfl ?_
  refine em_done rfl ?_
  show Q none (em_SH, em_u (em_u I 20 2 (nI 0)) 20 4 0, J, em_RT lw)
  exact h _ ⟨fun a z1 _ => by rw [em_u_row z1, em_u_row z1], fun j z1 z2 => by rw [em_u_ne z2, em_u_ne z1]⟩ ⟨by decide, by rw [em_u_ne (by decide), em_u_self]; rfl, trivial, em_u_self⟩
theorem ce_begin_draft_costs {s : List Int32} {lp : Bool} (hw : cw I 20 s lp) (hl : s.length + 1 < 400) (h : ∀ I' : Nat → Nat → Int32, (∀ a, a ≠ 20 → a ≠ 21 → I' a = I a) → cw I' 20 (s ++ [-14, 0]) lp → I' 20 3 = nI (s.length + 1) → Q none (em_SH, I', J, em_RT lw)) : em_call (d + 1) 12 [.ref 20] (em_SH, I, J, em_RT lw) Q := by
  iterate 2 refine em_next rfl ?_
  refine em_inv_call rfl (ce_add_draft_costs (x := -14) hw (fun I1 a1 a2 => ?_))
  have a3 := a2 (by omega)
  rw [decide_eq_false (by decide), Bool.or_false] at a3
  have e3 : I1 20 2 = nI (s.length + 1) := by
    have := a3.2.1
    rw [List.length_append] at this
    exact this
  iterate 4 refine em_next rfl ?_
  show em_wp em_sc0 (d + 1) 12 _ _ _ (em_SH, em_u I1 20 3 (I1 20 2), J, em_RT lw) Q
  rw [e3]
  have hw2 : cw (em_u I1 20 3 (nI (s.length + 1))) 20 (s ++ [-14]) lp := ⟨a3.1, by rw [em_u_ne (by decide)]; exact a3.2.1, by rw [em_u_row (by decide)]; exact a3.2.2.1, by rw [em_u_ne (by decide)]; exact a3.2.2.2⟩
  iterate 2 refine em_next rfl ?_
  refine em_inv_call rfl (ce_add_draft_costs (x := 0) hw2 (fun I2 b1 b2 => ?_))
  have b3 := b2 (by rw [List.length_append]; exact hl)
  rw [decide_eq_false (by decide), Bool.or_false, List.append_assoc] at b3
  refine em_done rfl (h I2 (fun a z1 z2 => ?_) b3 ?_)
  · rw [b1.1 a z1 z2, em_u_row z1]; exact a1.1 a z1 z2
  · rw [b1.2 _ (by decide) (by decide), em_u_self]
theorem ce_end_draft_costs {s r : List Int32} {lp : Bool} (hw : cw I 20 (s ++ 0 :: r) lp) (hk : I 20 3 = nI s.length) (hl : (s ++ 0 :: r).length < 400) (h : ∀ I' : Nat → Nat → Int32, af 20 I I' → cw I' 20 (s ++ nI (r.length + 1) :: (r ++ [-15])) lp → Q none (em_SH, I', J, em_RT lw)) : em_call (d + 1) 13 [.ref 20] (em_SH, I, J, em_RT lw) Q := by
  iterate 2 refine em_next rfl ?_
  refine em_inv_call rfl (ce_add_draft_costs (x := -15) hw (fun I1 a1 a2 => ?_))
  have a3 := a2 hl
  rw [decide_eq_false (by decide), Bool.or_false, List.append_assoc, List.cons_append] at a3
  have ll : (s ++ 0 :: r).length = s.length + (r.length + 1) := by rw [List.length_append, List.length_cons]
  have le : (s ++ 0 :: (r ++ [-15])).length = s.length + r.length + 2 := by rw [List.length_append, List.length_cons, List.length_append]; dsimp only [List.length]; omega
  have e1 : I1 20 2 = nI (s.length + r.length + 2) := by rw [a3.2.1, le]
  have e2 : I1 20 3 = nI s.length := (a1.2 _ (by decide) (by decide)).trans hk
  iterate 5 refine em_next rfl ?_
  refine em_c_geE e2 e1 (fun z => absurd ((nI_leI (by omega) (by omega)).mp z) (by omega)) (fun _ => ?_)
  iterate 11 refine em_next rfl ?_
  refine em_iasE (k := s.length) rfl rfl e2 (by omega) (by decide) ?_
  refine em_done rfl ?_
  have e4 : I1 20 2 - I1 20 3 - 1 = nI (r.length + 1) := by
    rw [e1, e2, nI_subN (by omega), show s.length + r.length + 2 - s.length = r.length + 1 + 1 by omega, nI_p1]
  show Q none (em_SH, em_u I1 21 s.length (I1 20 2 - I1 20 3 - 1), J, em_RT lw)
  rw [e4]
  refine h _ ⟨fun a z1 z2 => by rw [em_u_row z2]; exact a1.1 a z1 z2, fun j z1 z2 => by rw [em_u_row (by decide)]; exact a1.2 j z1 z2⟩ ⟨?_, ?_, ?_, by rw [em_u_row (by decide)]; exact a3.2.2.2⟩
  · rw [List.length_append, List.length_cons, List.length_append]; dsimp only [List.length]; omega
  · rw [em_u_row (by decide), e1, List.length_append, List.length_cons, List.length_append]
    dsimp only [List.length]
    congr 1 <;> omega
  · exact csq_set a3.2.2.1 em_u_self (fun j hj => em_u_ne hj)
end CLAW2
