/-! the class reads -/
theorem em_cpyn {S : List (Nat × Nat)} {I : Nat → Nat → Int32} {J : Nat → Nat → Int64} {R : Nat → Nat → Option Nat} {a0 a n : Nat} : em_cpy (S, I, J, R) a0 a 0 0 n = (S, em_cpr I a0 a n, J, R) := by
  unfold em_cpy
  dsimp only
  congr 2
  funext k j
  unfold em_cpr va_cpy
  by_cases h : k = a
  · by_cases hj : j < n
    · rw [if_pos h, if_pos ⟨Nat.zero_le _, by omega⟩, if_pos ⟨h, hj⟩, Nat.zero_add, Nat.sub_zero]
    · rw [if_pos h, if_neg (fun q => hj (by omega)), if_neg (fun q => hj q.2), h]
  · rw [if_neg h, if_neg (fun q => h q.1)]
theorem hp_np {c : ek_cd} (h : hp c = false) : ek_np c := fun q hq e => by
  unfold hp at h
  have := List.any_eq_false.mp h q hq
  exact this (decide_eq_true e)
theorem lhp_nl {y : List ek_br × ek_cd} (h : lhp y = false) : ek_nl (some y) := by
  unfold lhp at h
  rw [Bool.or_eq_false_iff] at h
  refine ⟨fun b hb => ?_, hp_np h.2⟩
  have g := List.any_eq_false.mp h.1 b hb
  rw [Bool.not_eq_true, Bool.or_eq_false_iff, Bool.or_eq_false_iff] at g
  exact ⟨hp_np g.1, hp_np g.2.1, hp_np g.2.2⟩
def llp : ek_lw → Bool
  | none => false
  | some y => lhp y
theorem cL.w {I : Nat → Nat → Int32} {q k : Nat} {l : ek_lw} (h : cL I q k l) : cw I q (cfl (lsome k l).1 (lsome k l).2) (llp l) := by
  cases l with
  | none => exact h
  | some y => exact h
theorem llp_nl {l : ek_lw} (h : llp l = false) : ek_nl l := by
  cases l with
  | none => trivial
  | some y => exact lhp_nl h
/-- what copying a draft changes -/
def pcells : List Nat := [24, 25, 26, 27, 28, 30, 31, 33, 34, 36, 37]
section CREAD
variable {d lw nx : Nat} {p : em_Pn} {W W' : em_Wt} {u : Nat} {H : Nat → em_Wt} {hl : Nat → Bool} {S : Nat → em_Wt} {T : Nat} {D : em_Td} {L : Nat} {tp : Nat → Int32} {pc : Int32} {lp : Bool} {b : Nat → Nat} {I I0 I' I'' : Nat → Nat → Int32} {J J0 J' J'' : Nat → Nat → Int64} {M : em_M} {Q : Option Value → em_M → Prop}
theorem cL.of {q k : Nat} {l : ek_lw} (h : cw I q (cfl (lsome k l).1 (lsome k l).2) (llp l)) : cL I q k l := by
  cases l with
  | none => exact h
  | some y => exact h
theorem ce_lcopy_plan_lies {s : List Int32} {lp : Bool} (hw : cw I 11 s lp) (h : ∀ I' : Nat → Nat → Int32, (∀ a, a ≠ 27 → a ≠ 28 → I' a = I a) → cw I' 27 s lp → Q none (em_SH, I', J, em_RT lw)) : em_call d 14 [.ref 27, .ref 11] (em_SH, I, J, em_RT lw) Q := by
  obtain ⟨w1, w2, w3, w4⟩ := hw
  iterate 8 refine em_next rfl ?_
  show em_wp em_sc0 d 14 _ _ [] (em_cpy (em_SH, I, J, em_RT lw) 12 28 0 0 400) Q
  rw [em_cpyn]
  iterate 4 refine em_next rfl ?_
  show em_wp em_sc0 d 14 _ _ _ (em_SH, em_u (em_cpr I 12 28 400) 27 2 (em_cpr I 12 28 400 11 2), J, em_RT lw) Q
  rw [show em_cpr I 12 28 400 11 = I 11 from em_cpr_row (by decide), w2]
  iterate 3 refine em_next rfl ?_
  refine em_tp (y := em_bb lp) (by show em_u (em_cpr I 12 28 400) 27 2 (nI s.length) 11 4 = em_bb lp; rw [em_u_row (by decide), em_cpr_row (by decide)]; exact w4) ?_
  have fin : ∀ x : Int32, x = em_bb lp → Q none (em_SH, em_u (em_u (em_cpr I 12 28 400) 27 2 (nI s.length)) 27 4 x, J, em_RT lw) := fun x hx => by
    subst hx
    refine h _ (fun a z1 z2 => by rw [em_u_row z1, em_u_row z1, em_cpr_row z2]) ⟨w1, by rw [em_u_ne (by decide), em_u_self], ?_, em_u_self⟩
    rw [em_u_row (by decide), em_u_row (by decide)]
    exact w3.keep (hi := s.length) (by omega) (fun j hj => em_cpr_at (by omega))
  cases lp with
  | true =>
    iterate 1 refine em_next rfl ?_
    exact em_done rfl (fin 1 rfl)
  | false =>
    iterate 1 refine em_next rfl ?_
    exact em_done rfl (fin 0 rfl)
theorem ce_lcopy_plan_parts {s : List Int32} {lp : Bool} (hw : cw I 14 s lp) (h : ∀ I' : Nat → Nat → Int32, (∀ a, a ≠ 30 → a ≠ 31 → I' a = I a) → cw I' 30 s lp → Q none (em_SH, I', J, em_RT lw)) : em_call d 14 [.ref 30, .ref 14] (em_SH, I, J, em_RT lw) Q := by
  obtain ⟨w1, w2, w3, w4⟩ := hw
  iterate 8 refine em_next rfl ?_
  show em_wp em_sc0 d 14 _ _ [] (em_cpy (em_SH, I, J, em_RT lw) 15 31 0 0 400) Q
  rw [em_cpyn]
  iterate 4 refine em_next rfl ?_
  show em_wp em_sc0 d 14 _ _ _ (em_SH, em_u (em_cpr I 15 31 400) 30 2 (em_cpr I 15 31 400 14 2), J, em_RT lw) Q
  rw [show em_cpr I 15 31 400 14 = I 14 from em_cpr_row (by decide), w2]
  iterate 3 refine em_next rfl ?_
  refine em_tp (y := em_bb lp) (by show em_u (em_cpr I 15 31 400) 30 2 (nI s.length) 14 4 = em_bb lp; rw [em_u_row (by decide), em_cpr_row (by decide)]; exact w4) ?_
  have fin : ∀ x : Int32, x = em_bb lp → Q none (em_SH, em_u (em_u (em_cpr I 15 31 400) 30 2 (nI s.length)) 30 4 x, J, em_RT lw) := fun x hx => by
    subst hx
    refine h _ (fun a z1 z2 => by rw [em_u_row z1, em_u_row z1, em_cpr_row z2]) ⟨w1, by rw [em_u_ne (by decide), em_u_self], ?_, em_u_self⟩
    rw [em_u_row (by decide), em_u_row (by decide)]
    exact w3.keep (hi := s.length) (by omega) (fun j hj => em_cpr_at (by omega))
  cases lp with
  | true =>
    iterate 1 refine em_next rfl ?_
    exact em_done rfl (fin 1 rfl)
  | false =>
    iterate 1 refine em_next rfl ?_
    exact em_done rfl (fin 0 rfl)
theorem ce_lcopy_plan_chills {s : List Int32} {lp : Bool} (hw : cw I 17 s lp) (h : ∀ I' : Nat → Nat → Int32, (∀ a, a ≠ 33 → a ≠ 34 → I' a = I a) → cw I' 33 s lp → Q none (em_SH, I', J, em_RT lw)) : em_call d 14 [.ref 33, .ref 17] (em_SH, I, J, em_RT lw) Q := by
  obtain ⟨w1, w2, w3, w4⟩ := hw
  iterate 8 refine em_next rfl ?_
  show em_wp em_sc0 d 14 _ _ [] (em_cpy (em_SH, I, J, em_RT lw) 18 34 0 0 400) Q
  rw [em_cpyn]
  iterate 4 refine em_next rfl ?_
  show em_wp em_sc0 d 14 _ _ _ (em_SH, em_u (em_cpr I 18 34 400) 33 2 (em_cpr I 18 34 400 17 2), J, em_RT lw) Q
  rw [show em_cpr I 18 34 400 17 = I 17 from em_cpr_row (by decide), w2]
  iterate 3 refine em_next rfl ?_
  refine em_tp (y := em_bb lp) (by show em_u (em_cpr I 18 34 400) 33 2 (nI s.length) 17 4 = em_bb lp; rw [em_u_row (by decide), em_cpr_row (by decide)]; exact w4) ?_
  have fin : ∀ x : Int32, x = em_bb lp → Q none (em_SH, em_u (em_u (em_cpr I 18 34 400) 33 2 (nI s.length)) 33 4 x, J, em_RT lw) := fun x hx => by
    subst hx
    refine h _ (fun a z1 z2 => by rw [em_u_row z1, em_u_row z1, em_cpr_row z2]) ⟨w1, by rw [em_u_ne (by decide), em_u_self], ?_, em_u_self⟩
    rw [em_u_row (by decide), em_u_row (by decide)]
    exact w3.keep (hi := s.length) (by omega) (fun j hj => em_cpr_at (by omega))
  cases lp with
  | true =>
    iterate 1 refine em_next rfl ?_
    exact em_done rfl (fin 1 rfl)
  | false =>
    iterate 1 refine em_next rfl ?_
    exact em_done rfl (fin 0 rfl)
theorem ce_lcopy_plan_costs {s : List Int32} {lp : Bool} (hw : cw I 20 s lp) (h : ∀ I' : Nat → Nat → Int32, (∀ a, a ≠ 36 → a ≠ 37 → I' a = I a) → cw I' 36 s lp → Q none (em_SH, I', J, em_RT lw)) : em_call d 14 [.ref 36, .ref 20] (em_SH, I, J, em_RT lw) Q := by
  obtain ⟨w1, w2, w3, w4⟩ := hw
  iterate 8 refine em_next rfl ?_
  show em_wp em_sc0 d 14 _ _ [] (em_cpy (em_SH, I, J, em_RT lw) 21 37 0 0 400) Q
  rw [em_cpyn]
  iterate 4 refine em_next rfl ?_
  show em_wp em_sc0 d 14 _ _ _ (em_SH, em_u (em_cpr I 21 37 400) 36 2 (em_cpr I 21 37 400 20 2), J, em_RT lw) Q
  rw [show em_cpr I 21 37 400 20 = I 20 from em_cpr_row (by decide), w2]
  iterate 3 refine em_next rfl ?_
  refine em_tp (y := em_bb lp) (by show em_u (em_cpr I 21 37 400) 36 2 (nI s.length) 20 4 = em_bb lp; rw [em_u_row (by decide), em_cpr_row (by decide)]; exact w4) ?_
  have fin : ∀ x : Int32, x = em_bb lp → Q none (em_SH, em_u (em_u (em_cpr I 21 37 400) 36 2 (nI s.length)) 36 4 x, J, em_RT lw) := fun x hx => by
    subst hx
    refine h _ (fun a z1 z2 => by rw [em_u_row z1, em_u_row z1, em_cpr_row z2]) ⟨w1, by rw [em_u_ne (by decide), em_u_self], ?_, em_u_self⟩
    rw [em_u_row (by decide), em_u_row (by decide)]
    exact w3.keep (hi := s.length) (by omega) (fun j hj => em_cpr_at (by omega))
  cases lp with
  | true =>
    iterate 1 refine em_next rfl ?_
    exact em_done rfl (fin 1 rfl)
  | false =>
    iterate 1 refine em_next rfl ?_
    exact em_done rfl (fin 0 rfl)
theorem ce_pcopy {s : tl_S} (hg : tl_g s) (hS : cS b L s I J) (h : ∀ I' : Nat → Nat → Int32, (∀ a, a ∉ pcells → I' a = I a) → (I' 24 7 = nI s.n ∧ I' 24 8 = nI s.rw ∧ I' 24 9 = em_bb (decide (s.rg = 1)) ∧ I' 24 10 = nI s.bg ∧ I' 24 11 = nI s.sd) → (∀ j, j < s.n → I' 25 j = nI (s.hb j)) → (∀ j, j < 9 → I' 26 j = nI (s.co j)) → (cL I' 27 0 (s.F 0) ∧ cL I' 30 1 (s.F 1) ∧ cL I' 33 2 (s.F 2) ∧ cL I' 36 3 (s.F 3)) → Q none (em_SH, I', J, em_RT lw)) : em_call (d + 1) 32 [.ref 24, .ref 8] (em_SH, I, J, em_RT lw) Q := by
  obtain ⟨⟨a1, a2, a3, a4, a5⟩, h2, h3, -, -, l1, l2, l3, l4⟩ := hS
  have hn := hg.1
  iterate 8 refine em_next rfl ?_
  show em_wp em_sc0 (d + 1) 32 _ _ [] (em_cpy (em_SH, I, J, em_RT lw) 9 25 0 0 9) Q
  rw [em_cpyn]
  iterate 8 refine em_next rfl ?_
  show em_wp em_sc0 (d + 1) 32 _ _ [] (em_cpy (em_SH, em_cpr I 9 25 9, J, em_RT lw) 10 26 0 0 9) Q
  rw [em_cpyn]
  have r1 : ∀ a, a ≠ 25 → a ≠ 26 → em_cpr (em_cpr I 9 25 9) 10 26 9 a = I a := fun a z1 z2 => by rw [em_cpr_row z2, em_cpr_row z1]
  have hb1 : ∀ j, j < s.n → em_cpr (em_cpr I 9 25 9) 10 26 9 25 j = nI (s.hb j) := fun j hj => by rw [em_cpr_row (by decide), em_cpr_at (by omega)]; exact h2 j hj
  have co1 : ∀ j, j < 9 → em_cpr (em_cpr I 9 25 9) 10 26 9 26 j = nI (s.co j) := fun j hj => by rw [em_cpr_at hj, em_cpr_row (by decide)]; exact h3 j hj
  generalize em_cpr (em_cpr I 9 25 9) 10 26 9 = K at r1 hb1 co1 ⊢
  iterate 4 refine em_next rfl ?_
  refine em_inv_call rfl (ce_lcopy_plan_lies (cL.w (l1.keep (r1 _ (by decide) (by decide)) (r1 _ (by decide) (by decide)))) (fun I1 b1 c1 => ?_))
  iterate 4 refine em_next rfl ?_
  refine em_inv_call rfl (ce_lcopy_plan_parts (cL.w (l2.keep ((b1 _ (by decide) (by decide)).trans (r1 _ (by decide) (by decide))) ((b1 _ (by decide) (by decide)).trans (r1 _ (by decide) (by decide))))) (fun I2 b2 c2 => ?_))
  iterate 4 refine em_next rfl ?_
  refine em_inv_call rfl (ce_lcopy_plan_chills (cL.w (l3.keep (by rw [b2 _ (by decide) (by decide), b1 _ (by decide) (by decide), r1 _ (by decide) (by decide)]) (by rw [b2 _ (by decide) (by decide), b1 _ (by decide) (by decide), r1 _ (by decide) (by decide)]))) (fun I3 b3 c3 => ?_))
  iterate 4 refine em_next rfl ?_
  refine em_inv_call rfl (ce_lcopy_plan_costs (cL.w (l4.keep (by rw [b3 _ (by decide) (by decide), b2 _ (by decide) (by decide), b1 _ (by decide) (by decide), r1 _ (by decide) (by decide)]) (by rw [b3 _ (by decide) (by decide), b2 _ (by decide) (by decide), b1 _ (by decide) (by decide), r1 _ (by decide) (by decide)]))) (fun I4 b4 c4 => ?_))
  have w4 : ∀ a, a ∉ [25, 26, 27, 28, 30, 31, 33, 34, 36, 37] → I4 a = I a := fun a ha => by
    simp only [List.mem_cons, List.not_mem_nil, or_false, not_or] at ha
    obtain ⟨z1, z2, z3, z4, z5, z6, z7, z8, z9, z10⟩ := ha
    rw [b4 a z9 z10, b3 a z7 z8, b2 a z5 z6, b1 a z3 z4, r1 a z1 z2]
  have d4 : I4 8 = I 8 := w4 _ (by decide)
  have hb4 : I4 25 = K 25 := by rw [b4 _ (by decide) (by decide), b3 _ (by decide) (by decide), b2 _ (by decide) (by decide), b1 _ (by decide) (by decide)]
  have co4 : I4 26 = K 26 := by rw [b4 _ (by decide) (by decide), b3 _ (by decide) (by decide), b2 _ (by decide) (by decide), b1 _ (by decide) (by decide)]
  have k1 : cL I4 27 0 (s.F 0) := cL.keep (I := I1) (cL.of c1) (by rw [b4 _ (by decide) (by decide), b3 _ (by decide) (by decide), b2 _ (by decide) (by decide)]) (by rw [b4 _ (by decide) (by decide), b3 _ (by decide) (by decide), b2 _ (by decide) (by decide)])
  have k2 : cL I4 30 1 (s.F 1) := cL.keep (I := I2) (cL.of c2) (by rw [b4 _ (by decide) (by decide), b3 _ (by decide) (by decide)]) (by rw [b4 _ (by decide) (by decide), b3 _ (by decide) (by decide)])
  have k3 : cL I4 33 2 (s.F 2) := cL.keep (I := I3) (cL.of c3) (by rw [b4 _ (by decide) (by decide)]) (by rw [b4 _ (by decide) (by decide)])
  have k4 : cL I4 36 3 (s.F 3) := cL.of c4
  iterate 8 refine em_next rfl ?_
  show em_wp em_sc0 (d + 1) 32 _ _ _ (em_SH, em_u (em_u I4 24 7 (I4 8 7)) 24 8 (em_u I4 24 7 (I4 8 7) 8 8), J, em_RT lw) Q
  rw [show em_u I4 24 7 (I4 8 7) 8 = I 8 from (em_u_row (by decide)).trans d4, d4, a1, a2]
  iterate 3 refine em_next rfl ?_
  refine em_tp (y := em_bb (decide (s.rg = 1))) (by show em_u (em_u I4 24 7 (nI s.n)) 24 8 (nI s.rw) 8 9 = _; rw [em_u_row (by decide), em_u_row (by decide), d4]; exact a3) ?_
  generalize hrr : decide (s.rg = 1) = rr at h
  have fin : ∀ x : Int32, x = em_bb rr → em_wp em_sc0 (d + 1) 32 98 [some (.ref 24), some (.ref 8)] [] (em_SH, em_u (em_u (em_u I4 24 7 (nI s.n)) 24 8 (nI s.rw)) 24 9 x, J, em_RT lw) Q := fun x hx => by
    subst hx
    iterate 8 refine em_next rfl ?_
    refine em_done rfl ?_
    have dd : ∀ (K : Nat → Nat → Int32) (j : Nat) (x : Int32), em_u K 24 j x 8 = K 8 := fun K j x => em_u_row (by decide)
    show Q none (em_SH, em_u (em_u (em_u (em_u (em_u I4 24 7 (nI s.n)) 24 8 (nI s.rw)) 24 9 (em_bb rr)) 24 10 (em_u (em_u (em_u I4 24 7 (nI s.n)) 24 8 (nI s.rw)) 24 9 (em_bb rr) 8 10)) 24 11 (em_u (em_u (em_u (em_u I4 24 7 (nI s.n)) 24 8 (nI s.rw)) 24 9 (em_bb rr)) 24 10 (em_u (em_u (em_u I4 24 7 (nI s.n)) 24 8 (nI s.rw)) 24 9 (em_bb rr) 8 10) 8 11), J, em_RT lw)
    simp only [dd, d4, a4, a5]
    have rw5 : ∀ a, a ≠ 24 → em_u (em_u (em_u (em_u (em_u I4 24 7 (nI s.n)) 24 8 (nI s.rw)) 24 9 (em_bb rr)) 24 10 (nI s.bg)) 24 11 (nI s.sd) a = I4 a := fun a ha => by rw [em_u_row ha, em_u_row ha, em_u_row ha, em_u_row ha, em_u_row ha]
    refine h _ (fun a ha => ?_) ⟨?_, ?_, ?_, ?_, em_u_self⟩ (fun j hj => ?_) (fun j hj => ?_) ⟨k1.keep (rw5 _ (by decide)) (rw5 _ (by decide)), k2.keep (rw5 _ (by decide)) (rw5 _ (by decide)), k3.keep (rw5 _ (by decide)) (rw5 _ (by decide)), k4.keep (rw5 _ (by decide)) (rw5 _ (by decide))⟩
    · rw [rw5 a (fun e => ha (by rw [e]; decide)), w4 a (fun e => ha (List.mem_cons_of_mem _ e))]
    · rw [em_u_ne (by decide), em_u_ne (by decide), em_u_ne (by decide), em_u_ne (by decide), em_u_self]
    · rw [em_u_ne (by decide), em_u_ne (by decide), em_u_ne (by decide), em_u_self]
    · rw [em_u_ne (by decide), em_u_ne (by decide), em_u_self]
    · rw [em_u_ne (by decide), em_u_self]
    · rw [rw5 _ (by decide), hb4]; exact hb1 j hj
    · rw [rw5 _ (by decide), co4]; exact co1 j hj
  clear hrr
  cases rr with
  | true =>
    iterate 1 refine em_next rfl ?_
    exact fin 1 rfl
  | false =>
    iterate 1 refine em_next rfl ?_
    exact fin 0 rfl
theorem ce_lie_l {k m n : Nat} {hb : Nat → Int32} (hk : k + m = 9) (hn : n ≤ 9) (hh : ∀ j, j < n → I 25 j = hb j) (h0 : ∀ j, j < k → I 43 j = nI j ∧ (j < n → I 44 j = hb j) ∧ I 45 j = 0 ∧ I 46 j = 0) (h : ∀ (I' : Nat → Nat → Int32) (o : Option Value), (∀ a, a ∉ [43, 44, 45, 46] → I' a = I a) → (∀ j, j < 9 → I' 43 j = nI j ∧ (j < n → I' 44 j = hb j) ∧ I' 45 j = 0 ∧ I' 46 j = 0) → em_wp em_sc0 d 25 47 [some (.ref 42), some (.ref 24), o] [] (em_SH, I', J, em_RT lw) Q) : em_wp em_sc0 d 25 2 [some (.ref 42), some (.ref 24), some (.int (nI k))] [] (em_SH, I, J, em_RT lw) Q := by
  induction m generalizing k I with
  | zero =>
    have e : k = 9 := by omega
    subst e
    iterate 3 refine em_next rfl ?_
    refine em_c_ge (fun _ => ?_) (fun z => absurd (by decide) z)
    exact h I _ (fun _ _ => rfl) h0
  | succ m ih =>
    iterate 3 refine em_next rfl ?_
    refine em_c_geE rfl (y' := nI 9) rfl (fun z => absurd z (nI_ge (by omega) (by decide))) (fun _ => ?_)
    iterate 4 refine em_next rfl ?_
    refine em_iasE (k := k) rfl rfl rfl (by omega) (by decide) ?_
    iterate 6 refine em_next rfl ?_
    refine em_ialE (k := k) rfl rfl rfl (by omega) (by decide) ?_
    refine em_iasE (k := k) rfl rfl rfl (by omega) (by decide) ?_
    iterate 4 refine em_next rfl ?_
    refine em_iasE (k := k) rfl rfl rfl (by omega) (by decide) ?_
    iterate 4 refine em_next rfl ?_
    refine em_iasE (k := k) rfl rfl rfl (by omega) (by decide) ?_
    rw [show em_u I 43 k (nI k) 25 = I 25 from em_u_row (by decide)]
    have q : ∀ a, a ∉ [43, 44, 45, 46] → em_u (em_u (em_u (em_u I 43 k (nI k)) 44 k (I 25 k)) 45 k 0) 46 k 0 a = I a := fun a ha => by rw [em_u_row (fun e => ha (by rw [e]; decide)), em_u_row (fun e => ha (by rw [e]; decide)), em_u_row (fun e => ha (by rw [e]; decide)), em_u_row (fun e => ha (by rw [e]; decide))]
    have g := ih (k := k + 1) (I := em_u (em_u (em_u (em_u I 43 k (nI k)) 44 k (I 25 k)) 45 k 0) 46 k 0) (by omega) (fun j hj => by rw [q _ (by decide)]; exact hh j hj) (fun j hj => ?_) (fun I' o a1 a2 => h I' o (fun a ha => (a1 a ha).trans (q a ha)) a2)
    · rw [nI_succ] at g
      iterate 2 refine em_next rfl ?_
      exact g
    · by_cases e : j = k
      · subst e
        refine ⟨?_, fun z => ?_, ?_, em_u_self⟩
        · rw [em_u_row (by decide), em_u_row (by decide), em_u_row (by decide), em_u_self]
        · rw [em_u_row (by decide), em_u_row (by decide), em_u_self]; exact hh j z
        · rw [em_u_row (by decide), em_u_self]
      · have := h0 j (by omega)
        refine ⟨?_, fun z => ?_, ?_, ?_⟩
        · rw [em_u_row (by decide), em_u_row (by decide), em_u_row (by decide), em_u_ne e]; exact this.1
        · rw [em_u_row (by decide), em_u_row (by decide), em_u_ne e, em_u_row (by decide)]; exact this.2.1 z
        · rw [em_u_row (by decide), em_u_ne e, em_u_row (by decide), em_u_row (by decide)]; exact this.2.2.1
        · rw [em_u_ne e, em_u_row (by decide), em_u_row (by decide), em_u_row (by decide)]; exact this.2.2.2
theorem ce_lieDownBy {s : tl_S} (hg : tl_g s) (h1 : I 24 8 = nI s.rw) (h2 : I 24 10 = nI s.bg) (h3 : ∀ j, j < s.n → I 25 j = nI (s.hb j)) (h : ∀ I' : Nat → Nat → Int32, (∀ a, a ∉ [42, 43, 44, 45, 46] → I' a = I a) → cr I' 42 s.n (rW s) → Q none (em_SH, I', J, em_RT lw)) : em_call d 25 [.ref 42, .ref 24] (em_SH, I, J, em_RT lw) Q := by
  iterate 2 refine em_next rfl ?_
  refine ce_lie_l (k := 0) (m := 9) (n := s.n) (hb := fun j => nI (s.hb j)) (by decide) hg.1 h3 (fun j hj => absurd hj (Nat.not_lt_zero _)) (fun I1 o a1 a2 => ?_)
  iterate 11 refine em_next rfl ?_
  refine em_done rfl ?_
  have pp : ∀ (K : Nat → Nat → Int32) (j : Nat) (x : Int32), em_u K 42 j x 24 = K 24 := fun K j x => em_u_row (by decide)
  show Q none (em_SH, em_u (em_u (em_u I1 42 4 (I1 24 8)) 42 5 (em_u I1 42 4 (I1 24 8) 24 10)) 42 6 0, J, em_RT lw)
  simp only [pp, a1 24 (by decide), h1, h2]
  have q : ∀ a, a ≠ 42 → em_u (em_u (em_u I1 42 4 (nI s.rw)) 42 5 (nI s.bg)) 42 6 0 a = I1 a := fun a ha => by rw [em_u_row ha, em_u_row ha, em_u_row ha]
  have hn := hg.1
  refine h _ (fun a ha => by rw [q a (fun e => ha (by rw [e]; decide)), a1 a (fun e => ha (List.mem_cons_of_mem _ e))]) ⟨⟨hg.2.2.2, ?_, ?_, em_u_self⟩, fun b hb => ?_⟩
  · rw [em_u_ne (by decide), em_u_ne (by decide), em_u_self]; rfl
  · rw [em_u_ne (by decide), em_u_self]; rfl
  · have hb' : b < s.n := hb
    have := a2 b (by omega)
    refine ⟨?_, ?_, ?_, ?_⟩
    · rw [q _ (by decide)]; exact this.1
    · rw [q _ (by decide)]; exact this.2.1 hb'
    · rw [q _ (by decide)]; exact this.2.2.1
    · rw [q _ (by decide)]; exact this.2.2.2
theorem ce_emptySlots (h : ∀ I' : Nat → Nat → Int32, (∀ a, a ≠ 50 → I' a = I a) → (∀ i, i < 3 → I' 50 i = 0) → Q none (em_SH, I', J, em_RT lw)) : em_call d 23 [.ref 47] (em_SH, I, J, em_RT lw) Q := by
  iterate 2 refine em_next rfl ?_
  iterate 3 refine em_next rfl ?_
  refine em_c_ge (fun z => absurd z (by decide)) (fun _ => ?_)
  iterate 4 refine em_next rfl ?_
  refine em_basE (k := 0) (y := 0) rfl rfl rfl (by decide) (by decide) rfl ?_
  iterate 2 refine em_next rfl ?_
  iterate 3 refine em_next rfl ?_
  refine em_c_ge (fun z => absurd z (by decide)) (fun _ => ?_)
  iterate 4 refine em_next rfl ?_
  refine em_basE (k := 1) (y := 0) rfl rfl rfl (by decide) (by decide) rfl ?_
  iterate 2 refine em_next rfl ?_
  iterate 3 refine em_next rfl ?_
  refine em_c_ge (fun z => absurd z (by decide)) (fun _ => ?_)
  iterate 4 refine em_next rfl ?_
  refine em_basE (k := 2) (y := 0) rfl rfl rfl (by decide) (by decide) rfl ?_
  iterate 2 refine em_next rfl ?_
  iterate 3 refine em_next rfl ?_
  refine em_c_ge (fun _ => ?_) (fun z => absurd (by decide) z)
  refine em_done rfl (h _ (fun a ha => by rw [em_u_row ha, em_u_row ha, em_u_row ha]) (fun i hi => ?_))
  rcases (show i = 0 ∨ i = 1 ∨ i = 2 by omega) with rfl | rfl | rfl
  · rw [em_u_ne (by decide), em_u_ne (by decide), em_u_self]
  · rw [em_u_ne (by decide), em_u_self]
  · exact em_u_self
/-- what a reading leaves as it was -/
theorem CI.rd (h : CI I lp nx p W u H hl S T D L tp pc) (he : ∀ a, a ∉ [1, 2, 4, 5] ++ ycells → I' a = I a) (h1 : I' 2 5 = nI 0) {pc' : Int32} (h2 : I' 1 11 = pc') : CI I' lp nx p W u H hl S T D 0 tp pc' := by
  obtain ⟨g1, g2, g3, g4, g5, ⟨g6, g7, g8, g9, g10⟩, g11, g12, g13, g14⟩ := h
  have hd : ∀ a ∈ cp_rows, a ∉ [1, 2, 4, 5] ++ ycells := by decide
  have hi : ∀ a, 41 < a → I' a = I a := fun a ha => he a (by simp [ycells]; omega)
  refine ⟨g1.keep (fun a ha => he a (hd a ha)), ⟨by rw [he _ (by decide)]; exact g2.1, g2.2⟩, g3.keep (fun a z1 z2 => hi a (by omega)), fun t ht b hb => by rw [hi _ (by decide)]; exact g4 t ht b hb, by rw [he _ (by decide)]; exact g5, ⟨g6, g7, by rw [hi _ (by decide)]; exact g8, by rw [hi _ (by decide)]; exact g9, fun i hh => (g10 i hh).keep (fun a z1 z2 => hi a (by omega))⟩, fun s hs => ⟨by rw [hi _ (by decide)]; exact (g11 s hs).1, fun z => ((g11 s hs).2 z).keep (fun a z1 z2 => hi a (by omega))⟩, ?_, ⟨by decide, h1, fun i hi => absurd hi (Nat.not_lt_zero _)⟩, h2⟩
  unfold cs_T
  rw [hi 266 (by decide), hi 267 (by decide), hi 268 (by decide), hi 269 (by decide)]
  exact g12
def cR_o (nx : Nat) (lp : Bool) (p : em_Pn) (W : em_Wt) (u : Nat) (H : Nat → em_Wt) (hl : Nat → Bool) (S : Nat → em_Wt) (T : Nat) (D : em_Td) (tp : Nat → Int32) (I : Nat → Nat → Int32) (J : Nat → Nat → Int64) (Q : Option Value → em_M → Prop) (r : tl_E ⊕ tl_S) : Prop := match r with
  | .inl e => ∀ (I' : Nat → Nat → Int32) (J' : Nat → Nat → Int64) (lw : Nat), (∀ a, 284 ≤ a → I' a = I a) → (∀ a, 284 ≤ a → J' a = J a) → ck_J J' → CI I' lp nx p W u H hl S T D 0 tp (nI e.2) → Q (some (.int (nI e.1))) (em_SH, I', J', em_RT lw)
  | .inr s => ∀ (I' : Nat → Nat → Int32) (J' : Nat → Nat → Int64) (lw : Nat), (∀ a, 284 ≤ a → I' a = I a) → (∀ a, 284 ≤ a → J' a = J a) → ck_J J' → CI I' (llp (s.F 0)) nx (rp s) (rW s) 0 H (fun _ => false) S 0 D 0 tp (-1) → Q (some (.int 0)) (em_SH, I', J', em_RT lw)
theorem vf.hi (h : vf I I' J J') : (∀ a, 41 < a → I' a = I a) ∧ ∀ a, 41 < a → J' a = J a := ⟨fun a ha => h.1 a (by simp [vcells, ycells]; omega), fun a ha => h.2.2 a (by omega) (by omega)⟩
theorem vf.K (h : vf I I' J J') (hK : ck_J J) : ck_J J' := fun k hk => by rw [h.2.2 _ (by decide) (by decide)]; exact hK k hk
/-- the class reads -/
theorem ca_read (hC : CI I lp nx p W u H hl S T D L tp pc) (hK : ck_J J) (he : ∀ e, tl_read (bt tp) L = .inl e → 1 ≤ e.1 ∧ e.1 < 9) (hs : ∀ s, tl_read (bt tp) L = .inr s → tl_v s ∧ tl_g s) (h : cR_o nx lp p W u H hl S T D tp I J Q (tl_read (bt tp) L)) : em_call (d + 25) 124 [.ref 1] (em_SH, I, J, em_RT lw) Q := by
  obtain ⟨hL, tL, tT⟩ := hC.2.2.2.2.2.2.2.2.1
  have hX : ct_X (bt tp) L I := ⟨hL, tL, fun j hj => by rw [tT j hj]; exact bt_ok tp j⟩
  iterate 2 refine em_next rfl ?_
  refine em_inv_call rfl (ce_write hX hK ?_)
  have psF : ∀ (K : Nat → Nat → Int32) (x y : Int32), ∀ a, a ≠ 1 → a ≠ 2 → em_u (em_u K 1 11 x) 2 5 y a = K a := fun K x y a z1 z2 => by rw [em_u_row z2, em_u_row z1]
  cases hr : tl_read (bt tp) L with
  | inl e =>
    rw [hr] at h
    have he1 := he e hr
    intro I1 J1 lw1 a1 a2
    have ne : ¬ nI e.1 = 0 := nI_ne0 he1.1 (by omega)
    iterate 4 refine em_next rfl ?_
    refine em_z_ne (fun _ => ?_) (fun z => absurd z ne)
    iterate 8 refine em_next rfl ?_
    show em_wp em_sc0 (d + 25) 124 _ _ _ (em_SH, em_u (em_u I1 1 11 (I1 40 7)) 2 5 0, J1, em_RT lw1) Q
    rw [a2]
    iterate 2 refine em_next rfl ?_
    refine em_z_ne (fun _ => ?_) (fun z => absurd z ne)
    iterate 1 refine em_next rfl ?_
    refine em_done rfl (h _ J1 lw1 (fun a ha => by rw [psF _ _ _ a (by omega) (by omega)]; exact a1.hi.1 a (by omega)) (fun a ha => a1.hi.2 a (by omega)) (a1.K hK) (hC.rd (fun a ha => ?_) em_u_self ?_))
    · rw [psF _ _ _ a (fun e => ha (by rw [e]; decide)) (fun e => ha (by rw [e]; decide))]
      refine a1.1 a (fun e => ha ?_)
      have hd : ∀ a ∈ vcells, a ∈ [1, 2, 4, 5] ++ ycells := by decide
      exact hd a e
    · rw [em_u_row (by decide), em_u_self]
  | inr s =>
    rw [hr] at h
    obtain ⟨hv, hg⟩ := hs s hr
    intro I1 J1 lw1 a1 a2
    iterate 4 refine em_next rfl ?_
    refine em_z_ne (fun z => absurd rfl z) (fun _ => ?_)
    iterate 7 refine em_next rfl ?_
    show em_wp em_sc0 (d + 25) 124 _ _ _ (em_SH, em_u (em_u I1 1 11 (-1)) 2 5 0, J1, em_RT lw1) Q
    have q1 := psF I1 (-1) 0
    have t1 : em_u (em_u I1 1 11 (-1)) 2 5 0 2 5 = nI 0 := em_u_self
    have f1 : em_u (em_u I1 1 11 (-1)) 2 5 0 1 11 = -1 := by rw [em_u_row (by decide), em_u_self]
    generalize em_u (em_u I1 1 11 (-1)) 2 5 0 = K1 at q1 t1 f1 ⊢
    have S1 : cS (bt tp) L s K1 J1 := by
      obtain ⟨y1, y2, y3, y4, y5, y6, y7, y8, y9⟩ := a2
      refine ⟨?_, ?_, ?_, y4, ?_, y6.keep (q1 _ (by decide) (by decide)) (q1 _ (by decide) (by decide)), y7.keep (q1 _ (by decide) (by decide)) (q1 _ (by decide) (by decide)), y8.keep (q1 _ (by decide) (by decide)) (q1 _ (by decide) (by decide)), y9.keep (q1 _ (by decide) (by decide)) (q1 _ (by decide) (by decide))⟩
      · rw [q1 _ (by decide) (by decide)]; exact y1
      · rw [q1 _ (by decide) (by decide)]; exact y2
      · rw [q1 _ (by decide) (by decide)]; exact y3
      · rw [q1 _ (by decide) (by decide)]; exact y5
    iterate 2 refine em_next rfl ?_
    refine em_z_ne (fun z => absurd rfl z) (fun _ => ?_)
    iterate 4 refine em_next rfl ?_
    refine em_inv_call rfl (ce_pcopy hg S1 (fun I2 b1 b2 b3 b4 b5 => ?_))
    iterate 4 refine em_next rfl ?_
    refine em_inv_call rfl (ce_lieDownBy hg b2.2.1 b2.2.2.2.1 b3 (fun I3 c1 c2 => ?_))
    iterate 2 refine em_next rfl ?_
    refine em_inv_call rfl ?_
    show em_call (d + 24) 19 [.ref 47] (em_SH, I3, J1, em_RT lw1) _
    iterate 3 refine em_next rfl ?_
    refine em_done rfl ?_
    show em_wp em_sc0 (d + 25) 124 _ _ _ (em_SH, em_u I3 47 4 0, J1, em_RT lw1) Q
    iterate 2 refine em_next rfl ?_
    refine em_inv_call rfl (ce_emptySlots (fun I4 d1 d2 => ?_))
    iterate 2 refine em_next rfl ?_
    refine em_inv_call rfl ?_
    show em_call (d + 24) 89 [.ref 266] (em_SH, I4, J1, em_RT lw1) _
    iterate 3 refine em_next rfl ?_
    refine em_done rfl ?_
    show em_wp em_sc0 (d + 25) 124 _ _ _ (em_SH, em_u I4 266 3 0, J1, em_RT lw1) Q
    iterate 2 refine em_next rfl ?_
    refine em_inv_call rfl (ce_forgetRules ?_)
    iterate 1 refine em_next rfl ?_
    -- all changed rows
    have w : ∀ a, a ∉ pcells ++ [42, 43, 44, 45, 46, 47, 50, 266, 276] → em_flr (em_u I4 266 3 0) 276 216 (-1) a = K1 a := fun a ha => by
      rw [em_flr_row (fun e => ha (by rw [e]; decide)), em_u_row (fun e => ha (by rw [e]; decide)), d1 a (fun e => ha (by rw [e]; decide)), em_u_row (fun e => ha (by rw [e]; decide)), c1 a (fun e => ha (List.mem_append_right _ (by revert e; simp; omega))), b1 a (fun e => ha (List.mem_append_left _ e))]
    have pw : ∀ a ∈ pcells, em_flr (em_u I4 266 3 0) 276 216 (-1) a = I2 a := fun a ha => by
      have hd : ∀ a ∈ pcells, a ≠ 276 ∧ a ≠ 266 ∧ a ≠ 50 ∧ a ≠ 47 ∧ a ∉ [42, 43, 44, 45, 46] := by decide
      obtain ⟨z1, z2, z3, z4, z5⟩ := hd a ha
      rw [em_flr_row z1, em_u_row z2, d1 a z3, em_u_row z4, c1 a z5]
    have nw : ∀ a, 42 ≤ a → a ≤ 46 → em_flr (em_u I4 266 3 0) 276 216 (-1) a = I3 a := fun a z1 z2 => by
      rw [em_flr_row (by omega), em_u_row (by omega), d1 a (by omega), em_u_row (by omega)]
    have mm : ∀ j, em_flr (em_u I4 266 3 0) 276 216 (-1) 47 j = em_u I3 47 4 0 47 j := fun j => by
      rw [em_flr_row (by decide), em_u_row (by decide), d1 _ (by decide)]
    have m3 : I3 47 = K1 47 := by rw [c1 _ (by decide), b1 _ (by decide)]
    obtain ⟨g1, g2, g3, g4, g5, ⟨g6, g7, g8, g9, g10⟩, g11, g12, g13, g14⟩ := hC
    have lawk : ∀ k, ek_wl (s.F k) := hv.2.2
    refine em_done rfl (h _ J1 lw1 (fun a ha => ?_) (fun a ha => a1.hi.2 a (by omega)) (a1.K hK) ⟨⟨⟨hg.1, by rw [pw _ (by decide)]; exact b2.1, by rw [pw _ (by decide)]; exact b2.2.2.1⟩, fun b hb => ?_, ?_, ?_, ?_, ?_⟩, ⟨?_, lsem_ind (lawk 0) (fun e => llp_nl e)⟩, c2.keep (fun a z1 z2 => nw a z1 z2), cd_0.R hg.1 (fun j hj => em_flr_at hj), ⟨by rw [pw _ (by decide)]; exact b2.2.2.2.2, by rw [pw _ (by decide)]; exact b2.2.2.2.1⟩, ⟨by decide, g7, ?_, ?_, fun i hi => absurd hi (Nat.not_lt_zero _)⟩, fun i hi => ⟨?_, fun e => absurd (show false = true from e) (by decide)⟩, ⟨⟨by decide, ?_⟩, fun i hi => absurd hi (Nat.not_lt_zero _)⟩, ⟨by decide, ?_, fun i hi => absurd hi (Nat.not_lt_zero _)⟩, ?_⟩)
    · rw [w a (by simp [pcells]; omega), q1 a (by omega) (by omega)]; exact a1.hi.1 a (by omega)
    · rw [pw _ (by decide)]; exact b4 b (by have := hg.1; have hb' : b < s.n := hb; omega)
    · have c := cL.w b5.1
      exact (cp_law_plan_lies (by decide) (lawk 0) c.2.1 c.1 c.2.2.1).keep (pw _ (by decide)) (pw _ (by decide))
    · have c := cL.w b5.2.1
      exact (cp_law_plan_parts (by decide) (lawk 1) c.2.1 c.1 c.2.2.1).keep (pw _ (by decide)) (pw _ (by decide))
    · have c := cL.w b5.2.2.1
      exact (cp_law_plan_chills (by decide) (lawk 2) c.2.1 c.1 c.2.2.1).keep (pw _ (by decide)) (pw _ (by decide))
    · have c := cL.w b5.2.2.2
      exact (cp_law_plan_costs (by decide) (lawk 3) c.2.1 c.1 c.2.2.1).keep (pw _ (by decide)) (pw _ (by decide))
    · rw [pw _ (by decide)]; exact (cL.w b5.1).2.2.2
    · rw [mm, em_u_ne (by decide), m3, q1 _ (by decide) (by decide), a1.hi.1 _ (by decide)]; exact g8
    · rw [mm, em_u_self]; rfl
    · rw [em_flr_row (by decide), em_u_row (by decide)]; exact d2 i hi
    · rw [em_flr_row (by decide), em_u_self]; rfl
    · rw [w _ (by decide)]; exact t1
    · rw [w _ (by decide)]; exact f1
end CREAD
