/-! the reference's sums -/
def mw (g : Nat → Int32) : List Nat → Prop
  | [] => True
  | x :: W => g W.length = nI x ∧ mw g W
theorem mw.keep {g g' : Nat → Int32} {W : List Nat} (h : mw g W) (he : ∀ j, j < W.length → g' j = g j) : mw g' W := by
  induction W with
  | nil => trivial
  | cons x W ih =>
    rw [List.length_cons] at he
    exact ⟨(he _ (by omega)).trans h.1, ih h.2 (fun j hj => he j (by omega))⟩
def fl (p : List Nat) : ek_cd := p.map (fun w => (rd_op w, 0))
theorem fl_len {p : List Nat} : (fl p).length = p.length := by unfold fl; exact List.length_map _
/-- a sum's frame -/
def ef (sd C0 : Nat) (I0 I : Nat → Nat → Int32) : Prop := (∀ a, a ∉ [284, 311, 309, 310] → I a = I0 a) ∧ (∀ j, j ∉ [11, 12, 13, 14, 43, 39] → I 284 j = I0 284 j) ∧ ∀ j, ¬ (420 * sd + C0 ≤ j ∧ j < 420 * sd + 420) → I 309 j = I0 309 j ∧ I 310 j = I0 310 j
def mc (sd C0 : Nat) (I0 I : Nat → Nat → Int32) (n : Nat) (W : List Nat) (E : ek_cd) : Prop := ef sd C0 I0 I ∧ (I 284 12 = nI n ∧ I 284 43 = nI W.length ∧ mw (I 311) W) ∧ (I 284 39 = nI (420 * sd + C0 + E.length) ∧ mcd I (420 * sd + C0) E) ∧ C0 + E.length + W.length ≤ 402 ∧ ∀ w ∈ W, w = 6 ∨ w = 8 ∨ w = 9 ∨ w = 10 ∨ w = 15
/-- what a step within a sum keeps -/
def eg (I I' : Nat → Nat → Int32) : Prop := (∀ a, a ∉ [284, 311, 309, 310] → I' a = I a) ∧ ∀ j, j ∉ [39, 43, 12] → I' 284 j = I 284 j
theorem eg.rf {I : Nat → Nat → Int32} : eg I I := ⟨fun _ _ => rfl, fun _ _ => rfl⟩
theorem eg.tr {I I' I'' : Nat → Nat → Int32} (h : eg I I') (h' : eg I' I'') : eg I I'' := ⟨fun a z => (h'.1 a z).trans (h.1 a z), fun j hj => (h'.2 j hj).trans (h.2 j hj)⟩
theorem mcd_app {I : Nat → Nat → Int32} {a : Nat} {c e : ek_cd} : mcd I a (c ++ e) ↔ mcd I a c ∧ mcd I (a + c.length) e := by
  induction c generalizing a with
  | nil => exact ⟨fun h => ⟨trivial, h⟩, fun h => h.2⟩
  | cons q c ih =>
    rw [List.cons_append, mcd, mcd, ih, List.length_cons, show a + 1 + c.length = a + (c.length + 1) by omega, and_assoc, and_assoc]
section MEXP
variable {d lw : Nat} {b : Nat → Nat} {L nT sd C0 : Nat} {I I0 I' I'' : Nat → Nat → Int32} {J J0 J' J'' : Nat → Nat → Int64} {M : em_M} {Q : Option Value → em_M → Prop}
theorem mat.eg {t : Nat} (h : mat b L t I) (f : eg I I') : mat b L t I' := h.keep (f.2 _ (by decide)) (f.2 _ (by decide))
theorem mfl.eg {e : tl_E} (h : mfl b L I e) (f : eg I I') : mfl b L I' e := h.keep (f.2 _ (by decide)) (f.2 _ (by decide))
theorem mx.eg (h : mx b L nT I J) (f : eg I I') : mx b L nT I' J := h.keep (f.1 _ (by decide)) (f.1 _ (by decide)) (f.1 _ (by decide)) rfl
theorem mx.ef (h : mx b L nT I0 J) (f : ef sd C0 I0 I) : mx b L nT I J := h.keep (f.1 _ (by decide)) (f.1 _ (by decide)) (f.1 _ (by decide)) rfl
/-- small steps keep the rest of a sum -/
theorem mc.g {n : Nat} {W : List Nat} {E : ek_cd} (h : mc sd C0 I0 I n W E) (f : mg I I') : mc sd C0 I0 I' n W E := by
  obtain ⟨⟨h1, h2, h3⟩, ⟨h4, h5, h6⟩, ⟨h7, h8⟩, h9, h10⟩ := h
  have r : ∀ a, a ≠ 284 → I' a = I a := f.1
  refine ⟨⟨fun a ha => by rw [r a (fun e => ha (by rw [e]; decide))]; exact h1 a ha, fun j hj => ?_, fun j hj => by rw [r _ (by decide), r _ (by decide)]; exact h3 j hj⟩, ⟨(f.2 _ (by decide)).trans h4, (f.2 _ (by decide)).trans h5, by rw [r _ (by decide)]; exact h6⟩, ⟨(f.2 _ (by decide)).trans h7, h8.keep (lo := 0) (hi := 420 * sd + C0 + E.length) (by omega) (by omega) (fun j _ _ => by rw [r _ (by decide), r _ (by decide)]; exact ⟨rfl, rfl⟩)⟩, h9, h10⟩
  rw [f.2 j (fun e => hj (by revert e; simp; omega))]
  exact h2 j hj
theorem me_emit {n k v : Nat} {W : List Nat} {E : ek_cd} (hsd : sd < 2) (h0 : mc sd C0 I0 I n W E) (hb : C0 + E.length + 1 + W.length ≤ 402) (h : ∀ I' : Nat → Nat → Int32, mc sd C0 I0 I' n W (E ++ [(k, v)]) → eg I I' → Q none (em_SH, I', J, em_RT lw)) : em_call d 195 [.ref 284, .int (nI k), .int (nI v)] (em_SH, I, J, em_RT lw) Q := by
  obtain ⟨⟨h1, h2, h3⟩, ⟨h4, h5, h6⟩, ⟨h7, h8⟩, h9, h10⟩ := h0
  iterate 5 refine em_next rfl ?_
  refine em_iasE (k := 420 * sd + C0 + E.length) rfl rfl h7 (by omega) (by decide) ?_
  iterate 5 refine em_next rfl ?_
  refine em_iasE (k := 420 * sd + C0 + E.length) rfl rfl h7 (by omega) (by decide) ?_
  iterate 6 refine em_next rfl ?_
  refine em_done rfl ?_
  show Q none (em_SH, em_u (em_u (em_u I 309 (420 * sd + C0 + E.length) (nI k)) 310 (420 * sd + C0 + E.length) (nI v)) 284 39 (I 284 39 + 1), J, em_RT lw)
  refine h _ ⟨⟨fun a ha => ?_, fun j hj => ?_, fun j hj => ?_⟩, ⟨?_, ?_, ?_⟩, ⟨?_, ?_⟩, ?_, h10⟩ ⟨fun a ha => ?_, fun j hj => ?_⟩
  · rw [em_u_row (fun e => ha (by rw [e]; decide)), em_u_row (fun e => ha (by rw [e]; decide)), em_u_row (fun e => ha (by rw [e]; decide))]
    exact h1 a ha
  · rw [em_u_ne (fun e => hj (by rw [e]; decide)), em_u_row (by decide), em_u_row (by decide)]
    exact h2 j hj
  · refine ⟨?_, ?_⟩
    · rw [em_u_row (by decide), em_u_row (by decide), em_u_ne (by omega)]
      exact (h3 j hj).1
    · rw [em_u_row (by decide), em_u_ne (by omega), em_u_row (by decide)]
      exact (h3 j hj).2
  · rw [em_u_ne (by decide), em_u_row (by decide), em_u_row (by decide)]; exact h4
  · rw [em_u_ne (by decide), em_u_row (by decide), em_u_row (by decide)]; exact h5
  · rw [em_u_row (by decide), em_u_row (by decide), em_u_row (by decide)]; exact h6
  · rw [em_u_self, h7, List.length_append, ← nI_succ]; rfl
  · rw [mcd_app]
    refine ⟨h8.keep (lo := 0) (hi := 420 * sd + C0 + E.length) (by omega) (by omega) (fun j _ hj => ⟨?_, ?_⟩), ?_, ?_, trivial⟩
    · rw [em_u_row (by decide), em_u_row (by decide), em_u_ne (by omega)]
    · rw [em_u_row (by decide), em_u_ne (by omega), em_u_row (by decide)]
    · rw [em_u_row (by decide), em_u_row (by decide), em_u_self]
    · rw [em_u_row (by decide), em_u_self]
  · rw [List.length_append]; dsimp only [List.length]; omega
  · rw [em_u_row (fun e => ha (by rw [e]; decide)), em_u_row (fun e => ha (by rw [e]; decide)), em_u_row (fun e => ha (by rw [e]; decide))]
  · rw [em_u_ne (fun e => hj (by rw [e]; decide)), em_u_row (by decide), em_u_row (by decide)]
/-- a stack's top is changed -/
theorem mc.pop {n w : Nat} {W : List Nat} {E : ek_cd} {x : Int32} (h : mc sd C0 I0 I n (w :: W) E) (hx : x = nI W.length) : mc sd C0 I0 (em_u I 284 43 x) n W E ∧ eg I (em_u I 284 43 x) := by
  obtain ⟨⟨h1, h2, h3⟩, ⟨h4, h5, h6⟩, ⟨h7, h8⟩, h9, h10⟩ := h
  rw [List.length_cons] at h9
  refine ⟨⟨⟨fun a ha => ?_, fun j hj => ?_, fun j hj => ?_⟩, ⟨?_, ?_, ?_⟩, ⟨?_, ?_⟩, by omega, fun y hy => h10 y (List.mem_cons_of_mem _ hy)⟩, fun a ha => ?_, fun j hj => ?_⟩
  · rw [em_u_row (fun e => ha (by rw [e]; decide))]; exact h1 a ha
  · rw [em_u_ne (fun e => hj (by rw [e]; decide))]; exact h2 j hj
  · rw [em_u_row (by decide), em_u_row (by decide)]; exact h3 j hj
  · rw [em_u_ne (by decide)]; exact h4
  · rw [em_u_self]; exact hx
  · rw [em_u_row (by decide)]; exact h6.2
  · rw [em_u_ne (by decide)]; exact h7
  · exact h8.keep (lo := 0) (hi := 420 * sd + C0 + E.length) (by omega) (by omega) (fun j _ _ => by rw [em_u_row (by decide), em_u_row (by decide)]; exact ⟨rfl, rfl⟩)
  · rw [em_u_row (fun e => ha (by rw [e]; decide))]
  · rw [em_u_ne (fun e => hj (by rw [e]; decide))]
theorem mc.push {n w : Nat} {W : List Nat} {E : ek_cd} {x y : Int32} (h : mc sd C0 I0 I n W E) (hx : x = nI (W.length + 1)) (hy : y = nI w) (hw : w = 6 ∨ w = 8 ∨ w = 9 ∨ w = 10 ∨ w = 15) (hb : C0 + E.length + W.length + 1 ≤ 402) : mc sd C0 I0 (em_u (em_u I 311 W.length y) 284 43 x) n (w :: W) E ∧ eg I (em_u (em_u I 311 W.length y) 284 43 x) := by
  obtain ⟨⟨h1, h2, h3⟩, ⟨h4, h5, h6⟩, ⟨h7, h8⟩, h9, h10⟩ := h
  refine ⟨⟨⟨fun a ha => ?_, fun j hj => ?_, fun j hj => ?_⟩, ⟨?_, ?_, ?_, ?_⟩, ⟨?_, ?_⟩, by rw [List.length_cons]; omega, fun y hy => ?_⟩, fun a ha => ?_, fun j hj => ?_⟩
  · rw [em_u_row (fun e => ha (by rw [e]; decide)), em_u_row (fun e => ha (by rw [e]; decide))]; exact h1 a ha
  · rw [em_u_ne (fun e => hj (by rw [e]; decide)), em_u_row (by decide)]; exact h2 j hj
  · rw [em_u_row (by decide), em_u_row (by decide), em_u_row (by decide), em_u_row (by decide)]; exact h3 j hj
  · rw [em_u_ne (by decide), em_u_row (by decide)]; exact h4
  · rw [em_u_self]; exact hx
  · rw [em_u_row (by decide), em_u_self]; exact hy
  · rw [em_u_row (by decide)]; exact h6.keep (fun j hj => em_u_ne (by omega))
  · rw [em_u_ne (by decide), em_u_row (by decide)]; exact h7
  · exact h8.keep (lo := 0) (hi := 420 * sd + C0 + E.length) (by omega) (by omega) (fun j _ _ => by rw [em_u_row (by decide), em_u_row (by decide), em_u_row (by decide), em_u_row (by decide)]; exact ⟨rfl, rfl⟩)
  · rcases List.mem_cons.mp hy with rfl | hy
    · exact hw
    · exact h10 y hy
  · rw [em_u_row (fun e => ha (by rw [e]; decide)), em_u_row (fun e => ha (by rw [e]; decide))]
  · rw [em_u_ne (fun e => hj (by rw [e]; decide)), em_u_row (by decide)]
theorem mc.op {n m : Nat} {W : List Nat} {E : ek_cd} {x : Int32} (h : mc sd C0 I0 I n W E) (hx : x = nI m) : mc sd C0 I0 (em_u I 284 12 x) m W E ∧ eg I (em_u I 284 12 x) := by
  obtain ⟨⟨h1, h2, h3⟩, ⟨h4, h5, h6⟩, ⟨h7, h8⟩, h9, h10⟩ := h
  refine ⟨⟨⟨fun a ha => ?_, fun j hj => ?_, fun j hj => ?_⟩, ⟨?_, ?_, ?_⟩, ⟨?_, ?_⟩, h9, h10⟩, fun a ha => ?_, fun j hj => ?_⟩
  · rw [em_u_row (fun e => ha (by rw [e]; decide))]; exact h1 a ha
  · rw [em_u_ne (fun e => hj (by rw [e]; decide))]; exact h2 j hj
  · rw [em_u_row (by decide), em_u_row (by decide)]; exact h3 j hj
  · rw [em_u_self]; exact hx
  · rw [em_u_ne (by decide)]; exact h5
  · rw [em_u_row (by decide)]; exact h6
  · rw [em_u_ne (by decide)]; exact h7
  · exact h8.keep (lo := 0) (hi := 420 * sd + C0 + E.length) (by omega) (by omega) (fun j _ _ => by rw [em_u_row (by decide), em_u_row (by decide)]; exact ⟨rfl, rfl⟩)
  · rw [em_u_row (fun e => ha (by rw [e]; decide))]
  · rw [em_u_ne (fun e => hj (by rw [e]; decide))]
/-- what waits comes out -/
theorem me_out_l {n : Nat} {st : Bool} {p W : List Nat} {E : ek_cd} {o : Option Value} (hsd : sd < 2) (hp : ∀ w ∈ p, w = 10 ∨ w = 15 ∨ (st = false ∧ (w = 8 ∨ w = 9))) (h0 : W = [] ∨ ∃ x r, W = x :: r ∧ (x = 6 ∨ (st = true ∧ (x = 8 ∨ x = 9)))) (hl : (p ++ W).length ≤ 64) (hc : mc sd C0 I0 I n (p ++ W) E) (h : ∀ I' : Nat → Nat → Int32, mc sd C0 I0 I' n W (E ++ fl p) → eg I I' → Q none (em_SH, I', J, em_RT lw)) : em_wp em_sc0 (d + 1) 196 0 [some (.ref 284), some (.int (em_bb st)), o] [] (em_SH, I, J, em_RT lw) Q := by
  induction p generalizing E I o with
  | nil =>
    rw [List.nil_append] at hc hl
    have h' := h I (by rw [show fl [] = [] from rfl, List.append_nil]; exact hc) eg.rf
    have hc2 := hc.2.1
    iterate 3 refine em_next rfl ?_
    rcases h0 with rfl | ⟨x, r, rfl, hx⟩
    · refine em_z_leE hc2.2.1 (fun _ => ?_) (fun z => absurd (by decide) z)
      exact em_done rfl h'
    · rw [List.length_cons] at hl hc2
      refine em_z_leE hc2.2.1 (fun z => absurd z (nI_nle (by omega) (by omega))) (fun _ => ?_)
      iterate 6 refine em_next rfl ?_
      refine em_ialE (k := r.length) rfl rfl (by show I 284 43 - 1 = _; rw [hc2.2.1, nI_p1]) (by omega) (by decide) ?_
      refine em_tp hc2.2.2.1 ?_
      iterate 1 refine em_next rfl ?_
      rcases hx with rfl | ⟨rfl, rfl | rfl⟩
      · iterate 3 refine em_next rfl ?_
        refine em_c_eq (fun _ => ?_) (fun z => absurd rfl z)
        exact em_done rfl h'
      · iterate 3 refine em_next rfl ?_
        refine em_c_eq (fun z => absurd z (by decide)) (fun _ => ?_)
        iterate 2 refine em_next rfl ?_
        refine em_z_eq (fun z => absurd z (by decide)) (fun _ => ?_)
        iterate 3 refine em_next rfl ?_
        refine em_c_eq (fun _ => ?_) (fun z => absurd rfl z)
        exact em_done rfl h'
      · iterate 3 refine em_next rfl ?_
        refine em_c_eq (fun z => absurd z (by decide)) (fun _ => ?_)
        iterate 2 refine em_next rfl ?_
        refine em_z_eq (fun z => absurd z (by decide)) (fun _ => ?_)
        iterate 3 refine em_next rfl ?_
        refine em_c_eq (fun z => absurd z (by decide)) (fun _ => ?_)
        iterate 3 refine em_next rfl ?_
        refine em_c_ne (fun z => absurd rfl z) (fun _ => ?_)
        exact em_done rfl h'
  | cons w p ih =>
    rw [List.cons_append] at hc hl
    rw [List.length_cons] at hl
    have hc2 := hc.2.1
    rw [List.length_cons] at hc2
    have hb := hc.2.2.2.1
    rw [List.length_cons] at hb
    obtain ⟨k1, k2⟩ := hc.pop (x := I 284 43 - 1) (by rw [hc2.2.1, nI_p1])
    have em : ∀ K : Nat, K = rd_op w → em_wp em_sc0 (d + 1) 196 84 [some (.ref 284), some (.int (em_bb st)), some (.int (nI w))] [.int (nI K), .ref 284] (em_SH, em_u I 284 43 (I 284 43 - 1), J, em_RT lw) Q := fun K hK => by
      subst hK
      iterate 1 refine em_next rfl ?_
      refine em_inv_call rfl (me_emit (v := 0) hsd k1 (by omega) (fun I1 a1 a2 => ?_))
      iterate 1 refine em_next rfl ?_
      refine ih (fun x hx => hp x (List.mem_cons_of_mem _ hx)) (by omega) a1 (fun I2 b1 b2 => h I2 ?_ ((k2.tr a2).tr b2))
      rw [List.append_assoc] at b1
      exact b1
    have pick : em_wp em_sc0 (d + 1) 196 42 [some (.ref 284), some (.int (em_bb st)), some (.int (nI w))] [] (em_SH, I, J, em_RT lw) Q := by
      iterate 7 refine em_next rfl ?_
      show em_wp em_sc0 (d + 1) 196 _ _ _ (em_SH, em_u I 284 43 (I 284 43 - 1), J, em_RT lw) Q
      rcases hp w List.mem_cons_self with rfl | rfl | ⟨-, rfl | rfl⟩
      · iterate 3 refine em_next rfl ?_
        refine em_c_ne (fun _ => ?_) (fun z => absurd z (by decide))
        iterate 3 refine em_next rfl ?_
        refine em_c_ne (fun _ => ?_) (fun z => absurd z (by decide))
        iterate 3 refine em_next rfl ?_
        refine em_c_ne (fun z => absurd rfl z) (fun _ => ?_)
        iterate 2 refine em_next rfl ?_
        exact em 4 rfl
      · iterate 3 refine em_next rfl ?_
        refine em_c_ne (fun _ => ?_) (fun z => absurd z (by decide))
        iterate 3 refine em_next rfl ?_
        refine em_c_ne (fun _ => ?_) (fun z => absurd z (by decide))
        iterate 3 refine em_next rfl ?_
        refine em_c_ne (fun _ => ?_) (fun z => absurd z (by decide))
        iterate 1 refine em_next rfl ?_
        exact em 5 rfl
      · iterate 3 refine em_next rfl ?_
        refine em_c_ne (fun z => absurd rfl z) (fun _ => ?_)
        iterate 2 refine em_next rfl ?_
        exact em 2 rfl
      · iterate 3 refine em_next rfl ?_
        refine em_c_ne (fun _ => ?_) (fun z => absurd z (by decide))
        iterate 3 refine em_next rfl ?_
        refine em_c_ne (fun z => absurd rfl z) (fun _ => ?_)
        iterate 2 refine em_next rfl ?_
        exact em 3 rfl
    iterate 3 refine em_next rfl ?_
    refine em_z_leE hc2.2.1 (fun z => absurd z (nI_nle (by omega) (by omega))) (fun _ => ?_)
    iterate 6 refine em_next rfl ?_
    refine em_ialE (k := (p ++ W).length) rfl rfl (by show I 284 43 - 1 = _; rw [hc2.2.1, nI_p1]) (by omega) (by decide) ?_
    refine em_tp hc2.2.2.1 ?_
    iterate 1 refine em_next rfl ?_
    rcases hp w List.mem_cons_self with rfl | rfl | ⟨rfl, rfl | rfl⟩
    · iterate 3 refine em_next rfl ?_
      refine em_c_eq (fun z => absurd z (by decide)) (fun _ => ?_)
      iterate 2 refine em_next rfl ?_
      cases st with
      | false => exact em_z_eq (fun _ => pick) (fun z => absurd rfl z)
      | true =>
        refine em_z_eq (fun z => absurd z (by decide)) (fun _ => ?_)
        iterate 3 refine em_next rfl ?_
        refine em_c_eq (fun z => absurd z (by decide)) (fun _ => ?_)
        iterate 3 refine em_next rfl ?_
        exact em_c_ne (fun _ => pick) (fun z => absurd z (by decide))
    · iterate 3 refine em_next rfl ?_
      refine em_c_eq (fun z => absurd z (by decide)) (fun _ => ?_)
      iterate 2 refine em_next rfl ?_
      cases st with
      | false => exact em_z_eq (fun _ => pick) (fun z => absurd rfl z)
      | true =>
        refine em_z_eq (fun z => absurd z (by decide)) (fun _ => ?_)
        iterate 3 refine em_next rfl ?_
        refine em_c_eq (fun z => absurd z (by decide)) (fun _ => ?_)
        iterate 3 refine em_next rfl ?_
        exact em_c_ne (fun _ => pick) (fun z => absurd z (by decide))
    · iterate 3 refine em_next rfl ?_
      refine em_c_eq (fun z => absurd z (by decide)) (fun _ => ?_)
      iterate 2 refine em_next rfl ?_
      exact em_z_eq (fun _ => pick) (fun z => absurd rfl z)
    · iterate 3 refine em_next rfl ?_
      refine em_c_eq (fun z => absurd z (by decide)) (fun _ => ?_)
      iterate 2 refine em_next rfl ?_
      exact em_z_eq (fun _ => pick) (fun z => absurd rfl z)
theorem me_out {n : Nat} {st : Bool} {p W : List Nat} {E : ek_cd} (hsd : sd < 2) (hp : ∀ w ∈ p, w = 10 ∨ w = 15 ∨ (st = false ∧ (w = 8 ∨ w = 9))) (h0 : W = [] ∨ ∃ x r, W = x :: r ∧ (x = 6 ∨ (st = true ∧ (x = 8 ∨ x = 9)))) (hl : (p ++ W).length ≤ 64) (hc : mc sd C0 I0 I n (p ++ W) E) (h : ∀ I' : Nat → Nat → Int32, mc sd C0 I0 I' n W (E ++ fl p) → eg I I' → Q none (em_SH, I', J, em_RT lw)) : em_call (d + 1) 196 [.ref 284, .int (em_bb st)] (em_SH, I, J, em_RT lw) Q := me_out_l hsd hp h0 hl hc h
theorem out_split {W : List Nat} (hv : ∀ w ∈ W, w = 6 ∨ w = 8 ∨ w = 9 ∨ w = 10 ∨ w = 15) : ∃ p r, W = p ++ r ∧ (∀ w ∈ p, w = 10 ∨ w = 15 ∨ (false = false ∧ (w = 8 ∨ w = 9))) ∧ (r = [] ∨ ∃ x s, r = x :: s ∧ (x = 6 ∨ (false = true ∧ (x = 8 ∨ x = 9)))) := by
  induction W with
  | nil => exact ⟨[], [], rfl, fun w hw => absurd hw (List.not_mem_nil), Or.inl rfl⟩
  | cons x W ih =>
    by_cases e : x = 6
    · exact ⟨[], x :: W, rfl, fun w hw => absurd hw (List.not_mem_nil), Or.inr ⟨x, W, rfl, Or.inl e⟩⟩
    · obtain ⟨p, r, h1, h2, h3⟩ := ih (fun w hw => hv w (List.mem_cons_of_mem _ hw))
      refine ⟨x :: p, r, by rw [h1]; rfl, fun w hw => ?_, h3⟩
      rcases List.mem_cons.mp hw with rfl | hw
      · have := hv w List.mem_cons_self
        rcases this with g | g | g | g | g
        · exact absurd g e
        · exact Or.inr (Or.inr ⟨rfl, Or.inl g⟩)
        · exact Or.inr (Or.inr ⟨rfl, Or.inr g⟩)
        · exact Or.inl g
        · exact Or.inr (Or.inl g)
      · exact h2 w hw
/-- whatever waits -/
theorem me_out_any {n : Nat} {W : List Nat} {E : ek_cd} (hsd : sd < 2) (hl : W.length ≤ 64) (hc : mc sd C0 I0 I n W E) (h : ∀ I' : Nat → Nat → Int32, ef sd C0 I0 I' → eg I I' → Q none (em_SH, I', J, em_RT lw)) : em_call (d + 1) 196 [.ref 284, .int 0] (em_SH, I, J, em_RT lw) Q := by
  obtain ⟨p, r, h1, h2, h3⟩ := out_split hc.2.2.2.2
  subst h1
  exact me_out (st := false) hsd h2 h3 hl hc (fun I' a1 a2 => h I' a1.1 a2)
theorem me_unit_b {e : tl_E} (hf : mfl b L I e) (h : Q none (em_SH, I, J, em_RT lw)) : em_call (d + 2) 198 [.ref 284] (em_SH, I, J, em_RT lw) Q := by
  iterate 2 refine em_next rfl ?_
  refine em_inv_call rfl (me_is_b (k := 2) hf ?_)
  iterate 1 refine em_next rfl ?_
  refine em_z_eq (fun _ => ?_) (fun z => absurd rfl z)
  iterate 2 refine em_next rfl ?_
  refine em_next rfl ?_
  refine em_z_neE hf.1 (fun _ => ?_) (fun z => absurd z hf.ne)
  iterate 2 refine em_next rfl ?_
  refine em_inv_call rfl (me_fail_b hf ?_)
  exact em_done rfl h
/-- where a sum stands -/
def ms (b : Nat → Nat) (L sd C0 : Nat) (I0 I : Nat → Nat → Int32) (t n : Nat) (W : List Nat) (E : ek_cd) : Prop := mc sd C0 I0 I n W E ∧ mat b L t I ∧ C0 + E.length + W.length ≤ t
theorem me_unit {t n : Nat} {W : List Nat} {E : ek_cd} (hsd : sd < 2) (hx : mx b L nT I0 J) (hm : ms b L sd C0 I0 I t n W E) (h1 : ∀ q, ((tk_K b L t = 2 ∧ q = (0, tk_V b L t)) ∨ (¬ tk_K b L t = 2 ∧ (32 ≤ tk_K b L t ∧ tk_K b L t ≤ 40) ∧ q = (1, tk_K b L t - 32))) → t < 400 → ∀ I' : Nat → Nat → Int32, ms b L sd C0 I0 I' (t + 1) n W (E ++ [q]) → Q none (em_SH, I', J, em_RT lw)) (h2 : (tk_K b L t = 2 ∨ (32 ≤ tk_K b L t ∧ tk_K b L t ≤ 40)) → ¬ t < 400 → ∀ I' : Nat → Nat → Int32, mc sd C0 I0 I' n W (E ++ [(0, 0)]) ∨ ef sd C0 I0 I' → mfl b L I' (2, t) → Q none (em_SH, I', J, em_RT lw)) (h3 : ¬ tk_K b L t = 2 → ¬ (32 ≤ tk_K b L t ∧ tk_K b L t ≤ 40) → ∀ I' : Nat → Nat → Int32, ef sd C0 I0 I' → mfl b L I' (1, t) → Q none (em_SH, I', J, em_RT lw)) : em_call (d + 2) 198 [.ref 284] (em_SH, I, J, em_RT lw) Q := by
  obtain ⟨hc, ha, hb⟩ := hm
  have hxI := hx.ef hc.1
  have hT := hxI.tok ha
  have hr := kr b L t
  have ht := ha.1
  iterate 2 refine em_next rfl ?_
  refine em_inv_call rfl (me_is (k := 2) hxI ha (by decide) (fun z => ?_) (fun z => ?_))
  · iterate 1 refine em_next rfl ?_
    refine em_z_eq (fun z => absurd z (by decide)) (fun _ => ?_)
    iterate 6 refine em_next rfl ?_
    refine em_ialE (k := t) rfl rfl ha.2.2.1 (by omega) (by decide) ?_
    refine em_tp (hT.2.2.1 z) ?_
    refine em_inv_call rfl (me_emit (k := 0) (v := tk_V b L t) hsd hc (by omega) (fun I1 a1 a2 => ?_))
    iterate 1 refine em_next rfl ?_
    refine em_inv_call rfl (me_goesOn (hxI.eg a2) (ha.eg a2) (by omega) (fun y I2 b1 b2 => ?_) (fun y I2 b1 b2 => ?_))
    · iterate 1 refine em_next rfl ?_
      refine em_done rfl (h1 (0, tk_V b L t) (Or.inl ⟨z, rfl⟩) y I2 ⟨a1.g b1, b2, ?_⟩)
      rw [List.length_append]; dsimp only [List.length]; omega
    · iterate 1 refine em_next rfl ?_
      exact em_done rfl (h2 (Or.inl z) y I2 (Or.inr (a1.g b1).1) b2)
  · iterate 1 refine em_next rfl ?_
    refine em_z_eq (fun _ => ?_) (fun z => absurd rfl z)
    iterate 2 refine em_next rfl ?_
    refine em_next rfl ?_
    refine em_z_neE ha.2.2.2 (fun z => absurd rfl z) (fun _ => ?_)
    have bad : ¬ (32 ≤ tk_K b L t ∧ tk_K b L t ≤ 40) → em_wp em_sc0 (d + 2) 198 88 [some (.ref 284)] [] (em_SH, I, J, em_RT lw) Q := fun z2 => by
      iterate 2 refine em_next rfl ?_
      refine em_inv_call rfl (me_fail (k := 1) hxI ha (by decide) (by decide) (fun I1 a1 a2 _ => ?_))
      exact em_done rfl (h3 z z2 I1 (hc.g a1).1 a2)
    iterate 4 refine em_next rfl ?_
    refine em_ialE (k := t) rfl rfl ha.2.2.1 (by omega) (by decide) ?_
    iterate 2 refine em_next rfl ?_
    refine em_c_ltE hT.1 (y' := nI 32) rfl (fun y => bad (fun q => ?_)) (fun y => ?_)
    · have := (nI_ltI (by omega) (by decide)).mp y
      omega
    have y1 : ¬ tk_K b L t < 32 := fun e => y ((nI_ltI (by omega) (by decide)).mpr e)
    iterate 4 refine em_next rfl ?_
    refine em_ialE (k := t) rfl rfl ha.2.2.1 (by omega) (by decide) ?_
    iterate 2 refine em_next rfl ?_
    refine em_c_gtE hT.1 (y' := nI 40) rfl (fun y => bad (fun q => ?_)) (fun y => ?_)
    · have := (nI_ltI (by decide) (by omega)).mp y
      omega
    have y2 : ¬ 40 < tk_K b L t := fun e => y ((nI_ltI (by decide) (by omega)).mpr e)
    iterate 6 refine em_next rfl ?_
    refine em_ialE (k := t) rfl rfl ha.2.2.1 (by omega) (by decide) ?_
    refine em_tp hT.1 ?_
    iterate 2 refine em_next rfl ?_
    refine em_tp (y := nI (tk_K b L t - 32)) (nI_subN (b := 32) (by omega)) ?_
    refine em_inv_call rfl (me_emit (k := 1) (v := tk_K b L t - 32) hsd hc (by omega) (fun I1 a1 a2 => ?_))
    iterate 1 refine em_next rfl ?_
    refine em_inv_call rfl (me_goesOn (hxI.eg a2) (ha.eg a2) (by omega) (fun y I2 b1 b2 => ?_) (fun y I2 b1 b2 => ?_))
    · iterate 1 refine em_next rfl ?_
      refine em_done rfl (h1 (1, tk_K b L t - 32) (Or.inr ⟨z, by omega, rfl⟩) y I2 ⟨a1.g b1, b2, ?_⟩)
      rw [List.length_append]; dsimp only [List.length]; omega
    · iterate 1 refine em_next rfl ?_
      exact em_done rfl (h2 (Or.inr (by omega)) y I2 (Or.inr (a1.g b1).1) b2)
end MEXP
