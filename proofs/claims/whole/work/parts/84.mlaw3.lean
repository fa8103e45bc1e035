/-! the reference is told a law -/
def mbe (I : Nat → Nat → Int32) (lo hi b : Nat) (q : ek_br) : Prop := I 304 b = 1 ∧ ∃ a, lo ≤ a ∧ a + q.1.length + q.2.1.length + q.2.2.length ≤ hi ∧ I 305 b = nI a ∧ I 306 b = nI (a + q.1.length) ∧ I 307 b = nI (a + q.1.length + q.2.1.length) ∧ I 308 b = nI (a + q.1.length + q.2.1.length + q.2.2.length) ∧ mcd I a q.1 ∧ mcd I (a + q.1.length) q.2.1 ∧ mcd I (a + q.1.length + q.2.1.length) q.2.2
def mbt (I : Nat → Nat → Int32) (lo hi b : Nat) (t : ek_cd) : Prop := I 304 b = 0 ∧ ∃ a, lo ≤ a ∧ a + t.length ≤ hi ∧ I 307 b = nI a ∧ I 308 b = nI (a + t.length) ∧ mcd I a t
def mbl (I : Nat → Nat → Int32) (lo hi : Nat) : Nat → List ek_br → Prop
  | _, [] => True
  | b, q :: bs => mbe I lo hi b q ∧ mbl I lo hi (b + 1) bs
theorem mbe.kp {I I' : Nat → Nat → Int32} {lo hi hi' b : Nat} {q : ek_br} (h : mbe I lo hi b q) (hh : hi ≤ hi') (he : ∀ j, lo ≤ j → j < hi → I' 309 j = I 309 j ∧ I' 310 j = I 310 j) (hr : ∀ a ∈ brows, I' a b = I a b) : mbe I' lo hi' b q := by
  obtain ⟨h1, a, h2, h3, h4, h5, h6, h7, h8, h9, h10⟩ := h
  exact ⟨(hr _ (by decide)).trans h1, a, h2, by omega, (hr _ (by decide)).trans h4, (hr _ (by decide)).trans h5, (hr _ (by decide)).trans h6, (hr _ (by decide)).trans h7, h8.keep (lo := lo) (hi := hi) (by omega) (by omega) he, h9.keep (lo := lo) (hi := hi) (by omega) (by omega) he, h10.keep (lo := lo) (hi := hi) (by omega) (by omega) he⟩
theorem mbl.kp {I I' : Nat → Nat → Int32} {lo hi hi' b : Nat} {ds : List ek_br} (h : mbl I lo hi b ds) (hh : hi ≤ hi') (he : ∀ j, lo ≤ j → j < hi → I' 309 j = I 309 j ∧ I' 310 j = I 310 j) (hr : ∀ a ∈ brows, ∀ j, b ≤ j → j < b + ds.length → I' a j = I a j) : mbl I' lo hi' b ds := by
  induction ds generalizing b with
  | nil => trivial
  | cons q ds ih =>
    rw [List.length_cons] at hr
    exact ⟨h.1.kp hh he (fun a ha => hr a ha b (by omega) (by omega)), ih h.2 (fun a ha j z1 z2 => hr a ha j (by omega) (by omega))⟩
theorem mbl_snoc {I : Nat → Nat → Int32} {lo hi b : Nat} {ds : List ek_br} {q : ek_br} (h : mbl I lo hi b ds) (hq : mbe I lo hi (b + ds.length) q) : mbl I lo hi b (ds ++ [q]) := by
  induction ds generalizing b with
  | nil => exact ⟨hq, trivial⟩
  | cons x ds ih =>
    rw [List.length_cons, show b + (ds.length + 1) = b + 1 + ds.length by omega] at hq
    exact ⟨h.1, ih h.2 hq⟩
theorem mbr_of {I : Nat → Nat → Int32} {lo hi b : Nat} {ds : List ek_br} {t : ek_cd} (h : mbl I lo hi b ds) (ht : mbt I lo hi (b + ds.length) t) : mbr I lo hi b ds t := by
  induction ds generalizing b with
  | nil => exact ht
  | cons x ds ih =>
    rw [List.length_cons, show b + (ds.length + 1) = b + 1 + ds.length by omega] at ht
    exact ⟨h.1, ih h.2 ht⟩
theorem mbr.mono {I : Nat → Nat → Int32} {lo hi hi' b : Nat} {ds : List ek_br} {t : ek_cd} (h : mbr I lo hi b ds t) (hh : hi ≤ hi') : mbr I lo hi' b ds t := by
  induction ds generalizing b with
  | nil =>
    obtain ⟨h1, a, h2, h3, h4⟩ := h
    exact ⟨h1, a, h2, by omega, h4⟩
  | cons x ds ih =>
    obtain ⟨⟨h1, a, h2, h3, h4⟩, h5⟩ := h
    exact ⟨⟨h1, a, h2, by omega, h4⟩, ih h5⟩
def lcells : List Nat := [284, 311, 309, 310, 302, 303, 304, 305, 306, 307, 308]
def lf (sd C0 B0 k : Nat) (I0 I : Nat → Nat → Int32) : Prop := (∀ a, a ∉ lcells → I a = I0 a) ∧ (∀ j, j ∉ [11, 12, 13, 14, 43, 39, 33] → I 284 j = I0 284 j) ∧ (∀ j, ¬ (420 * sd + C0 ≤ j ∧ j < 420 * sd + 420) → I 309 j = I0 309 j ∧ I 310 j = I0 310 j) ∧ (∀ a ∈ brows, ∀ j, ¬ (130 * sd + B0 ≤ j ∧ j < 130 * sd + 130) → I a j = I0 a j) ∧ ∀ j, j ≠ 4 * sd + k → I 302 j = I0 302 j ∧ I 303 j = I0 303 j
theorem lf.rf {sd C0 B0 k : Nat} {I : Nat → Nat → Int32} : lf sd C0 B0 k I I := ⟨fun _ _ => rfl, fun _ _ => rfl, fun _ _ => ⟨rfl, rfl⟩, fun _ _ _ _ => rfl, fun _ _ => ⟨rfl, rfl⟩⟩
theorem lf.g {sd C0 B0 k : Nat} {I0 I I' : Nat → Nat → Int32} (h : lf sd C0 B0 k I0 I) (f : mg I I') : lf sd C0 B0 k I0 I' := by
  obtain ⟨h1, h2, h3, h4, h5⟩ := h
  have hb : ∀ a ∈ brows, a ≠ 284 := by decide
  refine ⟨fun a ha => (f.1 a (fun e => ha (by rw [e]; decide))).trans (h1 a ha), fun j hj => (f.2 j (fun e => hj (by revert e; simp; omega))).trans (h2 j hj), fun j hj => by rw [f.1 _ (by decide), f.1 _ (by decide)]; exact h3 j hj, fun a ha j hj => by rw [f.1 a (hb a ha)]; exact h4 a ha j hj, fun j hj => by rw [f.1 _ (by decide), f.1 _ (by decide)]; exact h5 j hj⟩
theorem lf.e {sd C0 B0 k C : Nat} {I0 I I' : Nat → Nat → Int32} (h : lf sd C0 B0 k I0 I) (f : ef sd C I I') (hc : C0 ≤ C) : lf sd C0 B0 k I0 I' := by
  obtain ⟨h1, h2, h3, h4, h5⟩ := h
  have hb : ∀ a ∈ brows, a ∉ [284, 311, 309, 310] := by decide
  refine ⟨fun a ha => (f.1 a (fun e => ha (by revert e; simp [lcells]; omega))).trans (h1 a ha), fun j hj => (f.2.1 j (fun e => hj (by revert e; simp; omega))).trans (h2 j hj), fun j hj => ?_, fun a ha j hj => by rw [f.1 a (hb a ha)]; exact h4 a ha j hj, fun j hj => by rw [f.1 _ (by decide), f.1 _ (by decide)]; exact h5 j hj⟩
  have := f.2.2 j (by omega)
  have g := h3 j hj
  exact ⟨this.1.trans g.1, this.2.trans g.2⟩
theorem lf.u {sd C0 B0 k a i : Nat} {x : Int32} {I0 I : Nat → Nat → Int32} (h : lf sd C0 B0 k I0 I) (ha : a ∈ brows) (hi : 130 * sd + B0 ≤ i ∧ i < 130 * sd + 130) : lf sd C0 B0 k I0 (em_u I a i x) := by
  obtain ⟨h1, h2, h3, h4, h5⟩ := h
  have hb : ∀ a ∈ brows, a ≠ 284 ∧ a ≠ 309 ∧ a ≠ 310 ∧ a ≠ 302 ∧ a ≠ 303 ∧ a ∈ lcells := by decide
  obtain ⟨b1, b2, b3, b4, b5, b6⟩ := hb a ha
  refine ⟨fun c hc => by rw [em_u_row (fun e => hc (by rw [e]; exact b6))]; exact h1 c hc, fun j hj => by rw [em_u_row (Ne.symm b1)]; exact h2 j hj, fun j hj => by rw [em_u_row (Ne.symm b2), em_u_row (Ne.symm b3)]; exact h3 j hj, fun c hc j hj => ?_, fun j hj => by rw [em_u_row (Ne.symm b4), em_u_row (Ne.symm b5)]; exact h5 j hj⟩
  by_cases e : c = a
  · subst e
    rw [em_u_ne (fun e => hj (by rw [e]; exact hi))]
    exact h4 c hc j hj
  · rw [em_u_row e]
    exact h4 c hc j hj
theorem lf.m {sd C0 B0 k i : Nat} {x : Int32} {I0 I : Nat → Nat → Int32} (h : lf sd C0 B0 k I0 I) (hi : i ∈ [11, 12, 13, 14, 43, 39, 33]) : lf sd C0 B0 k I0 (em_u I 284 i x) := by
  obtain ⟨h1, h2, h3, h4, h5⟩ := h
  have hb : ∀ a ∈ brows, a ≠ 284 := by decide
  exact ⟨fun c hc => by rw [em_u_row (fun e => hc (by rw [e]; decide))]; exact h1 c hc, fun j hj => by rw [em_u_ne (fun e => hj (by rw [e]; exact hi))]; exact h2 j hj, fun j hj => by rw [em_u_row (by decide), em_u_row (by decide)]; exact h3 j hj, fun c hc j hj => by rw [em_u_row (hb c hc)]; exact h4 c hc j hj, fun j hj => by rw [em_u_row (by decide), em_u_row (by decide)]; exact h5 j hj⟩
theorem lf.l {sd C0 B0 k : Nat} {x y : Int32} {I0 I : Nat → Nat → Int32} (h : lf sd C0 B0 k I0 I) : lf sd C0 B0 k I0 (em_u (em_u I 302 (4 * sd + k) x) 303 (4 * sd + k) y) := by
  obtain ⟨h1, h2, h3, h4, h5⟩ := h
  have hb : ∀ a ∈ brows, a ≠ 302 ∧ a ≠ 303 := by decide
  refine ⟨fun c hc => by rw [em_u_row (fun e => hc (by rw [e]; decide)), em_u_row (fun e => hc (by rw [e]; decide))]; exact h1 c hc, fun j hj => by rw [em_u_row (by decide), em_u_row (by decide)]; exact h2 j hj, fun j hj => by rw [em_u_row (by decide), em_u_row (by decide), em_u_row (by decide), em_u_row (by decide)]; exact h3 j hj, fun c hc j hj => by rw [em_u_row (hb c hc).2, em_u_row (hb c hc).1]; exact h4 c hc j hj, fun j hj => ⟨?_, ?_⟩⟩
  · rw [em_u_row (by decide), em_u_ne hj]; exact (h5 j hj).1
  · rw [em_u_ne hj, em_u_row (by decide)]; exact (h5 j hj).2
section MLAW3
variable {d lw : Nat} {b : Nat → Nat} {L nT sd C0 B0 k : Nat} {I I0 I' I'' : Nat → Nat → Int32} {J J0 J' J'' : Nat → Nat → Int64} {M : em_M} {Q : Option Value → em_M → Prop}
theorem em_basE {sc : Nat × (Nat → Int32)} {ix pc nx : Nat} {lc : em_L} {r : List Value} {S : List (Nat × Nat)} {R : Nat → Nat → Option Nat} {i x y : Int32} {a n k : Nat} (hi : em_ins ix pc = some (.bastore, nx)) (hs : S[a]? = some (22, n)) (he : i = nI k) (hk : k < n) (hn : n < 2 ^ 31) (hy : vp_nar .boolean x = y) (kk : em_wp sc d ix nx lc r (S, em_u I a k y, J, R) Q) : em_wp sc d ix pc lc (.int x :: .int i :: .ref a :: r) (S, I, J, R) Q := by
  subst he
  exact em_basn hi hs hk hn hy kk
theorem lf.x (h : lf sd C0 B0 k I0 I) (hx : mx b L nT I0 J) : mx b L nT I J := hx.keep (h.1 _ (by decide)) (h.1 _ (by decide)) (h.1 _ (by decide)) rfl
theorem me_expression_b {e : tl_E} (hf : mfl b L I e) (h : Q none (em_SH, em_u I 284 43 0, J, em_RT lw)) : em_call d 197 [.ref 284] (em_SH, I, J, em_RT lw) Q := by
  iterate 3 refine em_next rfl ?_
  show em_wp em_sc0 d 197 _ _ _ (em_SH, em_u I 284 43 0, J, em_RT lw) Q
  iterate 5 refine em_next rfl ?_
  iterate 2 refine em_next rfl ?_
  refine em_z_eq (fun z => absurd z (by decide)) (fun _ => ?_)
  iterate 3 refine em_next rfl ?_
  refine em_z_neE (x' := nI e.1) (by show em_u I 284 43 0 284 13 = nI e.1; rw [em_u_ne (by decide)]; exact hf.1) (fun _ => ?_) (fun z => absurd z hf.ne)
  exact em_done rfl h
theorem me_term_end {B : Nat} {K : Nat → Nat → Int32} (hsd : sd < 2) (hB : B < 130) (hbr : K 284 33 = nI (130 * sd + B)) (h : Q none (em_SH, em_u (em_u K 308 (130 * sd + B) (K 284 39)) 284 33 (nI (130 * sd + (B + 1))), J, em_RT lw)) : em_wp em_sc0 d 194 24 [some (.ref 284)] [] (em_SH, K, J, em_RT lw) Q := by
  iterate 6 refine em_next rfl ?_
  refine em_iasE (k := 130 * sd + B) rfl rfl hbr (by omega) (by decide) ?_
  iterate 5 refine em_next rfl ?_
  refine em_tp (y := nI (130 * sd + (B + 1))) ?_ ?_
  · show em_u K 308 (130 * sd + B) (K 284 39) 284 33 + 1 = _
    rw [em_u_row (by decide), hbr, ← nI_succ]
    rfl
  iterate 1 refine em_next rfl ?_
  exact em_done rfl h
theorem me_term_b {e : tl_E} {B : Nat} (hsd : sd < 2) (hf : mfl b L I e) (hB : B < 130) (hB0 : B0 ≤ B) (hbr : I 284 33 = nI (130 * sd + B)) (hl : lf sd C0 B0 k I0 I) (h : ∀ I' : Nat → Nat → Int32, lf sd C0 B0 k I0 I' → mfl b L I' e → I' 284 33 = nI (130 * sd + (B + 1)) → Q none (em_SH, I', J, em_RT lw)) : em_call (d + 1) 194 [.ref 284] (em_SH, I, J, em_RT lw) Q := by
  iterate 6 refine em_next rfl ?_
  refine em_iasE (k := 130 * sd + B) rfl rfl hbr (by omega) (by decide) ?_
  iterate 2 refine em_next rfl ?_
  refine em_next rfl ?_
  refine em_z_neE (x' := nI e.1) (by show em_u I 307 (130 * sd + B) (I 284 39) 284 13 = nI e.1; rw [em_u_row (by decide)]; exact hf.1) (fun _ => ?_) (fun z => absurd z hf.ne)
  refine me_term_end (B := B) hsd hB (by rw [em_u_row (by decide)]; exact hbr) ?_
  refine h _ (((hl.u (by decide) (by omega)).u (by decide) (by omega)).m (by decide)) (hf.keep ?_ ?_) em_u_self
  · rw [em_u_ne (by decide), em_u_row (by decide), em_u_row (by decide)]
  · rw [em_u_ne (by decide), em_u_row (by decide), em_u_row (by decide)]
theorem me_term {t C B : Nat} (hsd : sd < 2) (hx : mx b L nT I0 J) (hm : mat b L t I) (ho : I 284 12 = nI 0) (hcd : I 284 39 = nI (420 * sd + C)) (hC : C ≤ t) (hC0 : C0 ≤ C) (hB : B < 130) (hB0 : B0 ≤ B) (hbr : I 284 33 = nI (130 * sd + B)) (hl : lf sd C0 B0 k I0 I)
    (h1 : ∀ w, tl_sum (tk_K b L) (tk_V b L) t = .inr w → t < w.1 → w.2.length ≤ w.1 - t → ek_wx w.2 → ∀ I' : Nat → Nat → Int32, lf sd C0 B0 k I0 I' → mat b L w.1 I' → I' 284 12 = nI 0 → I' 284 39 = nI (420 * sd + (C + w.2.length)) → I' 284 33 = nI (130 * sd + (B + 1)) → mcd I' (420 * sd + C) w.2 → I' 307 (130 * sd + B) = nI (420 * sd + C) → I' 308 (130 * sd + B) = nI (420 * sd + (C + w.2.length)) → (∀ j, ¬ (420 * sd + C ≤ j ∧ j < 420 * sd + 420) → I' 309 j = I 309 j ∧ I' 310 j = I 310 j) → (∀ a ∈ brows, ∀ j, j ≠ 130 * sd + B → I' a j = I a j) → (∀ a ∈ [304, 305, 306], I' a = I a) → Q none (em_SH, I', J, em_RT lw))
    (h2 : ∀ e, tl_sum (tk_K b L) (tk_V b L) t = .inl e → ∀ I' : Nat → Nat → Int32, lf sd C0 B0 k I0 I' → mfl b L I' e → I' 284 33 = nI (130 * sd + (B + 1)) → Q none (em_SH, I', J, em_RT lw)) : em_call (d + 4) 194 [.ref 284] (em_SH, I, J, em_RT lw) Q := by
  iterate 6 refine em_next rfl ?_
  refine em_iasE (k := 130 * sd + B) rfl rfl hbr (by omega) (by decide) ?_
  iterate 3 refine em_next rfl ?_
  refine em_z_neE (x' := nI 0) (by show em_u I 307 (130 * sd + B) (I 284 39) 284 13 = nI 0; rw [em_u_row (by decide)]; exact hm.2.2.2) (fun z => absurd rfl z) (fun _ => ?_)
  have l1 : lf sd C0 B0 k I0 (em_u I 307 (130 * sd + B) (I 284 39)) := hl.u (by decide) (by omega)
  have q1 : ∀ j, em_u I 307 (130 * sd + B) (I 284 39) 284 j = I 284 j := fun j => by rw [em_u_row (by decide)]
  have hb : ∀ a ∈ brows, a ∉ [284, 311, 309, 310] ∧ a ≠ 284 := by decide
  iterate 1 refine em_next rfl ?_
  refine em_inv_call rfl (me_expression (sd := sd) (C0 := C) hsd (l1.x hx) (hm.keep (q1 _) (q1 _)) ((q1 _).trans ho) ((q1 _).trans hcd) hC (fun w e1 g1 g2 g3 I1 a1 a2 a3 a4 a5 => ?_) (fun e e1 I1 a1 a2 => ?_))
  · have b1 : I1 284 33 = nI (130 * sd + B) := by rw [a1.2.1 _ (by decide), q1]; exact hbr
    refine me_term_end (B := B) hsd hB b1 ?_
    rw [a4]
    have r1 : ∀ a, a ≠ 284 → a ≠ 308 → ∀ x y : Int32, em_u (em_u I1 308 (130 * sd + B) x) 284 33 y a = I1 a := fun a z1 z2 x y => by rw [em_u_row z1, em_u_row z2]
    refine h1 w e1 g1 g2 g3 _ (((l1.e a1 hC0).u (by decide) (by omega)).m (by decide)) (a2.keep ?_ ?_) ?_ ?_ em_u_self ?_ ?_ ?_ (fun j hj => ?_) (fun a ha j hj => ?_) (fun a ha => ?_)
    · rw [em_u_ne (by decide), em_u_row (by decide)]
    · rw [em_u_ne (by decide), em_u_row (by decide)]
    · rw [em_u_ne (by decide), em_u_row (by decide)]; exact a3
    · rw [em_u_ne (by decide), em_u_row (by decide)]; exact a4
    · exact a5.keep (lo := 0) (hi := 420 * sd + C + w.2.length) (by omega) (by omega) (fun j _ _ => by rw [r1 _ (by decide) (by decide), r1 _ (by decide) (by decide)]; exact ⟨rfl, rfl⟩)
    · rw [r1 _ (by decide) (by decide), a1.1 _ (by decide), em_u_self]; exact hcd
    · rw [em_u_row (by decide), em_u_self]
    · rw [r1 _ (by decide) (by decide), r1 _ (by decide) (by decide)]
      have := a1.2.2 j hj
      rw [em_u_row (by decide), em_u_row (by decide)] at this
      exact this
    · rw [em_u_row (hb a ha).2]
      have e3 : ∀ K : Nat → Nat → Int32, ∀ c (x : Int32), em_u K c (130 * sd + B) x a j = K a j := fun K c x => by
        by_cases e : a = c
        · subst e; rw [em_u_ne hj]
        · rw [em_u_row e]
      rw [e3, a1.1 a (hb a ha).1, e3]
    · have : a ≠ 284 ∧ a ≠ 308 ∧ a ≠ 307 ∧ a ∉ [284, 311, 309, 310] := by revert a; decide
      rw [r1 a this.1 this.2.1, a1.1 a this.2.2.2, em_u_row this.2.2.1]
  · have b1 : I1 284 33 = nI (130 * sd + B) := by rw [a1.2.1 _ (by decide), q1]; exact hbr
    refine me_term_end (B := B) hsd hB b1 ?_
    refine h2 e e1 _ (((l1.e a1 hC0).u (by decide) (by omega)).m (by decide)) (a2.keep ?_ ?_) em_u_self
    · rw [em_u_ne (by decide), em_u_row (by decide)]
    · rw [em_u_ne (by decide), em_u_row (by decide)]
end MLAW3
