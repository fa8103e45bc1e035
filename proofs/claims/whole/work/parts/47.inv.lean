/-! what holds between calls -/
/-- a night: how all lie, hour, partings, habits, names, turnings, chilled -/
abbrev em_Wt : Type := Nat × Nat × (Nat → Int32) × (Nat → Int32) × (Nat → Int32) × (Nat → Int32) × Int32
/-- a text: how many, ring, colds, laws, seed, first hour -/
abbrev em_Pn : Type := Nat × Bool × (Nat → Int32) × (Nat → List Int32 → Int32) × Int32 × Nat
abbrev eq_P (p : em_Pn) (W : em_Wt) : em_Pl := (p.1, p.2.1, p.2.2.1, p.2.2.2.1, W.2.2.2.1)
abbrev eq_X (W : em_Wt) : em_Nt := (W.1, W.2.1, W.2.2.1)
abbrev eq_nm (W : em_Wt) : Nat → Int32 := W.2.2.2.2.1
abbrev eq_tn (W : em_Wt) : Nat → Int32 := W.2.2.2.2.2.1
abbrev eq_ch (W : em_Wt) : Int32 := W.2.2.2.2.2.2
def mr (g : Nat → Int32) (n bg : Nat) (W : em_Wt) : Prop := (W.1 < 2 ^ n ∧ g 45 = nI W.2.1 ∧ g 46 = eq_ch W ∧ g 47 = nI (W.2.1 - bg) ∧ bg ≤ W.2.1) ∧ (∀ b, b < n → g b = em_bit W.1 b ∧ g (9 + b) = W.2.2.2.1 b ∧ g (18 + b) = eq_nm W b ∧ g (27 + b) = W.2.2.1 b ∧ g (36 + b) = eq_tn W b) ∧ ∀ b, n ≤ b → b < 9 → g (9 + b) = 0 ∧ g (36 + b) = 0
theorem mr.keep {g g' : Nat → Int32} {n bg : Nat} {W : em_Wt} (h : mr g n bg W) (hn : n ≤ 9) (he : ∀ j, j < 48 → g' j = g j) : mr g' n bg W := by
  obtain ⟨⟨h1, h2, h3, h4, h5⟩, h6, h7⟩ := h
  refine ⟨⟨h1, by rw [he _ (by decide)]; exact h2, by rw [he _ (by decide)]; exact h3, by rw [he _ (by decide)]; exact h4, h5⟩, fun b hb => ?_, fun b hb hb2 => ?_⟩
  · rw [he _ (by omega), he _ (by omega), he _ (by omega), he _ (by omega), he _ (by omega)]
    exact h6 b hb
  · rw [he _ (by omega), he _ (by omega)]
    exact h7 b hb hb2
def cr (I : Nat → Nat → Int32) (q n : Nat) (W : em_Wt) : Prop := (W.1 < 2 ^ n ∧ I q 4 = nI W.1 ∧ I q 5 = nI W.2.1 ∧ I q 6 = eq_ch W) ∧ ∀ b, b < n → I (q + 1) b = eq_nm W b ∧ I (q + 2) b = W.2.2.2.1 b ∧ I (q + 3) b = W.2.2.1 b ∧ I (q + 4) b = eq_tn W b
theorem cr.keep {I I' : Nat → Nat → Int32} {q n : Nat} {W : em_Wt} (h : cr I q n W) (he : ∀ a, q ≤ a → a ≤ q + 4 → I' a = I a) : cr I' q n W := by
  unfold cr
  rw [he q (by omega) (by omega), he (q + 1) (by omega) (by omega), he (q + 2) (by omega) (by omega), he (q + 3) (by omega) (by omega), he (q + 4) (by omega) (by omega)]
  exact h
def MI (I : Nat → Nat → Int32) (lv : Nat) (p : em_Pn) (W : em_Wt) (u : Nat) (H : Nat → em_Wt) (hl : Nat → Bool) (S : Nat → em_Wt) (T : Nat) (D : em_Td) (L : Nat) (tp : Nat → Int32) (pc : Int32) : Prop :=
  mo_P I lv p.1 p.2.1 p.2.2.1 p.2.2.2.1 ∧ I 301 lv = p.2.2.2.2.1 ∧ mr (I 314) p.1 p.2.2.2.2.2 W ∧ (u ≤ 40 ∧ I 284 53 = nI u ∧ ∀ i, i < u → mr (fun j => I 318 (48 * i + j)) p.1 p.2.2.2.2.2 (H i)) ∧ (∀ s, s < 3 → I 326 s = em_bb (hl s) ∧ (hl s = true → mr (fun j => I 327 (48 * s + j)) p.1 p.2.2.2.2.2 (S s))) ∧ mo_T I p.1 T D ∧ (L ≤ 2000 ∧ I 284 2 = nI L ∧ ∀ i, i < L → I 285 i = tp i) ∧ I 284 17 = pc
def CI (I : Nat → Nat → Int32) (lp : Bool) (nx : Nat) (p : em_Pn) (W : em_Wt) (u : Nat) (H : Nat → em_Wt) (hl : Nat → Bool) (S : Nat → em_Wt) (T : Nat) (D : em_Td) (L : Nat) (tp : Nat → Int32) (pc : Int32) : Prop :=
  cp_P I p.1 p.2.1 p.2.2.1 p.2.2.2.1 ∧ (I 27 4 = em_bb lp ∧ em_ind lp (p.2.2.2.1 0)) ∧ cr I 42 p.1 W ∧ cd_R I (eq_P p W) W.2.2.1 ∧ (I 24 11 = p.2.2.2.2.1 ∧ I 24 10 = nI p.2.2.2.2.2) ∧ (u ≤ 40 ∧ nx < 40 ∧ I 47 3 = nI nx ∧ I 47 4 = nI u ∧ ∀ i, i < u → cr I (51 + 5 * ((nx + 40 - u + i) % 40)) p.1 (H i)) ∧ (∀ s, s < 3 → I 50 s = em_bb (hl s) ∧ (hl s = true → cr I (251 + 5 * s) p.1 (S s))) ∧ cs_T I p.1 T D ∧ (L ≤ 2000 ∧ I 2 5 = nI L ∧ ∀ i, i < L → I 3 i = tp i) ∧ I 1 11 = pc
def HB (W : em_Wt) (u : Nat) (H : Nat → em_Wt) (hl : Nat → Bool) (S : Nat → em_Wt) (B : Nat) : Prop := W.2.1 ≤ B ∧ (∀ i, i < u → (H i).2.1 ≤ B) ∧ ∀ s, s < 3 → hl s = true → (S s).2.1 ≤ B
theorem HB.mono {W : em_Wt} {u : Nat} {H : Nat → em_Wt} {hl : Nat → Bool} {S : Nat → em_Wt} {B B' : Nat} (h : HB W u H hl S B) (hb : B ≤ B') : HB W u H hl S B' := ⟨Nat.le_trans h.1 hb, fun i hi => Nat.le_trans (h.2.1 i hi) hb, fun s hs h1 => Nat.le_trans (h.2.2 s hs h1) hb⟩
section INV
variable {d lw lv nx : Nat} {p : em_Pn} {W : em_Wt} {u : Nat} {H : Nat → em_Wt} {hl : Nat → Bool} {S : Nat → em_Wt} {T : Nat} {D : em_Td} {L : Nat} {tp : Nat → Int32} {pc : Int32} {lp : Bool} {I I' : Nat → Nat → Int32} {B : Nat}
theorem mr.toW {I : Nat → Nat → Int32} {n bg : Nat} (h : mr (I 314) n bg W) (hb : W.2.1 < 1000000) : mo_W I n W.1 W.2.1 W.2.2.2.1 W.2.2.1 := ⟨⟨h.1.1, hb, h.1.2.1⟩, fun b hb => ⟨(h.2.1 b hb).1, (h.2.1 b hb).2.1, (h.2.1 b hb).2.2.2.1⟩⟩
theorem MI.toS (h : MI I lv p W u H hl S T D L tp pc) (hb : W.2.1 + 1000 < 1000000) : mo_S I lv (eq_P p W) (eq_X W) := ⟨h.1, h.2.2.1.toW (by omega), hb⟩
theorem cr.N {q n : Nat} (h : cr I q n W) (hb : W.2.1 < 1000000) : ct_N I q n W.1 W.2.1 W.2.2.2.1 W.2.2.1 := ⟨⟨h.1.1, hb, h.1.2.1, h.1.2.2.1⟩, fun b hb => ⟨(h.2 b hb).2.1, (h.2 b hb).2.2.1⟩⟩
theorem CI.toS (h : CI I lp nx p W u H hl S T D L tp pc) (hb : W.2.1 + 1000 < 1000000) : cl_S I lp (eq_P p W) (eq_X W) := ⟨h.1, h.2.2.1.N (by omega), h.2.1, h.2.2.2.1, hb⟩
theorem em_cW_no {a : Nat} (h : (47 ≤ a ∧ a < 271) ∨ a < 29 ∨ (42 ≤ a ∧ a < 47)) : a ∉ em_cW := by
  simp [em_cW, em_cS]
  omega
theorem CI.keepG (h : CI I lp nx p W u H hl S T D L tp pc) (hd : ∀ a ∈ cp_rows, I' a = I a) (e : ∀ a, (47 ≤ a ∧ a < 271) ∨ a < 29 ∨ (42 ≤ a ∧ a < 47) → I' a = I a) (hR : cd_R I' (eq_P p W) W.2.2.1) : CI I' lp nx p W u H hl S T D L tp pc := by
  obtain ⟨h1, h2, h3, h4, h5, ⟨h6, h7, h8, h9, h10⟩, h11, h12, h13, h14⟩ := h
  refine ⟨h1.keep hd, ⟨by rw [e _ (by decide)]; exact h2.1, h2.2⟩, h3.keep (fun a g1 g2 => e a (by omega)), hR, by rw [e _ (by decide)]; exact h5, ⟨h6, h7, by rw [e _ (by decide)]; exact h8, by rw [e _ (by decide)]; exact h9, fun i hi => (h10 i hi).keep (fun a g1 g2 => e a (by omega))⟩, fun s hs => ⟨by rw [e _ (by decide)]; exact (h11 s hs).1, fun z => ((h11 s hs).2 z).keep (fun a g1 g2 => e a (by omega))⟩, ?_, by rw [e _ (by decide), e _ (by decide)]; exact h13, by rw [e _ (by decide)]; exact h14⟩
  unfold cs_T
  rw [e 266 (by decide), e 267 (by decide), e 268 (by decide), e 269 (by decide)]
  exact h12
theorem CI.keepW (h : CI I lp nx p W u H hl S T D L tp pc) (he : em_fW I I') (hR : cd_R I' (eq_P p W) W.2.2.1) : CI I' lp nx p W u H hl S T D L tp pc := by
  have hd : ∀ a ∈ cp_rows, a ∉ em_cW := by decide
  exact h.keepG (fun a ha => he a (hd a ha)) (fun a ha => he a (em_cW_no ha)) hR
theorem CI.keepM (h : CI I lp nx p W u H hl S T D L tp pc) (e : ∀ a, a < 284 → I' a = I a) : CI I' lp nx p W u H hl S T D L tp pc := by
  have hd : ∀ a ∈ cp_rows, a < 284 := by decide
  exact h.keepG (fun a ha => e a (hd a ha)) (fun a ha => e a (by omega)) (fun t ht b hb => by rw [e _ (by decide)]; exact h.2.2.2.1 t ht b hb)
theorem mo_P.keepG {n : Nat} {rg : Bool} {cold : Nat → Int32} {f : Nat → List Int32 → Int32} (h : mo_P I lv n rg cold f) (h0 : I' 284 18 = I 284 18) (he : ∀ a ∈ [293, 299, 296, 302, 303, 304, 305, 306, 307, 308, 309, 310], I' a = I a) : mo_P I' lv n rg cold f := by
  obtain ⟨⟨h1, h2, h3, h4, h5⟩, h6, h7⟩ := h
  refine ⟨⟨h1, h2, h0.trans h3, by rw [he _ (by decide)]; exact h4, by rw [he _ (by decide)]; exact h5⟩, fun b hb => by rw [he _ (by decide)]; exact h6 b hb, fun k hk => (h7 k hk).keep fun a ha => he a ?_⟩
  exact List.mem_cons_of_mem _ (List.mem_cons_of_mem _ (List.mem_cons_of_mem _ ha))
theorem MI.keepG (h : MI I lv p W u H hl S T D L tp pc) (h0 : ∀ j ∈ [18, 53, 58, 2, 17], I' 284 j = I 284 j) (he : ∀ a ∈ [293, 299, 296, 302, 303, 304, 305, 306, 307, 308, 309, 310, 301, 314, 318, 326, 327, 322, 323, 324, 285], I' a = I a) : MI I' lv p W u H hl S T D L tp pc := by
  obtain ⟨h1, h2, h3, ⟨h4, h5, h6⟩, h7, h8, h9, h10⟩ := h
  refine ⟨h1.keepG (h0 _ (by decide)) (fun a ha => he a (List.mem_append_left [301, 314, 318, 326, 327, 322, 323, 324, 285] ha)), by rw [he _ (by decide)]; exact h2, by rw [he _ (by decide)]; exact h3, ⟨h4, (h0 _ (by decide)).trans h5, by rw [he _ (by decide)]; exact h6⟩, ?_, ?_, ?_, (h0 _ (by decide)).trans h10⟩
  · rw [he 326 (by decide), he 327 (by decide)]
    exact h7
  · unfold mo_T
    rw [he 322 (by decide), he 323 (by decide), he 324 (by decide), h0 _ (by decide)]
    exact h8
  · rw [he 285 (by decide), h0 _ (by decide)]
    exact h9
theorem MI.keepC (h : MI I lv p W u H hl S T D L tp pc) (e : ∀ a, 284 ≤ a → I' a = I a) : MI I' lv p W u H hl S T D L tp pc := by
  refine h.keepG (fun j _ => by rw [e _ (by decide)]) (fun a ha => e a ?_)
  revert a
  decide
theorem MI.keepQ (h : MI I lv p W u H hl S T D L tp pc) (e : em_fQ I I') : MI I' lv p W u H hl S T D L tp pc := by
  refine h.keepG (fun j hj => e _ _ (by decide) (fun q => ?_)) (fun a ha => ?_)
  · have := q.2
    revert j
    decide
  · funext j
    have hd : ∀ a ∈ [293, 299, 296, 302, 303, 304, 305, 306, 307, 308, 309, 310, 301, 314, 318, 326, 327, 322, 323, 324, 285], a ∉ em_mQ ∧ a ≠ 284 := by decide
    exact e a j (hd a ha).1 (fun q => (hd a ha).2 q.1)
theorem em_fQ.lo (e : em_fQ I I') : ∀ a, a < 284 → I' a = I a := fun a ha => by
  funext j
  refine e a j ?_ (fun q => by omega)
  simp [em_mQ]
  omega
theorem em_fW.hi (e : em_fW I I') : ∀ a, 284 ≤ a → I' a = I a := fun a ha => e a (by
  simp [em_cW, em_cS]
  omega)
end INV
