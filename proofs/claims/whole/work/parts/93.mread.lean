/-! the reference reads -/
/-- the bytes of a tape -/
def bt (tp : Nat → Int32) (j : Nat) : Nat := (tp j &&& 255).toBitVec.toNat
theorem b255 : ∀ i, i < 32 → (255#32).getLsbD i = decide (i < 8) := by decide
theorem byte_and (x : Int32) : x.toInt8.toInt32 &&& 255 = x &&& 255 := by
  refine Int32.toBitVec_inj.mp ?_
  rw [Int32.toBitVec_and, Int32.toBitVec_and]
  show ((x.toBitVec.signExtend 8).signExtend 32) &&& 255#32 = x.toBitVec &&& 255#32
  refine BitVec.eq_of_getLsbD_eq (fun i hi => ?_)
  rw [BitVec.getLsbD_and, BitVec.getLsbD_and, b255 i hi]
  by_cases h : i < 8
  · rw [BitVec.getLsbD_signExtend, BitVec.getLsbD_signExtend]
    simp [h, hi]
  · simp [h]
theorem bt_ok (tp : Nat → Int32) (j : Nat) : tp j &&& 255 = nI (bt tp j) ∧ bt tp j < 256 := by
  constructor
  · refine Int32.toBitVec_inj.mp ?_
    unfold bt nI
    show (tp j &&& 255).toBitVec = BitVec.ofNat 32 (tp j &&& 255).toBitVec.toNat
    rw [BitVec.ofNat_toNat, BitVec.setWidth_eq]
  · unfold bt
    rw [Int32.toBitVec_and]
    show ((tp j).toBitVec &&& 255#32).toNat < 256
    rw [BitVec.toNat_and]
    have : (tp j).toBitVec.toNat &&& (255#32).toNat ≤ 255 := Nat.and_le_right
    omega
theorem nar_byte (x : Int32) : vp_nar .byte x = x.toInt8.toInt32 := rfl
/-- what read() changes but for its end -/
def rdf (sd : Nat) (I I' : Nat → Nat → Int32) (J J' : Nat → Nat → Int64) : Prop := (∀ a, a ∉ [284, 286, 287, 288, 289, 311] ++ HR → I' a = I a) ∧ (∀ j ∈ [18, 53, 58], I' 284 j = I 284 j) ∧ I' 284 2 = nI 0 ∧ (∀ a ∈ HR, ∀ j, ¬ (hwd a * sd ≤ j ∧ j < hwd a * sd + hwd a) → I' a j = I a j) ∧ ∀ a, a ≠ 292 → a ≠ 290 → J' a = J a
section MREAD
variable {d lw lv : Nat} {p : em_Pn} {W W' : em_Wt} {u : Nat} {H : Nat → em_Wt} {hl : Nat → Bool} {S : Nat → em_Wt} {T : Nat} {D : em_Td} {L : Nat} {tp : Nat → Int32} {pc : Int32} {b : Nat → Nat} {nT sd : Nat} {I I0 I' I'' : Nat → Nat → Int32} {J J0 J' J'' : Nat → Nat → Int64} {M : em_M} {Q : Option Value → em_M → Prop}
theorem rdf.r (h : rdf sd I I' J J') (f : rfr sd I' I'' J' J'') : rdf sd I I'' J J'' := by
  obtain ⟨h1, h2, h3, h4, h5⟩ := h
  obtain ⟨f1, f2, f3, f4⟩ := f
  refine ⟨fun a ha => (f1 a (fun e => ha ?_)).trans (h1 a ha), fun j hj => (f2 j ?_).trans (h2 j hj), (f2 _ (by decide)).trans h3, fun a ha j hj => (f3 a ha j hj).trans (h4 a ha j hj), fun a z1 z2 => (f4 a z1).trans (h5 a z1 z2)⟩
  · rcases List.mem_cons.mp e with e | e
    · rw [e]; decide
    · rcases List.mem_cons.mp e with e | e
      · rw [e]; decide
      · exact List.mem_append_right _ e
  · revert j; decide
theorem rdf.um (h : rdf sd I I' J J') {j : Nat} {x : Int32} (hj : j ∉ [18, 53, 58, 2]) : rdf sd I (em_u I' 284 j x) J J' := by
  obtain ⟨h1, h2, h3, h4, h5⟩ := h
  refine ⟨fun a ha => by rw [em_u_row (fun e => ha (by rw [e]; decide))]; exact h1 a ha, fun i hi => by rw [em_u_ne (fun e => hj (by rw [← e]; exact List.mem_append_left [2] hi))]; exact h2 i hi, by rw [em_u_ne (fun e => hj (by rw [← e]; decide))]; exact h3, fun a ha i hi => by rw [em_u_row (HR_mo a ha)]; exact h4 a ha i hi, h5⟩
theorem MI.rd (hlv : lv < 2) (h : MI I lv p W u H hl S T D L tp pc) (f : rdf (1 - lv) I I' J J') {pc' : Int32} (hp : I' 284 17 = pc') : MI I' lv p W u H hl S T D 0 tp pc' := by
  obtain ⟨⟨⟨m1, m2, m3, m4, m5⟩, m6, m7⟩, h2, h3, ⟨h4, h5, h6⟩, h7, h8, h9, h10⟩ := h
  obtain ⟨f1, f2, f3, f4, f5⟩ := f
  have w1 : ∀ a ∈ [293, 299, 301], I' a lv = I a lv := fun a ha => by
    have hd : ∀ a ∈ [293, 299, 301], a ∈ HR ∧ hwd a = 1 := by decide
    exact f4 a (hd a ha).1 lv (by rw [(hd a ha).2]; omega)
  refine ⟨⟨⟨m1, m2, (f2 _ (by decide)).trans m3, (w1 _ (by decide)).trans m4, (w1 _ (by decide)).trans m5⟩, fun b hb => (f4 296 (by decide) _ (by rw [show hwd 296 = 9 from rfl]; omega)).trans (m6 b hb), fun k hk => ?_⟩, (w1 _ (by decide)).trans h2, by rw [f1 _ (by decide)]; exact h3, ⟨h4, (f2 _ (by decide)).trans h5, by rw [f1 _ (by decide)]; exact h6⟩, by rw [f1 _ (by decide), f1 _ (by decide)]; exact h7, ?_, ⟨by decide, f3, fun i hi => absurd hi (Nat.not_lt_zero _)⟩, hp⟩
  · obtain ⟨l, g1, g2, g3⟩ := (m7 k hk).2
    rw [g3]
    refine ml.law hlv hk g2 ((g1 hk).keep hk (fun j j1 j2 => ⟨f4 _ (by decide) j (by rw [show hwd 302 = 4 from rfl]; omega), f4 _ (by decide) j (by rw [show hwd 303 = 4 from rfl]; omega)⟩) (fun j j1 j2 => ⟨f4 _ (by decide) j (by rw [show hwd 309 = 420 from rfl]; omega), f4 _ (by decide) j (by rw [show hwd 310 = 420 from rfl]; omega)⟩) (fun a ha j j1 j2 => ?_))
    have hd : ∀ a ∈ brows, a ∈ HR ∧ hwd a = 130 := by decide
    exact f4 a (hd a ha).1 j (by rw [(hd a ha).2]; omega)
  · unfold mo_T
    rw [f1 322 (by decide), f1 323 (by decide), f1 324 (by decide), f2 _ (by decide)]
    exact h8
theorem me_copy_l {k m : Nat} (hL : L ≤ 2000) (hk : k + m = L) (hs : I 284 4 = nI L) (ht : ∀ j, j < L → I 285 j = tp j) (h0 : ∀ j, j < k → I 286 j &&& 255 = nI (bt tp j)) (h : ∀ I' : Nat → Nat → Int32, (∀ a, a ≠ 286 → I' a = I a) → (∀ j, j < L → I' 286 j &&& 255 = nI (bt tp j)) → em_wp em_sc0 d 185 36 [some (.ref 284), some (.int (nI L))] [] (em_SH, I', J, em_RT lw) Q) : em_wp em_sc0 d 185 10 [some (.ref 284), some (.int (nI k))] [] (em_SH, I, J, em_RT lw) Q := by
  induction m generalizing k I with
  | zero =>
    have e : k = L := by omega
    subst e
    iterate 4 refine em_next rfl ?_
    refine em_c_geE rfl hs (fun _ => ?_) (fun z => absurd (nI_le (Nat.le_refl _) (by omega)) z)
    exact h I (fun _ _ => rfl) h0
  | succ m ih =>
    iterate 4 refine em_next rfl ?_
    refine em_c_geE rfl hs (fun z => absurd z (nI_ge (by omega) (by omega))) (fun _ => ?_)
    iterate 6 refine em_next rfl ?_
    refine em_balE (k := k) (kd := 21) rfl rfl (Or.inl rfl) rfl (by omega) (by decide) ?_
    refine em_tp (ht k (by omega)) ?_
    refine em_bysE (k := k) rfl rfl rfl (by omega) (by decide) ?_
    have g := ih (k := k + 1) (I := em_u I 286 k (vp_nar .byte (tp k))) (by omega) (by rw [em_u_row (by decide)]; exact hs) (fun j hj => by rw [em_u_row (by decide)]; exact ht j hj) (fun j hj => ?_) (fun I' a1 a2 => h I' (fun a ha => (a1 a ha).trans (em_u_row ha)) a2)
    · rw [nI_succ] at g
      iterate 2 refine em_next rfl ?_
      exact g
    · by_cases e : j = k
      · rw [e, em_u_self, nar_byte, byte_and]
        exact (bt_ok tp k).1
      · rw [em_u_ne e]
        exact h0 j (by omega)
theorem one_sub : ∀ v, v < 2 → (1 : Int32) - nI v = nI (1 - v) := by decide
/-- up to the first tell -/
theorem me_read_1 (hlv : lv < 2) (hM : MI I lv p W u H hl S T D L tp pc) (hK : mk_J J) (h : ∀ (I' : Nat → Nat → Int32) (J' : Nat → Nat → Int64) (nT : Nat), rdf (1 - lv) I I' J J' → mx (bt tp) L nT I' J' → mU (bt tp) L (1 - lv) 0 tl_0 I' J' → em_wp em_sc0 (d + 7) 185 112 [some (.ref 284), some (.int (nI L))] [] (em_SH, I', J', em_RT lw) Q) : em_call (d + 7) 185 [.ref 284] (em_SH, I, J, em_RT lw) Q := by
  obtain ⟨hL, tL, tT⟩ := hM.2.2.2.2.2.2.1
  have lvI : I 284 18 = nI lv := hM.1.1.2.2.1
  have sd2 : 1 - lv < 2 := by omega
  iterate 6 refine em_next rfl ?_
  show em_wp em_sc0 (d + 7) 185 _ _ _ (em_SH, em_u I 284 4 (I 284 2), J, em_RT lw) Q
  rw [tL]
  refine me_copy_l (k := 0) (m := L) (tp := tp) hL (Nat.zero_add _) em_u_self (fun j hj => by rw [em_u_row (by decide)]; exact tT j hj) (fun j hj => absurd hj (Nat.not_lt_zero _)) (fun I1 a1 a2 => ?_)
  have m1 : ∀ j, j ≠ 4 → I1 284 j = I 284 j := fun j hj => by rw [a1 _ (by decide), em_u_ne hj]
  have s1 : I1 284 4 = nI L := by rw [a1 _ (by decide), em_u_self]
  have c1 : ∀ a, a ≠ 284 → a ≠ 286 → I1 a = I a := fun a z1 z2 => by rw [a1 a z2, em_u_row z1]
  iterate 3 refine em_next rfl ?_
  show em_wp em_sc0 (d + 7) 185 _ _ _ (em_SH, em_u I1 284 2 0, J, em_RT lw) Q
  have m2 : ∀ j, j ≠ 4 → j ≠ 2 → em_u I1 284 2 0 284 j = I 284 j := fun j z1 z2 => by rw [em_u_ne z2]; exact m1 j z1
  have t2 : em_u I1 284 2 0 284 2 = nI 0 := em_u_self
  have s2 : em_u I1 284 2 0 284 4 = nI L := by rw [em_u_ne (by decide)]; exact s1
  have c2 : ∀ a, a ≠ 284 → a ≠ 286 → em_u I1 284 2 0 a = I a := fun a z1 z2 => by rw [em_u_row z1]; exact c1 a z1 z2
  have x2 : ∀ j, j < L → em_u I1 284 2 0 286 j &&& 255 = nI (bt tp j) := fun j hj => by rw [em_u_row (by decide)]; exact a2 j hj
  generalize em_u I1 284 2 0 = K2 at m2 t2 s2 c2 x2 ⊢
  iterate 1 refine em_next rfl ?_
  refine em_inv_call rfl (me_cut (b := bt tp) (L := L) ⟨hL, s2, fun j hj => ⟨x2 j hj, (bt_ok tp j).2⟩⟩ hK (fun I3 J3 nT b1 b2 b3 => ?_))
  have m3 : ∀ j, j ≠ 4 → j ≠ 2 → j ≠ 10 → I3 284 j = I 284 j := fun j z1 z2 z3 => by rw [b1.2.1 j z3]; exact m2 j z1 z2
  have t3 : I3 284 2 = nI 0 := (b1.2.1 _ (by decide)).trans t2
  have c3 : ∀ a, a ∉ [284, 286, 287, 288, 289] → I3 a = I a := fun a ha => by
    rw [b1.1 a (fun e => ha (by revert e; simp; omega)), c2 a (fun e => ha (by rw [e]; decide)) (fun e => ha (by rw [e]; decide))]
  iterate 12 refine em_next rfl ?_
  show em_wp em_sc0 (d + 7) 185 _ _ _ (em_SH, em_u (em_u (em_u (em_u I3 284 11 0) 284 12 0) 284 13 0) 284 15 0, J3, em_RT lw) Q
  iterate 5 refine em_next rfl ?_
  refine em_tp (y := nI (1 - lv)) ?_ ?_
  · show (1 : Int32) - em_u (em_u (em_u (em_u I3 284 11 0) 284 12 0) 284 13 0) 284 15 0 284 18 = _
    rw [em_u_ne (by decide), em_u_ne (by decide), em_u_ne (by decide), em_u_ne (by decide), m3 _ (by decide) (by decide) (by decide), lvI]
    exact one_sub lv hlv
  iterate 4 refine em_next rfl ?_
  show em_wp em_sc0 (d + 7) 185 _ _ _ (em_SH, em_u (em_u (em_u (em_u (em_u (em_u I3 284 11 0) 284 12 0) 284 13 0) 284 15 0) 284 19 (nI (1 - lv))) 284 20 0, J3, em_RT lw) Q
  have k1 : ∀ a, a ≠ 284 → em_u (em_u (em_u (em_u (em_u (em_u I3 284 11 0) 284 12 0) 284 13 0) 284 15 0) 284 19 (nI (1 - lv))) 284 20 0 a = I3 a := fun a ha => by rw [em_u_row ha, em_u_row ha, em_u_row ha, em_u_row ha, em_u_row ha, em_u_row ha]
  have k2 : ∀ j, j ∉ [11, 12, 13, 15, 19, 20] → em_u (em_u (em_u (em_u (em_u (em_u I3 284 11 0) 284 12 0) 284 13 0) 284 15 0) 284 19 (nI (1 - lv))) 284 20 0 284 j = I3 284 j := fun j hj => by
    simp only [List.mem_cons, List.not_mem_nil, or_false, not_or] at hj
    rw [em_u_ne hj.2.2.2.2.2, em_u_ne hj.2.2.2.2.1, em_u_ne hj.2.2.2.1, em_u_ne hj.2.2.1, em_u_ne hj.2.1, em_u_ne hj.1]
  have v1 : em_u (em_u (em_u (em_u (em_u (em_u I3 284 11 0) 284 12 0) 284 13 0) 284 15 0) 284 19 (nI (1 - lv))) 284 20 0 284 11 = nI 0 := by rw [em_u_ne (by decide), em_u_ne (by decide), em_u_ne (by decide), em_u_ne (by decide), em_u_ne (by decide)]; exact em_u_self
  have v2 : em_u (em_u (em_u (em_u (em_u (em_u I3 284 11 0) 284 12 0) 284 13 0) 284 15 0) 284 19 (nI (1 - lv))) 284 20 0 284 12 = nI 0 := by rw [em_u_ne (by decide), em_u_ne (by decide), em_u_ne (by decide), em_u_ne (by decide)]; exact em_u_self
  have v3 : em_u (em_u (em_u (em_u (em_u (em_u I3 284 11 0) 284 12 0) 284 13 0) 284 15 0) 284 19 (nI (1 - lv))) 284 20 0 284 13 = nI 0 := by rw [em_u_ne (by decide), em_u_ne (by decide), em_u_ne (by decide)]; exact em_u_self
  have v4 : em_u (em_u (em_u (em_u (em_u (em_u I3 284 11 0) 284 12 0) 284 13 0) 284 15 0) 284 19 (nI (1 - lv))) 284 20 0 284 15 = nI 0 := by rw [em_u_ne (by decide), em_u_ne (by decide)]; exact em_u_self
  have v5 : em_u (em_u (em_u (em_u (em_u (em_u I3 284 11 0) 284 12 0) 284 13 0) 284 15 0) 284 19 (nI (1 - lv))) 284 20 0 284 19 = nI (1 - lv) := by rw [em_u_ne (by decide)]; exact em_u_self
  have v6 : em_u (em_u (em_u (em_u (em_u (em_u I3 284 11 0) 284 12 0) 284 13 0) 284 15 0) 284 19 (nI (1 - lv))) 284 20 0 284 20 = nI 0 := em_u_self
  generalize em_u (em_u (em_u (em_u (em_u (em_u I3 284 11 0) 284 12 0) 284 13 0) 284 15 0) 284 19 (nI (1 - lv))) 284 20 0 = K4 at k1 k2 v1 v2 v3 v4 v5 v6 ⊢
  have rd4 : rdf (1 - lv) I K4 J J3 := by
    refine ⟨fun a ha => ?_, fun j hj => ?_, ?_, fun a ha j _ => ?_, fun a z1 z2 => b1.2.2 a z2⟩
    · rw [k1 a (fun e => ha (by rw [e]; decide)), c3 a (fun e => ha (List.mem_append_left _ (by revert e; simp; omega)))]
    · have : j ∉ [11, 12, 13, 15, 19, 20] ∧ j ≠ 4 ∧ j ≠ 2 ∧ j ≠ 10 := by revert j; decide
      rw [k2 j this.1, m3 j this.2.1 this.2.2.1 this.2.2.2]
    · rw [k2 _ (by decide)]; exact t3
    · have hd : ∀ a ∈ HR, a ≠ 284 ∧ a ∉ [284, 286, 287, 288, 289] := by decide
      rw [k1 a (hd a ha).1, c3 a (hd a ha).2]
  iterate 3 refine em_next rfl ?_
  refine em_tp v5 ?_
  refine em_inv_call rfl (me_plain (sd := 1 - lv) sd2 (fun I5 d1 d2 d3 d4 d5 => ?_))
  have sd5 : I5 284 19 = nI (1 - lv) := (d2 _).trans v5
  iterate 5 refine em_next rfl ?_
  refine em_tp (y := nI (130 * (1 - lv) + 0)) (by have := em_idxE (c := 130) (k := 0) sd5; rw [show nI 0 = (0 : Int32) from rfl, Int32.add_zero] at this; exact this) ?_
  iterate 1 refine em_next rfl ?_
  show em_wp em_sc0 (d + 7) 185 _ _ _ (em_SH, em_u I5 284 33 (nI (130 * (1 - lv) + 0)), J3, em_RT lw) Q
  have sd6 : em_u I5 284 33 (nI (130 * (1 - lv) + 0)) 284 19 = nI (1 - lv) := by rw [em_u_ne (by decide)]; exact sd5
  iterate 5 refine em_next rfl ?_
  refine em_tp (y := nI (420 * (1 - lv) + 0)) (by have := em_idxE (c := 420) (k := 0) sd6; rw [show nI 0 = (0 : Int32) from rfl, Int32.add_zero] at this; exact this) ?_
  iterate 1 refine em_next rfl ?_
  have k7 : ∀ a, a ≠ 284 → em_u (em_u I5 284 33 (nI (130 * (1 - lv) + 0))) 284 39 (nI (420 * (1 - lv) + 0)) a = I5 a := fun a ha => by rw [em_u_row ha, em_u_row ha]
  have k8 : ∀ j, j ≠ 33 → j ≠ 39 → em_u (em_u I5 284 33 (nI (130 * (1 - lv) + 0))) 284 39 (nI (420 * (1 - lv) + 0)) 284 j = K4 284 j := fun j z1 z2 => by rw [em_u_ne z2, em_u_ne z1]; exact d2 j
  show em_wp em_sc0 (d + 7) 185 _ _ _ (em_SH, em_u (em_u I5 284 33 (nI (130 * (1 - lv) + 0))) 284 39 (nI (420 * (1 - lv) + 0)), J3, em_RT lw) Q
  refine h _ J3 nT (((rd4.r d1).um (by decide)).um (by decide)) ?_ ⟨⟨by decide, fun s hs => absurd hs (Nat.not_lt_zero _), ?_, ?_⟩, ?_, ?_, 0, 0, fun _ => false, ⟨?_, ?_⟩, ?_, ⟨fun j hj => absurd hj (Nat.not_lt_zero _), fun j hj => absurd hj (Nat.not_lt_zero _), fun j hj => ?_, fun j hj => absurd hj (Nat.not_lt_zero _)⟩, ⟨fun j hj => ?_, fun _ => ⟨fun j _ e => absurd (show false = true from e) (by decide), fun e => absurd e (by decide)⟩⟩, ⟨?_, ?_, fun k hk => ⟨?_, trivial⟩⟩, by decide, by decide⟩
  · have xx : mx (bt tp) L nT K4 J3 := ⟨fun t ht => by rw [k1 _ (by decide), k1 _ (by decide), k1 _ (by decide)]; exact b2 t ht, b3⟩
    exact (xx.r d1).keep (k7 _ (by decide)) (k7 _ (by decide)) (k7 _ (by decide)) rfl
  · rw [k8 _ (by decide) (by decide)]; exact v1
  · rw [k8 _ (by decide) (by decide)]; exact v3
  · rw [k8 _ (by decide) (by decide)]; exact v2
  · show _ = nI 0
    rw [k8 _ (by decide) (by decide)]; exact v4
  · rw [k8 _ (by decide) (by decide)]; exact v5
  · rw [k8 _ (by decide) (by decide)]; exact v6
  · rw [k7 _ (by decide), k7 _ (by decide), k7 _ (by decide), k7 _ (by decide), k7 _ (by decide)]; exact d3
  · rw [k7 _ (by decide)]; exact (d4 j hj).1
  · rw [k7 _ (by decide)]; exact (d4 j hj).2
  · exact em_u_self
  · rw [em_u_ne (by decide)]; exact em_u_self
  · show em_u (em_u I5 284 33 (nI (130 * (1 - lv) + 0))) 284 39 (nI (420 * (1 - lv) + 0)) 302 (4 * (1 - lv) + k) = _
    rw [k7 _ (by decide), k7 _ (by decide), (d5 k hk).1, (d5 k hk).2]
end MREAD
