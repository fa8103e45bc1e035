/-! the class: the dream from now on -/
theorem em_cpy9 {S : List (Nat × Nat)} {I : Nat → Nat → Int32} {J : Nat → Nat → Int64} {R : Nat → Nat → Option Nat} {a0 a : Nat} : em_cpy (S, I, J, R) a0 a 0 0 9 = (S, em_cpr I a0 a 9, J, R) := by
  unfold em_cpy
  dsimp only
  congr 2
  funext k j
  unfold em_cpr va_cpy
  by_cases h : k = a
  · by_cases hj : j < 9
    · rw [if_pos h, if_pos ⟨Nat.zero_le _, by omega⟩, if_pos ⟨h, hj⟩, Nat.zero_add, Nat.sub_zero]
    · rw [if_pos h, if_neg (fun q => hj (by omega)), if_neg (fun q => hj q.2), h]
  · rw [if_neg h, if_neg (fun q => h q.1)]
theorem em_cpr_row {I : Nat → Nat → Int32} {s t k a : Nat} (h : a ≠ t) : em_cpr I s t k a = I a := by
  funext j
  exact if_neg (fun q => h q.1)
theorem em_cpr_at {I : Nat → Nat → Int32} {s t k j : Nat} (h : j < k) : em_cpr I s t k t j = I s j := if_pos ⟨rfl, h⟩
section CR
variable {d lw : Nat} {P : em_Pl} {X Y : em_Nt} {lp : Bool} {part : Nat → Int32} {I I0 : Nat → Nat → Int32} {J : Nat → Nat → Int64} {M : em_M} {Q : Option Value → em_M → Prop} {v : List Int32}
theorem ce_copyDream (h : ∀ I' : Nat → Nat → Int32, (∀ a, a ∉ [271, 272, 273, 274, 275] → I' a = I a) → (∀ j, j < 9 → I' 272 j = I 43 j ∧ I' 273 j = I 44 j ∧ I' 274 j = I 45 j ∧ I' 275 j = I 46 j) → I' 271 4 = I 42 4 → I' 271 5 = I 42 5 → I' 271 6 = I 42 6 → Q none (em_SH, I', J, em_RT lw)) : em_call d 26 [.ref 271, .ref 42] (em_SH, I, J, em_RT lw) Q := by
  iterate 8 refine em_next rfl ?_
  show em_wp em_sc0 d 26 15 _ [] (em_cpy (em_SH, I, J, em_RT lw) 43 272 0 0 9) _
  rw [em_cpy9]
  iterate 8 refine em_next rfl ?_
  show em_wp em_sc0 d 26 30 _ [] (em_cpy (em_SH, em_cpr I 43 272 9, J, em_RT lw) 44 273 0 0 9) _
  rw [em_cpy9]
  iterate 8 refine em_next rfl ?_
  show em_wp em_sc0 d 26 45 _ [] (em_cpy (em_SH, em_cpr (em_cpr I 43 272 9) 44 273 9, J, em_RT lw) 45 274 0 0 9) _
  rw [em_cpy9]
  iterate 8 refine em_next rfl ?_
  show em_wp em_sc0 d 26 60 _ [] (em_cpy (em_SH, em_cpr (em_cpr (em_cpr I 43 272 9) 44 273 9) 45 274 9, J, em_RT lw) 46 275 0 0 9) _
  rw [em_cpy9]
  generalize hI4 : em_cpr (em_cpr (em_cpr (em_cpr I 43 272 9) 44 273 9) 45 274 9) 46 275 9 = I4
  have f4 : ∀ a, a ∉ [272, 273, 274, 275] → I4 a = I a := fun a ha => by
    rw [← hI4, em_cpr_row (fun q => ha (by rw [q]; decide)), em_cpr_row (fun q => ha (by rw [q]; decide)), em_cpr_row (fun q => ha (by rw [q]; decide)), em_cpr_row (fun q => ha (by rw [q]; decide))]
  iterate 12 refine em_next rfl ?_
  refine em_done rfl ?_
  show Q none (em_SH, em_u (em_u (em_u I4 271 4 (I4 42 4)) 271 5 (I4 42 5)) 271 6 (I4 42 6), J, em_RT lw)
  refine h _ (fun a ha => ?_) (fun j hj => ?_) ?_ ?_ ?_
  · have hq : a ≠ 271 := fun q => ha (by rw [q]; decide)
    rw [em_u_row hq, em_u_row hq, em_u_row hq]
    exact f4 a (fun q => ha (List.mem_cons_of_mem _ q))
  · simp only [em_u_row (show 272 ≠ 271 by decide), em_u_row (show 273 ≠ 271 by decide), em_u_row (show 274 ≠ 271 by decide), em_u_row (show 275 ≠ 271 by decide)]
    rw [← hI4]
    refine ⟨?_, ?_, ?_, ?_⟩
    · rw [em_cpr_row (by decide), em_cpr_row (by decide), em_cpr_row (by decide), em_cpr_at hj]
    · rw [em_cpr_row (by decide), em_cpr_row (by decide), em_cpr_at hj, em_cpr_row (by decide)]
    · rw [em_cpr_row (by decide), em_cpr_at hj, em_cpr_row (by decide), em_cpr_row (by decide)]
    · rw [em_cpr_at hj, em_cpr_row (by decide), em_cpr_row (by decide), em_cpr_row (by decide)]
  · rw [em_u_ne (by decide), em_u_ne (by decide), em_u_self, f4 _ (by decide)]
  · rw [em_u_ne (by decide), em_u_self, f4 _ (by decide)]
  · rw [em_u_self, f4 _ (by decide)]
/-- the class's scratch -/
def em_cS : List Nat := [29, 32, 35, 38, 39, 271, 272, 273, 274, 275, 276]
def em_fC (I I' : Nat → Nat → Int32) : Prop := ∀ a, a ∉ em_cS → I' a = I a
theorem em_fC.rf : em_fC I I := fun _ _ => rfl
theorem em_fC.tr {I' I'' : Nat → Nat → Int32} (h : em_fC I I') (h' : em_fC I' I'') : em_fC I I'' := fun a g => (h' a g).trans (h a g)
/-- the class, as its questions find it -/
def cl_S (I : Nat → Nat → Int32) (lp : Bool) (P : em_Pl) (X : em_Nt) : Prop := cp_P I P.1 P.2.1 P.2.2.1 P.2.2.2.1 ∧ ct_N I 42 P.1 X.1 X.2.1 P.2.2.2.2 X.2.2 ∧ (I 27 4 = em_bb lp ∧ em_ind lp (P.2.2.2.1 0)) ∧ cd_R I P X.2.2 ∧ X.2.1 + 1000 < 1000000
theorem cl_S.keep {I' : Nat → Nat → Int32} (h : cl_S I lp P X) (he : em_fC I I') (hR : cd_R I' P X.2.2) : cl_S I' lp P X := by
  obtain ⟨h1, h2, h3, h4, h5⟩ := h
  have hd : ∀ a ∈ cp_rows, a ∉ em_cS := by decide
  exact ⟨h1.keep (fun a ha => he a (hd a ha)), h2.keep (he _ (by decide)) (he _ (by decide)) (he _ (by decide)), ⟨by rw [he _ (by decide)]; exact h3.1, h3.2⟩, hR, h5⟩
/-- what the class's questions may change -/
def em_cW : List Nat := em_cS ++ [277, 278, 279, 280, 281, 282, 283]
def em_fW (I I' : Nat → Nat → Int32) : Prop := ∀ a, a ∉ em_cW → I' a = I a
theorem em_fW.rf : em_fW I I := fun _ _ => rfl
theorem em_fW.tr {I' I'' : Nat → Nat → Int32} (h : em_fW I I') (h' : em_fW I' I'') : em_fW I I'' := fun a g => (h' a g).trans (h a g)
theorem em_fC.W {I' : Nat → Nat → Int32} (h : em_fC I I') : em_fW I I' := fun a g => h a (fun q => g (List.mem_append_left _ q))
theorem em_fW.row {I' : Nat → Nat → Int32} {a : Nat} (ha : a ∈ em_cW) (h : ∀ b, b ≠ a → I' b = I b) : em_fW I I' := fun b g1 => h b (fun q => g1 (by rw [q]; exact ha))
theorem cl_S.keepW {I' : Nat → Nat → Int32} (h : cl_S I lp P X) (he : em_fW I I') (hR : cd_R I' P X.2.2) : cl_S I' lp P X := by
  obtain ⟨h1, h2, h3, h4, h5⟩ := h
  have hd : ∀ a ∈ cp_rows, a ∉ em_cW := by decide
  exact ⟨h1.keep (fun a ha => he a (hd a ha)), h2.keep (he _ (by decide)) (he _ (by decide)) (he _ (by decide)), ⟨by rw [he _ (by decide)]; exact h3.1, h3.2⟩, hR, h5⟩
theorem cl_S.row {I' : Nat → Nat → Int32} (h : cl_S I lp P X) {a : Nat} (ha : a ∈ [277, 278, 279, 280, 281, 282, 283]) (he : ∀ b, b ≠ a → I' b = I b) : cl_S I' lp P X := h.keepW (em_fW.row (a := a) (List.mem_append_right _ ha) he) (fun t ht b hb => by
  rw [he _ (fun q => by rw [← q] at ha; exact absurd ha (by decide))]
  exact h.2.2.2.1 t ht b hb)
theorem ce_lieAs (hS : cl_S I lp P X) {s : Nat} (hs : s < 2 ^ P.1) (h : ∀ I' : Nat → Nat → Int32, em_fC I I' → cl_S I' lp P X → cd_N I' lp P (s, X.2.1, X.2.2) → ct_N I' 271 P.1 s X.2.1 P.2.2.2.2 X.2.2 → I' 271 6 = I 42 6 → Q none (em_SH, I', J, em_RT lw)) : em_call (d + 1) 2 [.ref 270, .int (nI s)] (em_SH, I, J, em_RT lw) Q := by
  have hn := hS.1.1.1
  have hN := hS.2.1
  iterate 4 refine em_next rfl ?_
  refine em_inv_call rfl (ce_copyDream (fun I1 a1 a2 a3 a4 a5 => ?_))
  iterate 4 refine em_next rfl ?_
  refine em_done rfl ?_
  show Q none (em_SH, em_u I1 271 4 (nI s), J, em_RT lw)
  have fC : em_fC I (em_u I1 271 4 (nI s)) := fun a ha => by
    rw [em_u_row (fun q => ha (by rw [q]; decide))]
    exact a1 a (fun q => ha (by revert q; simp [em_cS]; rintro (rfl | rfl | rfl | rfl | rfl) <;> simp))
  have e1 : em_u I1 271 4 (nI s) 271 5 = nI X.2.1 := by rw [em_u_ne (by decide), a4]; exact hN.1.2.2.2
  have e2 : ∀ b, b < P.1 → em_u I1 271 4 (nI s) 273 b = P.2.2.2.2 b ∧ em_u I1 271 4 (nI s) 274 b = X.2.2 b := fun b hb => by
    rw [em_u_row (by decide), em_u_row (by decide), (a2 b (by omega)).2.1, (a2 b (by omega)).2.2.1]
    exact hN.2 b hb
  refine h _ fC (hS.keep fC (fun t ht b hb => ?_)) ⟨⟨hs, hN.1.2.1, em_u_self, e1⟩, fun _ => e2⟩ ⟨⟨hs, hN.1.2.1, em_u_self, e1⟩, e2⟩ ?_
  · rw [em_u_row (by decide), a1 _ (by decide)]
    exact hS.2.2.2.1 t ht b hb
  · rw [em_u_ne (by decide)]
    exact a5
theorem ce_passRowHour (hS : cl_S I lp P X) (hY : cd_N I lp P Y) (hy1 : Y.2.1 + 1 < 1000000) (h : ∀ I' : Nat → Nat → Int32, em_fC I I' → cl_S I' lp P X → cd_N I' lp P (em_step P true 0 Y) → Q none (em_SH, I', J, em_RT lw)) : em_call (d + 3) 5 [.ref 270] (em_SH, I, J, em_RT lw) Q := by
  obtain ⟨hP, hN, ⟨hl, hi⟩, hR, hX⟩ := id hS
  have hn := hP.1.1
  iterate 4 refine em_next rfl ?_
  show em_wp em_sc0 (d + 3) 5 10 _ [.int (I 27 4)] _ _
  rw [hl]
  iterate 1 refine em_next rfl ?_
  have est : (em_step P true 0 Y).1 = em_or P.1 (em_ly P Y) := by
    unfold em_step
    simp only [em_ch_still, Bool.xor_false]
  cases lp with
  | true =>
    refine em_z_eq (fun q => absurd q (by decide)) (fun _ => ?_)
    iterate 4 refine em_next rfl ?_
    refine em_inv_call rfl (ce_passHour_dnight (n := P.1) (rg := P.2.1) (cold := P.2.2.1) (f := P.2.2.2.1) (hab := P.2.2.2.2) (r := Y.1) (hh := Y.2.1) (part := Y.2.2) hP ⟨hY.1, hY.2 rfl⟩ hy1 (fun I1 a1 a2 a3 a4 => ?_))
    refine em_done rfl ?_
    have fC : em_fC I I1 := fun a ha => a1 a (fun q => ha (by revert q; simp [em_cS]; rintro (rfl | rfl | rfl | rfl | rfl) <;> simp))
    exact h I1 fC (hS.keep fC (fun t ht b hb => by rw [a1 _ (by decide)]; exact hR t ht b hb)) ⟨a2.1, fun _ => a2.2⟩
  | false =>
    refine em_z_eq (fun _ => ?_) (fun q => absurd rfl q)
    iterate 5 refine em_next rfl ?_
    show em_wp em_sc0 (d + 3) 5 36 _ [.int (I 271 4), .ref 24] _ _
    rw [hY.1.2.2.1]
    refine em_inv_call rfl (ce_rowBefore hP ?_)
    iterate 6 refine em_next rfl ?_
    show em_wp em_sc0 (d + 3) 5 51 _ [.int (I 271 4), .ref 24] _ _
    rw [hY.1.2.2.1]
    refine em_inv_call rfl (ce_rowBehind hP ?_)
    iterate 5 refine em_next rfl ?_
    refine ce_prh_l (I0 := I) (r := Y.1) (t := Y.2.1) (part := X.2.2) (k := 0) (m := P.1) (o := none) hP (fun b hb => hN.2 b hb) hY.1.1 hy1 hY.1.2.2.1 hY.1.2.2.2 (by omega) (fun _ _ => rfl) hR (fun I1 a1 a2 a3 a4 => ?_)
    have fC : em_fC I I1 := fun a ha => a1 a (fun q => ha (by revert q; simp [em_cS]; rintro (rfl | rfl | rfl | rfl) <;> simp))
    refine h I1 fC (hS.keep fC a2) ⟨⟨em_or_lt _ _, hy1, ?_, a4⟩, fun q => absurd q (by decide)⟩
    rw [a3, est]
    congr 1
    exact em_or_congr (fun b _ => hi.ly rfl Y.1 Y.2.1 X.2.2 Y.2.2 b)
theorem ce_rowAfter_l (hS : cl_S I lp P X) {s k m mm : Nat} (hk : k + m = mm) (hmm : mm < 1000) (hY : cd_N I lp P (em_it P true 0 k (s, X.2.1, X.2.2))) (h0 : em_fC I0 I) (h : ∀ I' : Nat → Nat → Int32, em_fC I0 I' → cl_S I' lp P X → cd_N I' lp P (em_it P true 0 mm (s, X.2.1, X.2.2)) → Q (some (.int (nI (em_ra P X.2.1 X.2.2 mm s)))) (em_SH, I', J, em_RT lw)) {o : Option Value} : em_wp em_sc0 (d + 4) 3 7 [some (.ref 270), o, some (.int (nI mm)), some (.int (nI k))] [] (em_SH, I, J, em_RT lw) Q := by
  induction m generalizing k I with
  | zero =>
    have e : k = mm := by omega
    subst e
    iterate 3 refine em_next rfl ?_
    refine em_c_ge (fun _ => ?_) (fun h1 => absurd (nI_le (Nat.le_refl _) (by omega)) h1)
    iterate 3 refine em_next rfl ?_
    refine em_done rfl ?_
    show Q (some (.int (I 271 4))) _
    rw [hY.1.2.2.1]
    exact h I h0 hS hY
  | succ m ih =>
    have hX := hS.2.2.2.2
    have hh := em_it_h P true 0 k (s, X.2.1, X.2.2)
    iterate 3 refine em_next rfl ?_
    refine em_c_ge (fun h1 => absurd h1 (nI_ge (by omega) (by omega))) (fun _ => ?_)
    iterate 1 refine em_next rfl ?_
    refine em_inv_call rfl (ce_passRowHour hS hY (by rw [hh]; dsimp only; omega) (fun I1 a1 a2 a3 => ?_))
    iterate 2 refine em_next rfl ?_
    have g := ih (k := k + 1) (I := I1) a2 (by omega) a3 (h0.tr a1)
    rw [nI_succ] at g
    exact g
theorem ce_rowAfter (hS : cl_S I lp P X) {s mm : Nat} (hs : s < 2 ^ P.1) (hmm : mm < 1000) (h : ∀ I' : Nat → Nat → Int32, em_fC I I' → cl_S I' lp P X → Q (some (.int (nI (em_ra P X.2.1 X.2.2 mm s)))) (em_SH, I', J, em_RT lw)) : em_call (d + 4) 3 [.ref 270, .int (nI s), .int (nI mm)] (em_SH, I, J, em_RT lw) Q := by
  iterate 2 refine em_next rfl ?_
  refine em_inv_call rfl (ce_lieAs hS hs (fun I1 a1 a2 a3 _ _ => ?_))
  iterate 2 refine em_next rfl ?_
  exact ce_rowAfter_l (k := 0) (m := mm) (I0 := I) a2 (by omega) hmm a3 a1 (fun I' b1 b2 _ => h I' b1 b2)
end CR
