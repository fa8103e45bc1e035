/-! the class: a bed's face, its laws -/
/-- what asking a law of the class changes -/
def em_fK (I I' : Nat → Nat → Int32) : Prop := ∀ a : Nat, a ∉ [29, 32, 35, 38, 39] → I' a = I a
theorem em_fK.rf {I : Nat → Nat → Int32} : em_fK I I := fun _ _ => rfl
theorem em_fK.tr {I I' I'' : Nat → Nat → Int32} (h : em_fK I I') (h' : em_fK I' I'') : em_fK I I'' := fun a g => (h' a g).trans (h a g)
/-- a law of the class (its cell q, its steps, its stack) answers as g does -/
def cp_law (I : Nat → Nat → Int32) (q : Nat) (g : List Int32 → Int32) : Prop := ∀ (I' : Nat → Nat → Int32) (J : Nat → Nat → Int64) (lw d : Nat) (Q : Option Value → em_M → Prop), I' q = I q → I' (q + 1) = I (q + 1) →
  (∀ I'' : Nat → Nat → Int32, (∀ a : Nat, a ≠ q + 2 → I'' a = I' a) → Q (some (.int (g (em_v9 (I' 39))))) (em_SH, I'', J, em_RT lw)) → em_call d 15 [.ref q, .ref 39] (em_SH, I', J, em_RT lw) Q
/-- the class's text in force -/
def cp_P (I : Nat → Nat → Int32) (n : Nat) (rg : Bool) (cold : Nat → Int32) (f : Nat → List Int32 → Int32) : Prop :=
  (n ≤ 9 ∧ I 24 7 = nI n ∧ I 24 9 = em_bb rg) ∧ (∀ b, b < n → I 26 b = cold b) ∧ (cp_law I 27 (f 0) ∧ cp_law I 30 (f 1) ∧ cp_law I 33 (f 2) ∧ cp_law I 36 (f 3))
theorem cp_law.keep {I I' : Nat → Nat → Int32} {q : Nat} {g : List Int32 → Int32} (h : cp_law I q g) (h1 : I' q = I q) (h2 : I' (q + 1) = I (q + 1)) : cp_law I' q g := fun I2 J lw d Q a b c => h I2 J lw d Q (a.trans h1) (b.trans h2) c
/-- the rows in which the class keeps its text -/
def cp_rows : List Nat := [24, 26, 27, 28, 30, 31, 33, 34, 36, 37]
theorem cp_P.keep {I I' : Nat → Nat → Int32} {n : Nat} {rg : Bool} {cold : Nat → Int32} {f : Nat → List Int32 → Int32} (h : cp_P I n rg cold f) (he : ∀ a ∈ cp_rows, I' a = I a) : cp_P I' n rg cold f := by
  obtain ⟨⟨h1, h2, h3⟩, h4, h5, h6, h7, h8⟩ := h
  exact ⟨⟨h1, by rw [he _ (by decide)]; exact h2, by rw [he _ (by decide)]; exact h3⟩, fun b hb => by rw [he _ (by decide)]; exact h4 b hb, h5.keep (he _ (by decide)) (he _ (by decide)), h6.keep (he _ (by decide)) (he _ (by decide)), h7.keep (he _ (by decide)) (he _ (by decide)), h8.keep (he _ (by decide)) (he _ (by decide))⟩
theorem em_fK.P {I I' : Nat → Nat → Int32} (h : em_fK I I') : ∀ a ∈ cp_rows, I' a = I a := by
  intro a ha
  have hd : ∀ a ∈ cp_rows, a ∉ [29, 32, 35, 38, 39] := by decide
  exact h a (hd a ha)
section CF
variable {d lw n r hh : Nat} {rg : Bool} {cold hab part : Nat → Int32} {f : Nat → List Int32 → Int32} {I : Nat → Nat → Int32} {J : Nat → Nat → Int64} {M : em_M} {Q : Option Value → em_M → Prop}
theorem ce_hasBed (hP : cp_P I n rg cold f) {b : Int32} (h : Q (some (.int (em_bo (0 ≤ b ∧ b ≤ nI n - 1)))) (em_SH, I, J, em_RT lw)) : em_call (d + 1) 36 [.ref 24, .int b] (em_SH, I, J, em_RT lw) Q := by
  iterate 6 refine em_next rfl ?_
  rw [← hP.1.2.1] at h
  refine em_inv_call rfl (ce_within ?_)
  exact em_done (if_pos (Or.inr (Or.inl ⟨rfl, em_bo_01⟩))) h
theorem ce_allLeft (hP : cp_P I n rg cold f) (h : Q (some (.int (nI (2 ^ n - 1)))) (em_SH, I, J, em_RT lw)) : em_call d 38 [.ref 24] (em_SH, I, J, em_RT lw) Q := by
  iterate 6 refine em_next rfl ?_
  refine em_done rfl ?_
  rw [← em_all1 n (by have := hP.1.1; omega), ← hP.1.2.1] at h
  exact h
theorem ce_hasRow (hP : cp_P I n rg cold f) {b : Int32} (h : Q (some (.int (em_bo (0 ≤ b ∧ b ≤ nI (2 ^ n - 1))))) (em_SH, I, J, em_RT lw)) : em_call (d + 1) 37 [.ref 24, .int b] (em_SH, I, J, em_RT lw) Q := by
  iterate 3 refine em_next rfl ?_
  refine em_inv_call rfl (ce_allLeft hP ?_)
  refine em_inv_call rfl (ce_within ?_)
  exact em_done (if_pos (Or.inr (Or.inl ⟨rfl, em_bo_01⟩))) h
theorem ce_rowBefore (hP : cp_P I n rg cold f) (h : Q (some (.int (em_rB n rg r))) (em_SH, I, J, em_RT lw)) : em_call d 39 [.ref 24, .int (nI r)] (em_SH, I, J, em_RT lw) Q := by
  unfold em_rB at h
  iterate 2 refine em_next rfl ?_
  show em_wp em_sc0 d 39 4 _ [.int (I 24 9)] _ _
  rw [hP.1.2.2]
  iterate 1 refine em_next rfl ?_
  cases rg with
  | false =>
    refine em_z_eq (fun _ => ?_) (fun q => absurd rfl q)
    iterate 7 refine em_next rfl ?_
    exact em_done rfl h
  | true =>
    refine em_z_eq (fun q => absurd q (by decide)) (fun _ => ?_)
    iterate 15 refine em_next rfl ?_
    refine em_done rfl ?_
    rw [← hP.1.2.1] at h
    exact h
theorem ce_rowBehind (hP : cp_P I n rg cold f) (h : Q (some (.int (em_rH n rg r))) (em_SH, I, J, em_RT lw)) : em_call d 40 [.ref 24, .int (nI r)] (em_SH, I, J, em_RT lw) Q := by
  unfold em_rH at h
  iterate 2 refine em_next rfl ?_
  show em_wp em_sc0 d 40 4 _ [.int (I 24 9)] _ _
  rw [hP.1.2.2]
  iterate 1 refine em_next rfl ?_
  cases rg with
  | false =>
    refine em_z_eq (fun _ => ?_) (fun q => absurd rfl q)
    iterate 7 refine em_next rfl ?_
    exact em_done rfl h
  | true =>
    refine em_z_eq (fun q => absurd q (by decide)) (fun _ => ?_)
    iterate 15 refine em_next rfl ?_
    refine em_done rfl ?_
    rw [← hP.1.2.1] at h
    exact h
theorem ce_hourOfDay_now (hH : I 42 5 = nI hh) (hh1 : hh < 1000000) (h : Q (some (.int (nI (hh % 24)))) (em_SH, I, J, em_RT lw)) : em_call d 27 [.ref 42] (em_SH, I, J, em_RT lw) Q := by
  iterate 2 refine em_next rfl ?_
  show em_wp em_sc0 d 27 4 _ [.int (I 42 5)] _ _
  rw [hH]
  iterate 2 refine em_next rfl ?_
  refine em_done rfl ?_
  rw [← em_rem24 hh1] at h
  exact h
theorem ce_faceAt_now (hP : cp_P I n rg cold f) {b : Nat} {t : Int32} (hb : b < n) (hx : I 44 b = hab b) (hy : I 45 b = part b) (h : ∀ I' : Nat → Nat → Int32, (∀ c, c ≠ 39 → I' c = I c) → (∀ j, j < 3 → I' 39 j = I 39 j) → I' 39 3 = hab b → I' 39 4 = cold b → I' 39 5 = t → I' 39 6 = nI b → I' 39 7 = nI n → I' 39 8 = part b → Q none (em_SH, I', J, em_RT lw)) : em_call d 42 [.ref 24, .ref 42, .int (nI b), .int t] (em_SH, I, J, em_RT lw) Q := by
  have hn := hP.1.1
  iterate 6 refine em_next rfl ?_
  refine em_ialn (k := b) rfl rfl (by omega) (by decide) ?_
  refine em_iask (k := 3) rfl rfl (by decide) rfl ?_
  iterate 6 refine em_next rfl ?_
  refine em_ialn (k := b) rfl rfl (by omega) (by decide) ?_
  refine em_iask (k := 4) rfl rfl (by decide) rfl ?_
  iterate 4 refine em_next rfl ?_
  refine em_iask (k := 5) rfl rfl (by decide) rfl ?_
  iterate 4 refine em_next rfl ?_
  refine em_iask (k := 6) rfl rfl (by decide) rfl ?_
  iterate 5 refine em_next rfl ?_
  refine em_iask (k := 7) rfl rfl (by decide) rfl ?_
  iterate 6 refine em_next rfl ?_
  refine em_ialn (k := b) rfl rfl (by omega) (by decide) ?_
  refine em_iask (k := 8) rfl rfl (by decide) rfl ?_
  refine em_done rfl ?_
  refine h _ (fun c hc => by simp only [em_u_row hc]) (fun j hj => ?_) ?_ ?_ rfl rfl ?_ ?_
  · rw [em_u_ne (by omega), em_u_ne (by omega), em_u_ne (by omega), em_u_ne (by omega), em_u_ne (by omega), em_u_ne (by omega)]
  · exact hx
  · exact hP.2.1 b hb
  · exact hP.1.2.1
  · exact hy
theorem ce_face_now (hP : cp_P I n rg cold f) (hR : I 42 4 = nI r) (hr : r < 2 ^ n) (hH : I 42 5 = nI hh) (hh1 : hh < 1000000) {b : Nat} (hb : b < n) (hx : I 44 b = hab b) (hy : I 45 b = part b) (h : ∀ I' : Nat → Nat → Int32, (∀ c, c ≠ 39 → I' c = I c) → em_v9 (I' 39) = em_vr n rg cold r hh hab part b → Q none (em_SH, I', J, em_RT lw)) : em_call (d + 1) 41 [.ref 24, .ref 42, .int (nI b)] (em_SH, I, J, em_RT lw) Q := by
  have hn := hP.1.1
  have hp9 := em_pow9 hn
  iterate 4 refine em_next rfl ?_
  refine em_inv_call rfl (ce_hourOfDay_now hH hh1 ?_)
  refine em_inv_call rfl (ce_faceAt_now hP hb hx hy (fun I1 a0 a1 a3 a4 a5 a6 a7 a8 => ?_))
  have st : ∀ (I2 : Nat → Nat → Int32), (∀ c, c ≠ 39 → I2 c = I c) → cp_P I2 n rg cold f := fun I2 g => hP.keep (fun a ha => g a (fun q => by rw [q] at ha; exact absurd ha (by decide)))
  iterate 5 refine em_next rfl ?_
  show em_wp em_sc0 (d + 1) 41 19 _ [.int (I1 42 4), .int 0, .ref 39] _ _
  rw [a0 42 (by decide), hR]
  iterate 4 refine em_next rfl ?_
  refine em_iask (k := 0) rfl rfl (by decide) rfl ?_
  iterate 6 refine em_next rfl ?_
  show em_wp em_sc0 (d + 1) 41 34 _ [.int (em_u I1 39 0 ((nI r >>> (nI b &&& 31)) &&& 1) 42 4), .ref 24, .int 1, .ref 39] _ _
  rw [em_u_row (by decide), a0 42 (by decide), hR]
  refine em_inv_call rfl (ce_rowBefore (st _ (fun c hc => by rw [em_u_row hc]; exact a0 c hc)) ?_)
  iterate 4 refine em_next rfl ?_
  refine em_iask (k := 1) rfl rfl (by decide) rfl ?_
  iterate 6 refine em_next rfl ?_
  show em_wp em_sc0 (d + 1) 41 52 _ [.int (em_u (em_u I1 39 0 ((nI r >>> (nI b &&& 31)) &&& 1)) 39 1 ((em_rB n rg r >>> (nI b &&& 31)) &&& 1) 42 4), .ref 24, .int 2, .ref 39] _ _
  rw [em_u_row (by decide), em_u_row (by decide), a0 42 (by decide), hR]
  refine em_inv_call rfl (ce_rowBehind (st _ (fun c hc => by rw [em_u_row hc, em_u_row hc]; exact a0 c hc)) ?_)
  iterate 4 refine em_next rfl ?_
  refine em_iask (k := 2) rfl rfl (by decide) rfl ?_
  refine em_done rfl ?_
  refine h _ (fun c hc => by rw [em_u_row hc, em_u_row hc, em_u_row hc]; exact a0 c hc) ?_
  show [(nI r >>> (nI b &&& 31)) &&& 1, (em_rB n rg r >>> (nI b &&& 31)) &&& 1, (em_rH n rg r >>> (nI b &&& 31)) &&& 1, I1 39 3, I1 39 4, I1 39 5, I1 39 6, I1 39 7, I1 39 8] = _
  rw [em_bitC r (by omega) b (by omega), em_rB_ok n (by omega) r hr b hb rg, em_rH_ok n (by omega) r hr b hb rg, a3, a4, a5, a6, a7, a8]
  rfl
theorem ce_hourOfDay_dnight (hH : I 271 5 = nI hh) (hh1 : hh < 1000000) (h : Q (some (.int (nI (hh % 24)))) (em_SH, I, J, em_RT lw)) : em_call d 27 [.ref 271] (em_SH, I, J, em_RT lw) Q := by
  iterate 2 refine em_next rfl ?_
  show em_wp em_sc0 d 27 4 _ [.int (I 271 5)] _ _
  rw [hH]
  iterate 2 refine em_next rfl ?_
  refine em_done rfl ?_
  rw [← em_rem24 hh1] at h
  exact h
theorem ce_faceAt_dnight (hP : cp_P I n rg cold f) {b : Nat} {t : Int32} (hb : b < n) (hx : I 273 b = hab b) (hy : I 274 b = part b) (h : ∀ I' : Nat → Nat → Int32, (∀ c, c ≠ 39 → I' c = I c) → (∀ j, j < 3 → I' 39 j = I 39 j) → I' 39 3 = hab b → I' 39 4 = cold b → I' 39 5 = t → I' 39 6 = nI b → I' 39 7 = nI n → I' 39 8 = part b → Q none (em_SH, I', J, em_RT lw)) : em_call d 42 [.ref 24, .ref 271, .int (nI b), .int t] (em_SH, I, J, em_RT lw) Q := by
  have hn := hP.1.1
  iterate 6 refine em_next rfl ?_
  refine em_ialn (k := b) rfl rfl (by omega) (by decide) ?_
  refine em_iask (k := 3) rfl rfl (by decide) rfl ?_
  iterate 6 refine em_next rfl ?_
  refine em_ialn (k := b) rfl rfl (by omega) (by decide) ?_
  refine em_iask (k := 4) rfl rfl (by decide) rfl ?_
  iterate 4 refine em_next rfl ?_
  refine em_iask (k := 5) rfl rfl (by decide) rfl ?_
  iterate 4 refine em_next rfl ?_
  refine em_iask (k := 6) rfl rfl (by decide) rfl ?_
  iterate 5 refine em_next rfl ?_
  refine em_iask (k := 7) rfl rfl (by decide) rfl ?_
  iterate 6 refine em_next rfl ?_
  refine em_ialn (k := b) rfl rfl (by omega) (by decide) ?_
  refine em_iask (k := 8) rfl rfl (by decide) rfl ?_
  refine em_done rfl ?_
  refine h _ (fun c hc => by simp only [em_u_row hc]) (fun j hj => ?_) ?_ ?_ rfl rfl ?_ ?_
  · rw [em_u_ne (by omega), em_u_ne (by omega), em_u_ne (by omega), em_u_ne (by omega), em_u_ne (by omega), em_u_ne (by omega)]
  · exact hx
  · exact hP.2.1 b hb
  · exact hP.1.2.1
  · exact hy
theorem ce_face_dnight (hP : cp_P I n rg cold f) (hR : I 271 4 = nI r) (hr : r < 2 ^ n) (hH : I 271 5 = nI hh) (hh1 : hh < 1000000) {b : Nat} (hb : b < n) (hx : I 273 b = hab b) (hy : I 274 b = part b) (h : ∀ I' : Nat → Nat → Int32, (∀ c, c ≠ 39 → I' c = I c) → em_v9 (I' 39) = em_vr n rg cold r hh hab part b → Q none (em_SH, I', J, em_RT lw)) : em_call (d + 1) 41 [.ref 24, .ref 271, .int (nI b)] (em_SH, I, J, em_RT lw) Q := by
  have hn := hP.1.1
  have hp9 := em_pow9 hn
  iterate 4 refine em_next rfl ?_
  refine em_inv_call rfl (ce_hourOfDay_dnight hH hh1 ?_)
  refine em_inv_call rfl (ce_faceAt_dnight hP hb hx hy (fun I1 a0 a1 a3 a4 a5 a6 a7 a8 => ?_))
  have st : ∀ (I2 : Nat → Nat → Int32), (∀ c, c ≠ 39 → I2 c = I c) → cp_P I2 n rg cold f := fun I2 g => hP.keep (fun a ha => g a (fun q => by rw [q] at ha; exact absurd ha (by decide)))
  iterate 5 refine em_next rfl ?_
  show em_wp em_sc0 (d + 1) 41 19 _ [.int (I1 271 4), .int 0, .ref 39] _ _
  rw [a0 271 (by decide), hR]
  iterate 4 refine em_next rfl ?_
  refine em_iask (k := 0) rfl rfl (by decide) rfl ?_
  iterate 6 refine em_next rfl ?_
  show em_wp em_sc0 (d + 1) 41 34 _ [.int (em_u I1 39 0 ((nI r >>> (nI b &&& 31)) &&& 1) 271 4), .ref 24, .int 1, .ref 39] _ _
  rw [em_u_row (by decide), a0 271 (by decide), hR]
  refine em_inv_call rfl (ce_rowBefore (st _ (fun c hc => by rw [em_u_row hc]; exact a0 c hc)) ?_)
  iterate 4 refine em_next rfl ?_
  refine em_iask (k := 1) rfl rfl (by decide) rfl ?_
  iterate 6 refine em_next rfl ?_
  show em_wp em_sc0 (d + 1) 41 52 _ [.int (em_u (em_u I1 39 0 ((nI r >>> (nI b &&& 31)) &&& 1)) 39 1 ((em_rB n rg r >>> (nI b &&& 31)) &&& 1) 271 4), .ref 24, .int 2, .ref 39] _ _
  rw [em_u_row (by decide), em_u_row (by decide), a0 271 (by decide), hR]
  refine em_inv_call rfl (ce_rowBehind (st _ (fun c hc => by rw [em_u_row hc, em_u_row hc]; exact a0 c hc)) ?_)
  iterate 4 refine em_next rfl ?_
  refine em_iask (k := 2) rfl rfl (by decide) rfl ?_
  refine em_done rfl ?_
  refine h _ (fun c hc => by rw [em_u_row hc, em_u_row hc, em_u_row hc]; exact a0 c hc) ?_
  show [(nI r >>> (nI b &&& 31)) &&& 1, (em_rB n rg r >>> (nI b &&& 31)) &&& 1, (em_rH n rg r >>> (nI b &&& 31)) &&& 1, I1 39 3, I1 39 4, I1 39 5, I1 39 6, I1 39 7, I1 39 8] = _
  rw [em_bitC r (by omega) b (by omega), em_rB_ok n (by omega) r hr b hb rg, em_rH_ok n (by omega) r hr b hb rg, a3, a4, a5, a6, a7, a8]
  rfl
end CF
