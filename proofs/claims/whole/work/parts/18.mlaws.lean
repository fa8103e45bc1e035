/-! the reference: laws asked of a bed; rows copied and laid -/
/-- what asking a law changes -/
def em_fL (I I' : Nat → Nat → Int32) : Prop := ∀ a j : Nat, a ≠ 312 → a ≠ 313 → ¬ (a = 284 ∧ j = 46) → I' a j = I a j
theorem em_fL.rf {I : Nat → Nat → Int32} : em_fL I I := fun _ _ _ _ _ => rfl
theorem em_fL.tr {I I' I'' : Nat → Nat → Int32} (h : em_fL I I') (h' : em_fL I' I'') : em_fL I I'' := fun a j g1 g2 g3 => (h' a j g1 g2 g3).trans (h a j g1 g2 g3)
theorem em_fL.M {I I' : Nat → Nat → Int32} (h : em_fL I I') : em_fM I I' := fun a j g1 g2 => h a j (fun q => g1 (by rw [q]; decide)) (fun q => g1 (by rw [q]; decide)) (fun q => g2 ⟨q.1, by rw [q.2]; decide⟩)
theorem em_fL.row {I I' : Nat → Nat → Int32} (h : em_fL I I') {a : Nat} (h1 : a ≠ 312) (h2 : a ≠ 313) (h3 : a ≠ 284) : I' a = I a := by
  funext j
  exact h a j h1 h2 (fun q => h3 q.1)
section ML
variable {d lw lv n r hh : Nat} {rg : Bool} {cold hab part : Nat → Int32} {f : Nat → List Int32 → Int32} {I : Nat → Nat → Int32} {J : Nat → Nat → Int64} {M : em_M} {Q : Option Value → em_M → Prop}
theorem me_looks (hP : mo_P I lv n rg cold f) (hN : mo_N I n r hh hab part) {b : Nat} (hb : b < n) (h : ∀ I' : Nat → Nat → Int32, (∀ c, c ≠ 312 → I' c = I c) → em_v9 (I' 312) = em_vr n rg cold r hh hab part b → Q none (em_SH, I', J, em_RT lw)) : em_call (d + 3) 214 [.ref 284, .int (nI b)] (em_SH, I, J, em_RT lw) Q := by
  obtain ⟨p1, p2, p3, p4, p5⟩ := hP.1
  have st : ∀ (I : Nat → Nat → Int32) (j : Nat) (x : Int32), mo_P I lv n rg cold f → mo_P (em_u I 312 j x) lv n rg cold f := fun I j x hp => hp.keep (em_fM.row (a := 312) (by decide) (fun c hc => em_u_row hc))
  have sn : ∀ (I : Nat → Nat → Int32) (j : Nat) (x : Int32), mo_N I n r hh hab part → mo_N (em_u I 312 j x) n r hh hab part := fun I j x hp => hp.keep (em_u_row (by decide))
  iterate 6 refine em_next rfl ?_
  refine em_ialn (k := b) rfl rfl (by omega) (by decide) ?_
  refine em_iask (k := 0) rfl rfl (by decide) rfl ?_
  iterate 7 refine em_next rfl ?_
  refine em_inv_call rfl (me_leftAt1 (st _ _ _ hP) (sn _ _ _ hN) hb ?_)
  refine em_iask (k := 1) rfl rfl (by decide) rfl ?_
  iterate 7 refine em_next rfl ?_
  refine em_inv_call rfl (me_leftAt2 (st _ _ _ (st _ _ _ hP)) (sn _ _ _ (sn _ _ _ hN)) hb ?_)
  refine em_iask (k := 2) rfl rfl (by decide) rfl ?_
  iterate 8 refine em_next rfl ?_
  refine em_ialk (i := 9 + nI b) (k := 9 + b) rfl rfl (by rw [show (9 : Int32) + nI b = nI (9 + b) from (em_nadd 9 b).symm]; exact em_in_n (by omega) (by decide)) (by rw [show (9 : Int32) + nI b = nI (9 + b) from (em_nadd 9 b).symm]; exact nI_clamp (by omega)) ?_
  refine em_iask (k := 3) rfl rfl (by decide) rfl ?_
  iterate 11 refine em_next rfl ?_
  have e9 : (9 : Int32) * nI lv + nI b = nI (9 * lv + b) := by rw [em_nadd, em_nmul]; rfl
  refine em_ialk (i := 9 * I 284 18 + nI b) (k := 9 * lv + b) rfl rfl (by rw [p3, e9]; exact em_in_n (by omega) (by decide)) (by rw [p3, e9]; exact nI_clamp (by omega)) ?_
  refine em_iask (k := 4) rfl rfl (by decide) rfl ?_
  iterate 6 refine em_next rfl ?_
  refine em_ialk (k := 45) rfl rfl (by decide) rfl ?_
  iterate 2 refine em_next rfl ?_
  refine em_iask (k := 5) rfl rfl (by decide) rfl ?_
  iterate 4 refine em_next rfl ?_
  refine em_iask (k := 6) rfl rfl (by decide) rfl ?_
  iterate 4 refine em_next rfl ?_
  refine em_inv_call rfl (me_many (st _ _ _ (st _ _ _ (st _ _ _ (st _ _ _ (st _ _ _ (st _ _ _ (st _ _ _ hP))))))) ?_)
  refine em_iask (k := 7) rfl rfl (by decide) rfl ?_
  iterate 8 refine em_next rfl ?_
  refine em_ialk (i := 27 + nI b) (k := 27 + b) rfl rfl (by rw [show (27 : Int32) + nI b = nI (27 + b) from (em_nadd 27 b).symm]; exact em_in_n (by omega) (by decide)) (by rw [show (27 : Int32) + nI b = nI (27 + b) from (em_nadd 27 b).symm]; exact nI_clamp (by omega)) ?_
  refine em_iask (k := 8) rfl rfl (by decide) rfl ?_
  refine em_done rfl ?_
  refine h _ (fun c hc => ?_) ?_
  · simp only [em_u_row hc]
  · obtain ⟨n1, n2, n3⟩ := hN.2 b hb
    show [I 315 b, em_bf n rg r b, em_bh n rg r b, I 315 (9 + b), I 296 (9 * lv + b), I 315 45 - I 315 45 / 24 * 24, nI b, nI n, I 315 (27 + b)] = _
    rw [n1, n2, n3, hP.2.1 b hb, hN.1.2.2, em_rem24 hN.1.2.1]
    rfl
theorem me_law (hP : mo_P I lv n rg cold f) {k : Nat} (hk : k < 4) {v : List Int32} (hv : em_v9 (I 312) = v) (h : ∀ I' : Nat → Nat → Int32, em_fL I I' → Q (some (.int (f k v))) (em_SH, I', J, em_RT lw)) : em_call (d + 1) 215 [.ref 284, .int (nI k), .int (em_pl k (I 312))] (em_SH, I, J, em_RT lw) Q := by
  refine (hP.2.2 k hk).1 I J lw d Q (fun _ _ => rfl) hP.1.2.2.1 (fun I'' g => ?_)
  rw [hv]
  exact h I'' (fun a j _ g2 g3 => g a j g2 g3)
theorem me_liesThen (hP : mo_P I lv n rg cold f) (hN : mo_N I n r hh hab part) {b : Nat} (hb : b < n) (h : ∀ I' : Nat → Nat → Int32, em_fL I I' → Q (some (.int (em_bo (0 < f 0 (em_vr n rg cold r hh hab part b))))) (em_SH, I', J, em_RT lw)) : em_call (d + 4) 216 [.ref 284, .int (nI b)] (em_SH, I, J, em_RT lw) Q := by
  iterate 2 refine em_next rfl ?_
  refine em_inv_call rfl (me_looks hP hN hb (fun I1 g1 g2 => ?_))
  have fL : em_fL I I1 := fun a j q _ _ => by rw [g1 a q]
  iterate 5 refine em_next rfl ?_
  refine em_ialk (k := 0) rfl rfl (by decide) rfl ?_
  refine em_inv_call rfl (me_law (k := 0) (hP.keep fL.M) (by decide) g2 (fun I2 g3 => ?_))
  iterate 1 refine em_next rfl ?_
  refine em_z_le (fun q => ?_) (fun q => ?_)
  · iterate 1 refine em_next rfl ?_
    refine em_done rfl ?_
    have g := h I2 (fL.tr g3)
    rw [em_bo_f (Int32.not_lt.mpr q)] at g
    exact g
  · iterate 2 refine em_next rfl ?_
    refine em_done rfl ?_
    have g := h I2 (fL.tr g3)
    rw [em_bo_t (Int32.not_le.mp q)] at g
    exact g
theorem me_partsOf (hP : mo_P I lv n rg cold f) (hN : mo_N I n r hh hab part) {b : Nat} (hb : b < n) (h : ∀ I' : Nat → Nat → Int32, em_fL I I' → Q (some (.int (em_cl (f 1 (em_vr n rg cold r hh hab part b)) 0 99))) (em_SH, I', J, em_RT lw)) : em_call (d + 4) 217 [.ref 284, .int (nI b)] (em_SH, I, J, em_RT lw) Q := by
  iterate 2 refine em_next rfl ?_
  refine em_inv_call rfl (me_looks hP hN hb (fun I1 g1 g2 => ?_))
  have fL : em_fL I I1 := fun a j q _ _ => by rw [g1 a q]
  iterate 3 refine em_next rfl ?_
  refine em_inv_call rfl (me_law (k := 1) (hP.keep fL.M) (by decide) g2 (fun I2 g3 => ?_))
  iterate 2 refine em_next rfl ?_
  refine em_inv_call rfl (me_within ?_)
  exact em_done rfl (h I2 (fL.tr g3))
theorem me_chillsOf (hP : mo_P I lv n rg cold f) (hN : mo_N I n r hh hab part) {b : Nat} (hb : b < n) (h : ∀ I' : Nat → Nat → Int32, em_fL I I' → Q (some (.int (em_cl (f 2 (em_vr n rg cold r hh hab part b)) 0 100))) (em_SH, I', J, em_RT lw)) : em_call (d + 4) 218 [.ref 284, .int (nI b)] (em_SH, I, J, em_RT lw) Q := by
  iterate 2 refine em_next rfl ?_
  refine em_inv_call rfl (me_looks hP hN hb (fun I1 g1 g2 => ?_))
  have fL : em_fL I I1 := fun a j q _ _ => by rw [g1 a q]
  iterate 3 refine em_next rfl ?_
  refine em_inv_call rfl (me_law (k := 2) (hP.keep fL.M) (by decide) g2 (fun I2 g3 => ?_))
  iterate 2 refine em_next rfl ?_
  refine em_inv_call rfl (me_within ?_)
  exact em_done rfl (h I2 (fL.tr g3))
theorem me_costsOf (hP : mo_P I lv n rg cold f) (hN : mo_N I n r hh hab part) {b : Nat} (hb : b < n) (h : ∀ I' : Nat → Nat → Int32, em_fL I I' → Q (some (.int (em_cl (f 3 (em_vr n rg cold r hh hab part b)) 0 99))) (em_SH, I', J, em_RT lw)) : em_call (d + 4) 219 [.ref 284, .int (nI b)] (em_SH, I, J, em_RT lw) Q := by
  iterate 2 refine em_next rfl ?_
  refine em_inv_call rfl (me_looks hP hN hb (fun I1 g1 g2 => ?_))
  have fL : em_fL I I1 := fun a j q _ _ => by rw [g1 a q]
  iterate 3 refine em_next rfl ?_
  refine em_inv_call rfl (me_law (k := 3) (hP.keep fL.M) (by decide) g2 (fun I2 g3 => ?_))
  iterate 2 refine em_next rfl ?_
  refine em_inv_call rfl (me_within ?_)
  exact em_done rfl (h I2 (fL.tr g3))
end ML
