/-! an hour: the spec, and the reference's -/
/-- what a text tells, with who sleeps where: many, ring, colds, laws, habits; and a night: row, hour, partings -/
abbrev em_Pl : Type := Nat × Bool × (Nat → Int32) × (Nat → List Int32 → Int32) × (Nat → Int32)
abbrev em_Nt : Type := Nat × Nat × (Nat → Int32)
def em_face (P : em_Pl) (X : em_Nt) (b : Nat) : List Int32 := em_vr P.1 P.2.1 P.2.2.1 X.1 X.2.1 P.2.2.2.2 X.2.2 b
def em_ly (P : em_Pl) (X : em_Nt) (b : Nat) : Bool := decide (0 < P.2.2.2.1 0 (em_face P X b))
def em_gr (P : em_Pl) (X : em_Nt) (b : Nat) : Int32 := em_cl (P.2.2.2.1 1 (em_face P X b)) 0 99
def em_chc (P : em_Pl) (X : em_Nt) (b : Nat) : Int32 := em_cl (P.2.2.2.1 2 (em_face P X b)) 0 100
def em_cst1 (P : em_Pl) (X : em_Nt) (b : Nat) : Int32 := em_cl (P.2.2.2.1 3 (em_face P X b)) 0 99
def em_pt (P : em_Pl) (X : em_Nt) (b : Nat) : Int32 := em_cl (X.2.2 b + (if X.1.testBit b then em_gr P X b else -em_gr P X b)) (-9999) 9999
/-- who is chilled; nobody while it is still -/
def em_ch (P : em_Pl) (stl : Bool) (sd : Int32) (X : em_Nt) (b : Nat) : Bool := !stl && decide (em_lot sd (16 * nI X.2.1 + nI b) < em_chc P X b)
def em_step (P : em_Pl) (stl : Bool) (sd : Int32) (X : em_Nt) : em_Nt := (em_or P.1 (fun b => (em_ly P X b).xor (em_ch P stl sd X b)), X.2.1 + 1, em_pt P X)
def em_it (P : em_Pl) (stl : Bool) (sd : Int32) : Nat → em_Nt → em_Nt
  | 0, X => X
  | k + 1, X => em_step P stl sd (em_it P stl sd k X)
def em_bb (x : Bool) : Int32 := cond x 1 0
theorem em_bit_bb (r b : Nat) : em_bit r b = em_bb (r.testBit b) := by
  unfold em_bit em_bb
  cases r.testBit b <;> rfl
theorem em_bo_bb (p : Prop) [Decidable p] : em_bo p = em_bb (decide p) := by
  by_cases h : p
  · rw [em_bo_t h, decide_eq_true h]; rfl
  · rw [em_bo_f h, decide_eq_false h]; rfl
def em_fH (I I' : Nat → Nat → Int32) : Prop := ∀ a j : Nat, a ∉ [312, 313, 316, 317] → ¬ (a = 284 ∧ j = 46) → ¬ (a = 315 ∧ j = 46) → I' a j = I a j
theorem em_fH.tr {I I' I'' : Nat → Nat → Int32} (h : em_fH I I') (h' : em_fH I' I'') : em_fH I I'' := fun a j g1 g2 g3 => (h' a j g1 g2 g3).trans (h a j g1 g2 g3)
theorem em_fL.H {I I' : Nat → Nat → Int32} (h : em_fL I I') : em_fH I I' := fun a j g1 g2 _ => h a j (fun q => g1 (by rw [q]; decide)) (fun q => g1 (by rw [q]; decide)) g2
theorem em_fH.M {I I' : Nat → Nat → Int32} (h : em_fH I I') : em_fM I I' := fun a j g1 g2 => h a j (fun q => g1 (by revert q; simp; rintro (rfl | rfl | rfl | rfl) <;> simp)) (fun q => g2 ⟨q.1, by rw [q.2]; decide⟩) (fun q => g1 (by rw [q.1]; decide))
theorem em_fH.u {I : Nat → Nat → Int32} {a j : Nat} {x : Int32} (h : a ∈ [312, 313, 316, 317] ∨ (a = 315 ∧ j = 46)) : em_fH I (em_u I a j x) := fun b k g1 _ g3 => if_neg (fun q => by
  rcases h with h | h
  · exact g1 (by rw [q.1]; exact h)
  · exact g3 ⟨q.1.trans h.1, q.2.trans h.2⟩)
section MG
variable {d lw lv n r hh : Nat} {rg : Bool} {cold hab part : Nat → Int32} {f : Nat → List Int32 → Int32} {I : Nat → Nat → Int32} {J : Nat → Nat → Int64} {M : em_M} {Q : Option Value → em_M → Prop} {stl : Bool} {sd : Int32}
theorem mo_N.H {I' : Nat → Nat → Int32} (hN : mo_N I n r hh hab part) (hn : n ≤ 9) (he : em_fH I I') : mo_N I' n r hh hab part := by
  have e : ∀ j, j ≠ 46 → I' 315 j = I 315 j := fun j hj => he _ _ (by decide) (fun q => absurd q.1 (by decide)) (fun q => hj q.2)
  obtain ⟨⟨h1, h2, h3⟩, h4⟩ := hN
  exact ⟨⟨h1, h2, (e 45 (by decide)).trans h3⟩, fun b hb => ⟨(e _ (by omega)).trans (h4 b hb).1, (e _ (by omega)).trans (h4 b hb).2.1, (e _ (by omega)).trans (h4 b hb).2.2⟩⟩
theorem me_hour_b (hP : mo_P I lv n rg cold f) (hN : mo_N I n r hh hab part) {k : Nat} (hk : k < n) (hs : I 284 50 = em_bb stl) (hl : I 284 49 = sd) {g pv : Int32} {o : Option Value}
    (h : ∀ I' : Nat → Nat → Int32, em_fH I I' → I' 316 k = em_bb ((em_ly (n, rg, cold, f, hab) (r, hh, part) k).xor (em_ch (n, rg, cold, f, hab) stl sd (r, hh, part) k)) → I' 317 k = em_cl (pv + g) (-9999) 9999 → (∀ b, b ≠ k → I' 316 b = I 316 b ∧ I' 317 b = I 317 b) → I' 315 46 = I 315 46 + (if em_ch (n, rg, cold, f, hab) stl sd (r, hh, part) k then 1 else 0) → em_wp em_sc0 (d + 5) 222 2 [some (.ref 284), some (.int (nI k + 1)), o] [] (em_SH, I', J, em_RT lw) Q) :
    em_wp em_sc0 (d + 5) 222 46 [some (.ref 284), some (.int (nI k)), o] [.int g, .int pv, .int (nI k), .ref 317] (em_SH, I, J, em_RT lw) Q := by
  have hn := hP.1.2.1
  iterate 3 refine em_next rfl ?_
  refine em_inv_call rfl (me_within ?_)
  refine em_iasn (k := k) rfl rfl (by omega) (by decide) ?_
  have f1 : em_fH I (em_u I 317 k (em_cl (pv + g) (-9999) 9999)) := em_fH.u (Or.inl (by decide))
  have hP1 := hP.keep f1.M
  have hN1 := hN.H hn f1
  iterate 5 refine em_next rfl ?_
  refine em_inv_call rfl (me_liesThen hP1 hN1 hk (fun I2 g2 => ?_))
  have f2 := f1.tr g2.H
  have hP2 := hP.keep f2.M
  have hN2 := hN.H hn f2
  refine em_iasn (k := k) rfl rfl (by omega) (by decide) ?_
  rw [em_bo_bb, show decide (0 < f 0 (em_vr n rg cold r hh hab part k)) = em_ly (n, rg, cold, f, hab) (r, hh, part) k from rfl]
  have f3 : em_fH I (em_u I2 316 k (em_bb (em_ly (n, rg, cold, f, hab) (r, hh, part) k))) := f2.tr (em_fH.u (Or.inl (by decide)))
  have hP3 := hP.keep f3.M
  have hN3 := hN.H hn f3
  have ep : ∀ b, I2 317 b = em_u I 317 k (em_cl (pv + g) (-9999) 9999) 317 b := fun b => by rw [g2.row (by decide) (by decide) (by decide)]
  have el : ∀ b, I2 316 b = I 316 b := fun b => by rw [g2.row (by decide) (by decide) (by decide), em_u_row (by decide)]
  have er : ∀ j, I2 315 j = I 315 j := fun j => by rw [g2.row (by decide) (by decide) (by decide), em_u_row (by decide)]
  have es : (em_u I2 316 k (em_bb (em_ly (n, rg, cold, f, hab) (r, hh, part) k))) 284 50 = em_bb stl := (f3 _ _ (by decide) (by decide) (by decide)).trans hs
  have elo : (em_u I2 316 k (em_bb (em_ly (n, rg, cold, f, hab) (r, hh, part) k))) 284 49 = sd := (f3 _ _ (by decide) (by decide) (by decide)).trans hl
  iterate 2 refine em_next rfl ?_
  show em_wp em_sc0 (d + 5) 222 72 [some (.ref 284), some (.int (nI k)), o] [.int ((em_u I2 316 k (em_bb (em_ly (n, rg, cold, f, hab) (r, hh, part) k))) 284 50)] _ _
  rw [es]
  iterate 1 refine em_next rfl ?_
  cases stl with
  | true =>
    refine em_z_ne (fun _ => ?_) (fun q => absurd q (by decide))
    iterate 2 refine em_next rfl ?_
    refine h _ f3 ?_ ?_ (fun b hb => ⟨?_, ?_⟩) ?_
    · rw [em_u_self]
      have e : em_ch (n, rg, cold, f, hab) true sd (r, hh, part) k = false := rfl
      rw [e, Bool.xor_false]
    · rw [em_u_row (by decide), ep, em_u_self]
    · rw [em_u_ne hb, el]
    · rw [em_u_row (by decide), ep, em_u_ne hb]
    · rw [em_u_row (by decide), er, show em_ch (n, rg, cold, f, hab) true sd (r, hh, part) k = false from rfl, if_neg (by decide)]
      exact (Int32.add_zero _).symm
  | false =>
    refine em_z_ne (fun q => absurd rfl q) (fun _ => ?_)
    iterate 5 refine em_next rfl ?_
    refine em_ialk (k := 45) rfl rfl (by decide) rfl ?_
    iterate 3 refine em_next rfl ?_
    refine em_inv_call rfl (me_lotOf ?_)
    iterate 2 refine em_next rfl ?_
    refine em_inv_call rfl (me_chillsOf hP3 hN3 hk (fun I4 g4 => ?_))
    have f4 := f3.tr g4.H
    have hrow : ∀ j, I4 315 j = I 315 j := fun j => by rw [g4.row (by decide) (by decide) (by decide), em_u_row (by decide), er]
    have hln : ∀ b, I4 316 b = em_u I2 316 k (em_bb (em_ly (n, rg, cold, f, hab) (r, hh, part) k)) 316 b := fun b => by rw [g4.row (by decide) (by decide) (by decide)]
    have hpn : ∀ b, I4 317 b = I2 317 b := fun b => by rw [g4.row (by decide) (by decide) (by decide), em_u_row (by decide)]
    rw [elo, hN3.1.2.2]
    iterate 1 refine em_next rfl ?_
    refine em_c_lt (fun q => ?_) (fun q => ?_)
    · have e : em_ch (n, rg, cold, f, hab) false sd (r, hh, part) k = true := by
        unfold em_ch
        rw [Bool.not_false, Bool.true_and]
        exact decide_eq_true q
      iterate 7 refine em_next rfl ?_
      refine em_ialn (k := k) rfl rfl (by omega) (by decide) ?_
      iterate 1 refine em_next rfl ?_
      refine em_iasn (k := k) rfl rfl (by omega) (by decide) ?_
      iterate 4 refine em_next rfl ?_
      refine em_ialk (k := 46) rfl rfl (by decide) rfl ?_
      iterate 2 refine em_next rfl ?_
      refine em_iask (k := 46) rfl rfl (by decide) rfl ?_
      iterate 2 refine em_next rfl ?_
      refine h _ ((f4.tr (em_fH.u (Or.inl (by decide)))).tr (em_fH.u (Or.inr ⟨rfl, rfl⟩))) ?_ ?_ (fun b hb => ⟨?_, ?_⟩) ?_
      · rw [em_u_row (by decide), em_u_self, hln, em_u_self, e, Bool.xor_true]
        cases em_ly (n, rg, cold, f, hab) (r, hh, part) k <;> rfl
      · rw [em_u_row (by decide), em_u_row (by decide), hpn, ep, em_u_self]
      · rw [em_u_row (by decide), em_u_ne hb, hln, em_u_ne hb, el]
      · rw [em_u_row (by decide), em_u_row (by decide), hpn, ep, em_u_ne hb]
      · rw [em_u_self, em_u_row (by decide), hrow, if_pos e]
        rfl
    · have e : em_ch (n, rg, cold, f, hab) false sd (r, hh, part) k = false := by
        unfold em_ch
        rw [Bool.not_false, Bool.true_and]
        exact decide_eq_false q
      iterate 3 refine em_next rfl ?_
      refine h _ f4 ?_ ?_ (fun b hb => ⟨?_, ?_⟩) ?_
      · rw [hln, em_u_self, e, Bool.xor_false]
      · rw [hpn, ep, em_u_self]
      · rw [hln, em_u_ne hb, el]
      · rw [hpn, ep, em_u_ne hb]
      · rw [hrow, e, if_neg (by decide)]
        exact (Int32.add_zero _).symm
end MG
