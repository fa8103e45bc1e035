/-! the reference: its questions, one -/
def mo_S (I : Nat → Nat → Int32) (lv : Nat) (P : em_Pl) (X : em_Nt) : Prop := mo_P I lv P.1 P.2.1 P.2.2.1 P.2.2.2.1 ∧ mo_W I P.1 X.1 X.2.1 P.2.2.2.2 X.2.2 ∧ X.2.1 + 1000 < 1000000
theorem mo_S.keep {I I' : Nat → Nat → Int32} {lv : Nat} {P : em_Pl} {X : em_Nt} (h : mo_S I lv P X) (he : em_fM I I') : mo_S I' lv P X := ⟨h.1.keep he, h.2.1.keep he, h.2.2⟩
/-- what the reference's questions may change -/
def em_mQ : List Nat := [312, 313, 315, 316, 317, 319, 320, 321, 325]
def em_fQ (I I' : Nat → Nat → Int32) : Prop := ∀ a j : Nat, a ∉ em_mQ → ¬ (a = 284 ∧ j ∈ [49, 50, 46]) → I' a j = I a j
theorem em_fQ.rf {I : Nat → Nat → Int32} : em_fQ I I := fun _ _ _ _ => rfl
theorem em_fQ.tr {I I' I'' : Nat → Nat → Int32} (h : em_fQ I I') (h' : em_fQ I' I'') : em_fQ I I'' := fun a j g1 g2 => (h' a j g1 g2).trans (h a j g1 g2)
theorem em_fM.Q {I I' : Nat → Nat → Int32} (h : em_fM I I') : em_fQ I I' := fun a j g1 g2 => h a j (fun q => g1 (by revert q; simp [em_mQ]; rintro (rfl | rfl | rfl | rfl | rfl) <;> simp)) g2
theorem em_fQ.row {I I' : Nat → Nat → Int32} {a : Nat} (ha : a ∈ em_mQ) (h : ∀ b, b ≠ a → I' b = I b) : em_fQ I I' := fun b j g1 _ => by rw [h b (fun q => g1 (by rw [q]; exact ha))]
theorem mo_P.keepQ {I I' : Nat → Nat → Int32} {lv n : Nat} {rg : Bool} {cold : Nat → Int32} {f : Nat → List Int32 → Int32} (h : mo_P I lv n rg cold f) (he : em_fQ I I') : mo_P I' lv n rg cold f := by
  obtain ⟨⟨h1, h2, h3, h4, h5⟩, h6, h7⟩ := h
  refine ⟨⟨h1, h2, (he _ _ (by decide) (by decide)).trans h3, (he _ _ (by decide) (fun q => absurd q.1 (by decide))).trans h4, (he _ _ (by decide) (fun q => absurd q.1 (by decide))).trans h5⟩, fun b hb => (he _ _ (by decide) (fun q => absurd q.1 (by decide))).trans (h6 b hb), fun k hk => (h7 k hk).keep fun a ha => ?_⟩
  funext j
  have hd : ∀ a ∈ [302, 303, 304, 305, 306, 307, 308, 309, 310], a ∉ em_mQ ∧ a ≠ 284 := by decide
  exact he a j (hd a ha).1 (fun q => (hd a ha).2 q.1)
theorem mo_W.keepQ {I I' : Nat → Nat → Int32} {n r hh : Nat} {hab part : Nat → Int32} (hW : mo_W I n r hh hab part) (he : em_fQ I I') : mo_W I' n r hh hab part := by
  have e : I' 314 = I 314 := by
    funext j
    exact he _ _ (by decide) (fun q => absurd q.1 (by decide))
  unfold mo_W
  rw [e]
  exact hW
theorem mo_S.keepQ {I I' : Nat → Nat → Int32} {lv : Nat} {P : em_Pl} {X : em_Nt} (h : mo_S I lv P X) (he : em_fQ I I') : mo_S I' lv P X := ⟨h.1.keepQ he, h.2.1.keepQ he, h.2.2⟩
section MQ1
variable {d lw lv : Nat} {P : em_Pl} {X Y : em_Nt} {I I0 : Nat → Nat → Int32} {J : Nat → Nat → Int64} {M : em_M} {Q : Option Value → em_M → Prop} {stl : Bool} {sd : Int32}
theorem me_goes_l (hP : mo_P I lv P.1 P.2.1 P.2.2.1 P.2.2.2.1) {k m mm : Nat} (hk : k + m = mm) (hmm : mm < 1000) (hX : X.2.1 + 1000 < 1000000) (hN : mo_N I P.1 (em_it P stl sd k X).1 (em_it P stl sd k X).2.1 P.2.2.2.2 (em_it P stl sd k X).2.2) (hs : I 284 50 = em_bb stl) (hl : I 284 49 = sd) (h0 : em_fM I0 I) (h1 : I 315 46 = I0 315 46 + nI (em_chn P stl sd k X)) (h2 : I 315 47 = I0 315 47 + nI k) (h3 : ∀ j, P.1 ≤ j → ¬ (27 ≤ j ∧ j < 27 + P.1) → j < 45 → I 315 j = I0 315 j)
    (h : ∀ I' : Nat → Nat → Int32, em_fM I0 I' → mo_N I' P.1 (em_it P stl sd mm X).1 (em_it P stl sd mm X).2.1 P.2.2.2.2 (em_it P stl sd mm X).2.2 → I' 284 50 = em_bb stl → I' 284 49 = sd → I' 315 46 = I0 315 46 + nI (em_chn P stl sd mm X) → I' 315 47 = I0 315 47 + nI mm → (∀ j, P.1 ≤ j → ¬ (27 ≤ j ∧ j < 27 + P.1) → j < 45 → I' 315 j = I0 315 j) → Q none (em_SH, I', J, em_RT lw)) :
    em_wp em_sc0 (d + 6) 223 2 [some (.ref 284), some (.int (nI mm)), some (.int (nI k))] [] (em_SH, I, J, em_RT lw) Q := by
  induction m generalizing k I with
  | zero =>
    have e : k = mm := by omega
    subst e
    iterate 3 refine em_next rfl ?_
    refine em_c_ge (fun _ => ?_) (fun h1 => absurd (nI_le (Nat.le_refl _) (by omega)) h1)
    exact em_done rfl (h I h0 hN hs hl h1 h2 h3)
  | succ m ih =>
    iterate 3 refine em_next rfl ?_
    refine em_c_ge (fun h1 => absurd h1 (nI_ge (by omega) (by omega))) (fun _ => ?_)
    iterate 1 refine em_next rfl ?_
    have hh := em_it_h P stl sd k X
    refine em_inv_call rfl (me_hourGoes hP hN (by omega) hs hl (fun I2 a1 a2 a3 a4 a5 a6 a7 => ?_))
    iterate 2 refine em_next rfl ?_
    have g := ih (k := k + 1) (I := I2) (hP.keep a1) (by omega) a2 a3 a4 (h0.tr a1) ?_ ?_ (fun j j1 j2 j3 => (a7 j j1 j2 j3).trans (h3 j j1 j2 j3))
    · rw [nI_succ] at g
      exact g
    · rw [a5, h1, Int32.add_assoc, ← em_nadd]
      rfl
    · rw [a6, h2, Int32.add_assoc, ← nI_succ]
theorem me_goes (hP : mo_P I lv P.1 P.2.1 P.2.2.1 P.2.2.2.1) {mm : Nat} (hmm : mm < 1000) (hX : X.2.1 + 1000 < 1000000) (hN : mo_N I P.1 X.1 X.2.1 P.2.2.2.2 X.2.2) (hs : I 284 50 = em_bb stl) (hl : I 284 49 = sd)
    (h : ∀ I' : Nat → Nat → Int32, em_fM I I' → mo_N I' P.1 (em_it P stl sd mm X).1 (em_it P stl sd mm X).2.1 P.2.2.2.2 (em_it P stl sd mm X).2.2 → I' 284 50 = em_bb stl → I' 284 49 = sd → I' 315 46 = I 315 46 + nI (em_chn P stl sd mm X) → I' 315 47 = I 315 47 + nI mm → (∀ j, P.1 ≤ j → ¬ (27 ≤ j ∧ j < 27 + P.1) → j < 45 → I' 315 j = I 315 j) → Q none (em_SH, I', J, em_RT lw)) :
    em_call (d + 6) 223 [.ref 284, .int (nI mm)] (em_SH, I, J, em_RT lw) Q := by
  iterate 2 refine em_next rfl ?_
  exact me_goes_l (k := 0) (m := mm) (I0 := I) (X := X) hP (by omega) hmm hX hN hs hl em_fM.rf (Int32.add_zero _).symm (Int32.add_zero _).symm (fun _ _ _ _ => rfl) h
/-- a row some hours on -/
theorem me_rowAfter (hS : mo_S I lv P X) {s mm : Nat} (hs : s < 2 ^ P.1) (hmm : mm < 1000) (h : ∀ I' : Nat → Nat → Int32, em_fM I I' → Q (some (.int (nI (em_ra P X.2.1 X.2.2 mm s)))) (em_SH, I', J, em_RT lw)) : em_call (d + 7) 224 [.ref 284, .int (nI s), .int (nI mm)] (em_SH, I, J, em_RT lw) Q := by
  obtain ⟨hP, hW, hX⟩ := hS
  have hn := hP.1.2.1
  iterate 1 refine em_next rfl ?_
  refine em_inv_call rfl (me_copiesStill hP (fun I1 a1 a2 a3 => ?_))
  have hP1 := hP.keep a1
  have hN1 := hW.row hn a2
  iterate 2 refine em_next rfl ?_
  refine em_inv_call rfl (me_laysRow hP1 hs (fun I2 b1 b2 b3 => ?_))
  have f2 : em_fM I1 I2 := em_fM.row (a := 315) (by decide) b1
  have hN2 : mo_N I2 P.1 s X.2.1 P.2.2.2.2 X.2.2 := ⟨⟨hs, hN1.1.2.1, (b3 45 (by omega)).trans hN1.1.2.2⟩, fun b hb => ⟨b2 b hb, (b3 _ (by omega)).trans (hN1.2 b hb).2.1, (b3 _ (by omega)).trans (hN1.2 b hb).2.2⟩⟩
  iterate 2 refine em_next rfl ?_
  refine em_inv_call rfl (me_goes (X := (s, X.2.1, X.2.2)) (stl := true) (sd := I2 284 49) (hP1.keep f2) hmm hX hN2 (by rw [b1 _ (by decide)]; exact a3) rfl (fun I3 c1 c2 _ _ _ _ _ => ?_))
  iterate 1 refine em_next rfl ?_
  refine em_inv_call rfl (me_rowBits ((hP1.keep f2).keep c1) c2 ?_)
  refine em_done rfl ?_
  have g := h I3 ((a1.tr f2).tr c1)
  unfold em_ra at g
  rw [← em_it_still P (I2 284 49)] at g
  exact g
end MQ1
