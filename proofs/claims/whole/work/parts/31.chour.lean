/-! the class: laws asked, an hour -/
section CH
variable {d lw n r hh : Nat} {rg : Bool} {cold hab part : Nat → Int32} {f : Nat → List Int32 → Int32} {I : Nat → Nat → Int32} {J : Nat → Nat → Int64} {M : em_M} {Q : Option Value → em_M → Prop} {v : List Int32}
theorem ce_liesLeft (hP : cp_P I n rg cold f) (hv : em_v9 (I 39) = v) (h : ∀ I' : Nat → Nat → Int32, (∀ a, a ≠ 29 → I' a = I a) → Q (some (.int (em_bo (0 < f 0 v)))) (em_SH, I', J, em_RT lw)) : em_call (d + 1) 43 [.ref 24] (em_SH, I, J, em_RT lw) Q := by
  iterate 4 refine em_next rfl ?_
  refine em_inv_call rfl (hP.2.2.1 I J lw _ _ rfl rfl (fun I1 g => ?_))
  rw [hv]
  iterate 1 refine em_next rfl ?_
  refine em_z_le (fun q => ?_) (fun q => ?_)
  · iterate 1 refine em_next rfl ?_
    refine em_done rfl ?_
    have g := h I1 g
    rw [em_bo_f (Int32.not_lt.mpr q)] at g
    exact g
  · iterate 2 refine em_next rfl ?_
    refine em_done rfl ?_
    have g := h I1 g
    rw [em_bo_t (Int32.not_le.mp q)] at g
    exact g
theorem ce_partingGrowth (hP : cp_P I n rg cold f) (hv : em_v9 (I 39) = v) (h : ∀ I' : Nat → Nat → Int32, (∀ a, a ≠ 32 → I' a = I a) → Q (some (.int (em_cl (f 1 v) 0 99))) (em_SH, I', J, em_RT lw)) : em_call (d + 1) 44 [.ref 24] (em_SH, I, J, em_RT lw) Q := by
  iterate 4 refine em_next rfl ?_
  refine em_inv_call rfl (hP.2.2.2.1 I J lw _ _ rfl rfl (fun I1 g => ?_))
  rw [hv]
  iterate 2 refine em_next rfl ?_
  refine em_inv_call rfl (ce_heldTo ?_)
  exact em_done rfl (h I1 g)
theorem ce_chillChance (hP : cp_P I n rg cold f) (hv : em_v9 (I 39) = v) (h : ∀ I' : Nat → Nat → Int32, (∀ a, a ≠ 35 → I' a = I a) → Q (some (.int (em_cl (f 2 v) 0 100))) (em_SH, I', J, em_RT lw)) : em_call (d + 1) 45 [.ref 24] (em_SH, I, J, em_RT lw) Q := by
  iterate 4 refine em_next rfl ?_
  refine em_inv_call rfl (hP.2.2.2.2.1 I J lw _ _ rfl rfl (fun I1 g => ?_))
  rw [hv]
  iterate 2 refine em_next rfl ?_
  refine em_inv_call rfl (ce_heldTo ?_)
  exact em_done rfl (h I1 g)
theorem ce_turningCost (hP : cp_P I n rg cold f) (hv : em_v9 (I 39) = v) (h : ∀ I' : Nat → Nat → Int32, (∀ a, a ≠ 38 → I' a = I a) → Q (some (.int (em_cl (f 3 v) 0 99))) (em_SH, I', J, em_RT lw)) : em_call (d + 1) 46 [.ref 24] (em_SH, I, J, em_RT lw) Q := by
  iterate 4 refine em_next rfl ?_
  refine em_inv_call rfl (hP.2.2.2.2.2 I J lw _ _ rfl rfl (fun I1 g => ?_))
  rw [hv]
  iterate 2 refine em_next rfl ?_
  refine em_inv_call rfl (ce_heldTo ?_)
  exact em_done rfl (h I1 g)
end CH
/-- how a night of the class lies -/
def ct_N (I : Nat → Nat → Int32) (q n r h : Nat) (hab part : Nat → Int32) : Prop := (r < 2 ^ n ∧ h < 1000000 ∧ I q 4 = nI r ∧ I q 5 = nI h) ∧ ∀ b, b < n → I (q + 2) b = hab b ∧ I (q + 3) b = part b
theorem ct_N.keep {I I' : Nat → Nat → Int32} {q n r h : Nat} {hab part : Nat → Int32} (hN : ct_N I q n r h hab part) (h0 : I' q = I q) (h2 : I' (q + 2) = I (q + 2)) (h3 : I' (q + 3) = I (q + 3)) : ct_N I' q n r h hab part := by
  unfold ct_N
  rw [h0, h2, h3]
  exact hN
section CH2
variable {d lw n r hh : Nat} {rg : Bool} {cold hab part : Nat → Int32} {f : Nat → List Int32 → Int32} {I I0 : Nat → Nat → Int32} {J : Nat → Nat → Int64} {M : em_M} {Q : Option Value → em_M → Prop} {v : List Int32}
theorem ce_passHour_l_now (hP : cp_P I0 n rg cold f) (hN : ct_N I0 42 n r hh hab part) {k m : Nat} (hk : k + m = n) (h0 : ∀ a, a ∉ [29, 32, 39, 45] → I a = I0 a) (h1 : ∀ b, b < k → I 45 b = em_pt (n, rg, cold, f, hab) (r, hh, part) b) (h2 : ∀ b, k ≤ b → I 45 b = I0 45 b) {o : Option Value}
    (h : ∀ I' : Nat → Nat → Int32, (∀ a, a ∉ [29, 32, 39, 45, 42] → I' a = I0 a) → ct_N I' 42 n (em_or n (em_ly (n, rg, cold, f, hab) (r, hh, part))) (hh + 1) hab (em_pt (n, rg, cold, f, hab) (r, hh, part)) → I' 42 6 = I0 42 6 → (∀ b, n ≤ b → I' 45 b = I0 45 b) → Q none (em_SH, I', J, em_RT lw)) (hb1 : hh + 1 < 1000000) :
    em_wp em_sc0 (d + 2) 48 4 [some (.ref 24), some (.ref 42), some (.int (nI (em_or k (em_ly (n, rg, cold, f, hab) (r, hh, part))))), some (.int (nI k)), o] [] (em_SH, I, J, em_RT lw) Q := by
  have hn := hP.1.1
  have hPk : ∀ I2 : Nat → Nat → Int32, (∀ a, a ∉ [29, 32, 39, 45] → I2 a = I0 a) → cp_P I2 n rg cold f := fun I2 g => hP.keep (fun a ha => g a (by revert a; decide))
  induction m generalizing k I o with
  | zero =>
    have e : k = n := by omega
    subst e
    iterate 3 refine em_next rfl ?_
    show em_wp em_sc0 (d + 2) 48 9 _ [.int (I 24 7), .int (nI k)] _ _
    rw [(hPk I h0).1.2.1]
    iterate 1 refine em_next rfl ?_
    refine em_c_ge (fun _ => ?_) (fun h1 => absurd (nI_le (Nat.le_refl _) (by omega)) h1)
    iterate 9 refine em_next rfl ?_
    refine em_done rfl ?_
    show Q none (em_SH, em_u (em_u I 42 4 (nI (em_or k (em_ly (k, rg, cold, f, hab) (r, hh, part))))) 42 5 (I 42 5 + 1), J, em_RT lw)
    refine h _ (fun a ha => ?_) ⟨⟨em_or_lt _ _, hb1, ?_, ?_⟩, fun b hb => ⟨?_, ?_⟩⟩ ?_ (fun b hb => ?_)
    · have hq : a ≠ 42 := fun q => ha (by rw [q]; decide)
      rw [em_u_row hq, em_u_row hq]
      exact h0 a (fun q => ha (by revert q; simp; rintro (rfl | rfl | rfl | rfl) <;> simp))
    · rw [em_u_ne (by decide), em_u_self]
    · rw [em_u_self, h0 _ (by decide), hN.1.2.2.2, nI_succ]
    · rw [em_u_row (by decide), em_u_row (by decide), h0 _ (by decide)]
      exact (hN.2 b hb).1
    · rw [em_u_row (by decide), em_u_row (by decide)]
      exact h1 b hb
    · rw [em_u_ne (by decide), em_u_ne (by decide), h0 _ (by decide)]
    · rw [em_u_row (by decide), em_u_row (by decide)]
      exact h2 b hb
  | succ m ih =>
    iterate 3 refine em_next rfl ?_
    show em_wp em_sc0 (d + 2) 48 9 _ [.int (I 24 7), .int (nI k)] _ _
    rw [(hPk I h0).1.2.1]
    iterate 1 refine em_next rfl ?_
    refine em_c_ge (fun h1 => absurd h1 (nI_ge (by omega) (by omega))) (fun _ => ?_)
    iterate 3 refine em_next rfl ?_
    refine em_inv_call rfl (ce_face_now (r := r) (hh := hh) (hab := hab) (part := part) (hPk I h0) (by rw [h0 _ (by decide)]; exact hN.1.2.2.1) hN.1.1 (by rw [h0 _ (by decide)]; exact hN.1.2.2.2) hN.1.2.1 (b := k) (by omega) (by rw [h0 _ (by decide)]; exact (hN.2 k (by omega)).1) (by rw [h2 k (Nat.le_refl _)]; exact (hN.2 k (by omega)).2) (fun I1 a1 a2 => ?_))
    have b1 : ∀ a, a ∉ [29, 32, 39, 45] → I1 a = I0 a := fun a ha => (a1 a (fun q => ha (by rw [q]; decide))).trans (h0 a ha)
    have b3 : I1 45 = I 45 := a1 _ (by decide)
    iterate 2 refine em_next rfl ?_
    refine em_inv_call rfl (ce_liesLeft (hPk I1 b1) a2 (fun I2 c1 => ?_))
    have b2 : ∀ a, a ∉ [29, 32, 39, 45] → I2 a = I0 a := fun a ha => (c1 a (fun q => ha (by rw [q]; decide))).trans (b1 a ha)
    have b4 : I2 45 = I 45 := (c1 _ (by decide)).trans b3
    have bv : em_v9 (I2 39) = em_vr n rg cold r hh hab part k := by rw [c1 _ (by decide)]; exact a2
    have t57 : ∀ (I3 : Nat → Nat → Int32) (g : Int32) (o1 : Option Value), (∀ a, a ∉ [29, 32, 39, 45] → I3 a = I0 a) → I3 45 = I 45 → g = (if r.testBit k then em_gr (n, rg, cold, f, hab) (r, hh, part) k else -em_gr (n, rg, cold, f, hab) (r, hh, part) k) → em_wp em_sc0 (d + 2) 48 57 [some (.ref 24), some (.ref 42), some (.int (nI (em_or (k + 1) (em_ly (n, rg, cold, f, hab) (r, hh, part))))), some (.int (nI k)), o1] [.int g] (em_SH, I3, J, em_RT lw) Q := by
      intro I3 g o1 d1 d2 d3
      iterate 7 refine em_next rfl ?_
      refine em_ialn (k := k) rfl rfl (by omega) (by decide) ?_
      iterate 4 refine em_next rfl ?_
      refine em_inv_call rfl (ce_heldTo ?_)
      refine em_iasn (k := k) rfl rfl (by omega) (by decide) ?_
      iterate 2 refine em_next rfl ?_
      have e3 : I3 45 k = part k := by rw [d2, h2 k (Nat.le_refl _)]; exact (hN.2 k (by omega)).2
      have gg := ih (k := k + 1) (I := em_u I3 45 k (em_cl (I3 45 k + g) (-9999) 9999)) (o := some (.int g)) (by omega) (fun a ha => by rw [em_u_row (fun q => ha (by rw [q]; decide))]; exact d1 a ha) (fun b hb => ?_) (fun b hb => ?_)
      · rw [nI_succ] at gg
        exact gg
      · by_cases hbk : b = k
        · subst hbk
          rw [em_u_self, e3, d3]
          rfl
        · rw [em_u_ne hbk, d2]
          exact h1 b (by omega)
      · rw [em_u_ne (by omega), d2]
        exact h2 b (by omega)
    have own : I2 39 0 = em_bit r k := congrArg (fun l => l.getD 0 0) bv
    have t33 : ∀ w : Int32, nI (em_or k (em_ly (n, rg, cold, f, hab) (r, hh, part))) ||| w = nI (em_or (k + 1) (em_ly (n, rg, cold, f, hab) (r, hh, part))) → em_wp em_sc0 (d + 2) 48 33 [some (.ref 24), some (.ref 42), some (.int (nI (em_or k (em_ly (n, rg, cold, f, hab) (r, hh, part))))), some (.int (nI k)), o] [.int w, .int (nI (em_or k (em_ly (n, rg, cold, f, hab) (r, hh, part))))] (em_SH, I2, J, em_RT lw) Q := by
      intro w hw
      iterate 1 refine em_next rfl ?_
      show em_wp em_sc0 (d + 2) 48 34 _ [.int (nI (em_or k (em_ly (n, rg, cold, f, hab) (r, hh, part))) ||| w)] _ _
      rw [hw]
      iterate 4 refine em_next rfl ?_
      refine em_ialk (k := 0) rfl rfl (by decide) rfl ?_
      rw [own]
      iterate 2 refine em_next rfl ?_
      refine em_c_ne (fun q => ?_) (fun q => ?_)
      · iterate 1 refine em_next rfl ?_
        refine em_inv_call rfl (ce_partingGrowth (hPk I2 b2) bv (fun I3 e1 => ?_))
        iterate 1 refine em_next rfl ?_
        refine t57 I3 _ _ (fun a ha => (e1 a (fun q => ha (by rw [q]; decide))).trans (b2 a ha)) ((e1 _ (by decide)).trans b4) ?_
        rw [if_neg]
        · rfl
        · intro hb
          exact q (by rw [em_bit_bb, hb]; rfl)
      · iterate 1 refine em_next rfl ?_
        refine em_inv_call rfl (ce_partingGrowth (hPk I2 b2) bv (fun I3 e1 => ?_))
        iterate 1 refine em_next rfl ?_
        refine t57 I3 _ _ (fun a ha => (e1 a (fun q => ha (by rw [q]; decide))).trans (b2 a ha)) ((e1 _ (by decide)).trans b4) ?_
        rw [if_pos]
        · rfl
        · unfold em_bit at q
          split at q
          · assumption
          · exact absurd q (by decide)
    have hj := em_join1 k (by omega) (em_or k (em_ly (n, rg, cold, f, hab) (r, hh, part))) (em_or_lt _ _)
    iterate 1 refine em_next rfl ?_
    refine em_b_eq (fun q => ?_) (fun q => ?_)
    · iterate 1 refine em_next rfl ?_
      refine t33 0 ?_
      have e : em_ly (n, rg, cold, f, hab) (r, hh, part) k = false := decide_eq_false q
      show _ = nI (em_or k _ + (if em_ly (n, rg, cold, f, hab) (r, hh, part) k then 2 ^ k else 0))
      rw [e, if_neg (by decide), Nat.add_zero]
      exact Int32.or_zero
    · iterate 4 refine em_next rfl ?_
      refine t33 _ ?_
      have e : em_ly (n, rg, cold, f, hab) (r, hh, part) k = true := decide_eq_true q
      show _ = nI (em_or k _ + (if em_ly (n, rg, cold, f, hab) (r, hh, part) k then 2 ^ k else 0))
      rw [e, if_pos rfl, ← hj.1]
      rfl
/-- an hour of the class, nobody chilled -/
theorem ce_passHour_now (hP : cp_P I n rg cold f) (hN : ct_N I 42 n r hh hab part) (hb1 : hh + 1 < 1000000)
    (h : ∀ I' : Nat → Nat → Int32, (∀ a, a ∉ [29, 32, 39, 45, 42] → I' a = I a) → ct_N I' 42 n (em_step (n, rg, cold, f, hab) true 0 (r, hh, part)).1 (hh + 1) hab (em_step (n, rg, cold, f, hab) true 0 (r, hh, part)).2.2 → I' 42 6 = I 42 6 → (∀ b, n ≤ b → I' 45 b = I 45 b) → Q none (em_SH, I', J, em_RT lw)) :
    em_call (d + 2) 48 [.ref 24, .ref 42] (em_SH, I, J, em_RT lw) Q := by
  iterate 4 refine em_next rfl ?_
  refine ce_passHour_l_now (k := 0) (m := n) (o := none) hP hN (by omega) (fun _ _ => rfl) (fun b hb => by omega) (fun _ _ => rfl) (fun I' g1 g2 g3 g4 => h I' g1 ?_ g3 g4) hb1
  have e : (em_step (n, rg, cold, f, hab) true 0 (r, hh, part)).1 = em_or n (em_ly (n, rg, cold, f, hab) (r, hh, part)) := by
    unfold em_step
    simp only [em_ch_still, Bool.xor_false]
  rw [e]
  exact g2
theorem ce_passHour_l_dnight (hP : cp_P I0 n rg cold f) (hN : ct_N I0 271 n r hh hab part) {k m : Nat} (hk : k + m = n) (h0 : ∀ a, a ∉ [29, 32, 39, 274] → I a = I0 a) (h1 : ∀ b, b < k → I 274 b = em_pt (n, rg, cold, f, hab) (r, hh, part) b) (h2 : ∀ b, k ≤ b → I 274 b = I0 274 b) {o : Option Value}
    (h : ∀ I' : Nat → Nat → Int32, (∀ a, a ∉ [29, 32, 39, 274, 271] → I' a = I0 a) → ct_N I' 271 n (em_or n (em_ly (n, rg, cold, f, hab) (r, hh, part))) (hh + 1) hab (em_pt (n, rg, cold, f, hab) (r, hh, part)) → I' 271 6 = I0 271 6 → (∀ b, n ≤ b → I' 274 b = I0 274 b) → Q none (em_SH, I', J, em_RT lw)) (hb1 : hh + 1 < 1000000) :
    em_wp em_sc0 (d + 2) 48 4 [some (.ref 24), some (.ref 271), some (.int (nI (em_or k (em_ly (n, rg, cold, f, hab) (r, hh, part))))), some (.int (nI k)), o] [] (em_SH, I, J, em_RT lw) Q := by
  have hn := hP.1.1
  have hPk : ∀ I2 : Nat → Nat → Int32, (∀ a, a ∉ [29, 32, 39, 274] → I2 a = I0 a) → cp_P I2 n rg cold f := fun I2 g => hP.keep (fun a ha => g a (by revert a; decide))
  induction m generalizing k I o with
  | zero =>
    have e : k = n := by omega
    subst e
    iterate 3 refine em_next rfl ?_
    show em_wp em_sc0 (d + 2) 48 9 _ [.int (I 24 7), .int (nI k)] _ _
    rw [(hPk I h0).1.2.1]
    iterate 1 refine em_next rfl ?_
    refine em_c_ge (fun _ => ?_) (fun h1 => absurd (nI_le (Nat.le_refl _) (by omega)) h1)
    iterate 9 refine em_next rfl ?_
    refine em_done rfl ?_
    show Q none (em_SH, em_u (em_u I 271 4 (nI (em_or k (em_ly (k, rg, cold, f, hab) (r, hh, part))))) 271 5 (I 271 5 + 1), J, em_RT lw)
    refine h _ (fun a ha => ?_) ⟨⟨em_or_lt _ _, hb1, ?_, ?_⟩, fun b hb => ⟨?_, ?_⟩⟩ ?_ (fun b hb => ?_)
    · have hq : a ≠ 271 := fun q => ha (by rw [q]; decide)
      rw [em_u_row hq, em_u_row hq]
      exact h0 a (fun q => ha (by revert q; simp; rintro (rfl | rfl | rfl | rfl) <;> simp))
    · rw [em_u_ne (by decide), em_u_self]
    · rw [em_u_self, h0 _ (by decide), hN.1.2.2.2, nI_succ]
    · rw [em_u_row (by decide), em_u_row (by decide), h0 _ (by decide)]
      exact (hN.2 b hb).1
    · rw [em_u_row (by decide), em_u_row (by decide)]
      exact h1 b hb
    · rw [em_u_ne (by decide), em_u_ne (by decide), h0 _ (by decide)]
    · rw [em_u_row (by decide), em_u_row (by decide)]
      exact h2 b hb
  | succ m ih =>
    iterate 3 refine em_next rfl ?_
    show em_wp em_sc0 (d + 2) 48 9 _ [.int (I 24 7), .int (nI k)] _ _
    rw [(hPk I h0).1.2.1]
    iterate 1 refine em_next rfl ?_
    refine em_c_ge (fun h1 => absurd h1 (nI_ge (by omega) (by omega))) (fun _ => ?_)
    iterate 3 refine em_next rfl ?_
    refine em_inv_call rfl (ce_face_dnight (r := r) (hh := hh) (hab := hab) (part := part) (hPk I h0) (by rw [h0 _ (by decide)]; exact hN.1.2.2.1) hN.1.1 (by rw [h0 _ (by decide)]; exact hN.1.2.2.2) hN.1.2.1 (b := k) (by omega) (by rw [h0 _ (by decide)]; exact (hN.2 k (by omega)).1) (by rw [h2 k (Nat.le_refl _)]; exact (hN.2 k (by omega)).2) (fun I1 a1 a2 => ?_))
    have b1 : ∀ a, a ∉ [29, 32, 39, 274] → I1 a = I0 a := fun a ha => (a1 a (fun q => ha (by rw [q]; decide))).trans (h0 a ha)
    have b3 : I1 274 = I 274 := a1 _ (by decide)
    iterate 2 refine em_next rfl ?_
    refine em_inv_call rfl (ce_liesLeft (hPk I1 b1) a2 (fun I2 c1 => ?_))
    have b2 : ∀ a, a ∉ [29, 32, 39, 274] → I2 a = I0 a := fun a ha => (c1 a (fun q => ha (by rw [q]; decide))).trans (b1 a ha)
    have b4 : I2 274 = I 274 := (c1 _ (by decide)).trans b3
    have bv : em_v9 (I2 39) = em_vr n rg cold r hh hab part k := by rw [c1 _ (by decide)]; exact a2
    have t57 : ∀ (I3 : Nat → Nat → Int32) (g : Int32) (o1 : Option Value), (∀ a, a ∉ [29, 32, 39, 274] → I3 a = I0 a) → I3 274 = I 274 → g = (if r.testBit k then em_gr (n, rg, cold, f, hab) (r, hh, part) k else -em_gr (n, rg, cold, f, hab) (r, hh, part) k) → em_wp em_sc0 (d + 2) 48 57 [some (.ref 24), some (.ref 271), some (.int (nI (em_or (k + 1) (em_ly (n, rg, cold, f, hab) (r, hh, part))))), some (.int (nI k)), o1] [.int g] (em_SH, I3, J, em_RT lw) Q := by
      intro I3 g o1 d1 d2 d3
      iterate 7 refine em_next rfl ?_
      refine em_ialn (k := k) rfl rfl (by omega) (by decide) ?_
      iterate 4 refine em_next rfl ?_
      refine em_inv_call rfl (ce_heldTo ?_)
      refine em_iasn (k := k) rfl rfl (by omega) (by decide) ?_
      iterate 2 refine em_next rfl ?_
      have e3 : I3 274 k = part k := by rw [d2, h2 k (Nat.le_refl _)]; exact (hN.2 k (by omega)).2
      have gg := ih (k := k + 1) (I := em_u I3 274 k (em_cl (I3 274 k + g) (-9999) 9999)) (o := some (.int g)) (by omega) (fun a ha => by rw [em_u_row (fun q => ha (by rw [q]; decide))]; exact d1 a ha) (fun b hb => ?_) (fun b hb => ?_)
      · rw [nI_succ] at gg
        exact gg
      · by_cases hbk : b = k
        · subst hbk
          rw [em_u_self, e3, d3]
          rfl
        · rw [em_u_ne hbk, d2]
          exact h1 b (by omega)
      · rw [em_u_ne (by omega), d2]
        exact h2 b (by omega)
    have own : I2 39 0 = em_bit r k := congrArg (fun l => l.getD 0 0) bv
    have t33 : ∀ w : Int32, nI (em_or k (em_ly (n, rg, cold, f, hab) (r, hh, part))) ||| w = nI (em_or (k + 1) (em_ly (n, rg, cold, f, hab) (r, hh, part))) → em_wp em_sc0 (d + 2) 48 33 [some (.ref 24), some (.ref 271), some (.int (nI (em_or k (em_ly (n, rg, cold, f, hab) (r, hh, part))))), some (.int (nI k)), o] [.int w, .int (nI (em_or k (em_ly (n, rg, cold, f, hab) (r, hh, part))))] (em_SH, I2, J, em_RT lw) Q := by
      intro w hw
      iterate 1 refine em_next rfl ?_
      show em_wp em_sc0 (d + 2) 48 34 _ [.int (nI (em_or k (em_ly (n, rg, cold, f, hab) (r, hh, part))) ||| w)] _ _
      rw [hw]
      iterate 4 refine em_next rfl ?_
      refine em_ialk (k := 0) rfl rfl (by decide) rfl ?_
      rw [own]
      iterate 2 refine em_next rfl ?_
      refine em_c_ne (fun q => ?_) (fun q => ?_)
      · iterate 1 refine em_next rfl ?_
        refine em_inv_call rfl (ce_partingGrowth (hPk I2 b2) bv (fun I3 e1 => ?_))
        iterate 1 refine em_next rfl ?_
        refine t57 I3 _ _ (fun a ha => (e1 a (fun q => ha (by rw [q]; decide))).trans (b2 a ha)) ((e1 _ (by decide)).trans b4) ?_
        rw [if_neg]
        · rfl
        · intro hb
          exact q (by rw [em_bit_bb, hb]; rfl)
      · iterate 1 refine em_next rfl ?_
        refine em_inv_call rfl (ce_partingGrowth (hPk I2 b2) bv (fun I3 e1 => ?_))
        iterate 1 refine em_next rfl ?_
        refine t57 I3 _ _ (fun a ha => (e1 a (fun q => ha (by rw [q]; decide))).trans (b2 a ha)) ((e1 _ (by decide)).trans b4) ?_
        rw [if_pos]
        · rfl
        · unfold em_bit at q
          split at q
          · assumption
          · exact absurd q (by decide)
    have hj := em_join1 k (by omega) (em_or k (em_ly (n, rg, cold, f, hab) (r, hh, part))) (em_or_lt _ _)
    iterate 1 refine em_next rfl ?_
    refine em_b_eq (fun q => ?_) (fun q => ?_)
    · iterate 1 refine em_next rfl ?_
      refine t33 0 ?_
      have e : em_ly (n, rg, cold, f, hab) (r, hh, part) k = false := decide_eq_false q
      show _ = nI (em_or k _ + (if em_ly (n, rg, cold, f, hab) (r, hh, part) k then 2 ^ k else 0))
      rw [e, if_neg (by decide), Nat.add_zero]
      exact Int32.or_zero
    · iterate 4 refine em_next rfl ?_
      refine t33 _ ?_
      have e : em_ly (n, rg, cold, f, hab) (r, hh, part) k = true := decide_eq_true q
      show _ = nI (em_or k _ + (if em_ly (n, rg, cold, f, hab) (r, hh, part) k then 2 ^ k else 0))
      rw [e, if_pos rfl, ← hj.1]
      rfl
/-- an hour of the class, nobody chilled -/
theorem ce_passHour_dnight (hP : cp_P I n rg cold f) (hN : ct_N I 271 n r hh hab part) (hb1 : hh + 1 < 1000000)
    (h : ∀ I' : Nat → Nat → Int32, (∀ a, a ∉ [29, 32, 39, 274, 271] → I' a = I a) → ct_N I' 271 n (em_step (n, rg, cold, f, hab) true 0 (r, hh, part)).1 (hh + 1) hab (em_step (n, rg, cold, f, hab) true 0 (r, hh, part)).2.2 → I' 271 6 = I 271 6 → (∀ b, n ≤ b → I' 274 b = I 274 b) → Q none (em_SH, I', J, em_RT lw)) :
    em_call (d + 2) 48 [.ref 24, .ref 271] (em_SH, I, J, em_RT lw) Q := by
  iterate 4 refine em_next rfl ?_
  refine ce_passHour_l_dnight (k := 0) (m := n) (o := none) hP hN (by omega) (fun _ _ => rfl) (fun b hb => by omega) (fun _ _ => rfl) (fun I' g1 g2 g3 g4 => h I' g1 ?_ g3 g4) hb1
  have e : (em_step (n, rg, cold, f, hab) true 0 (r, hh, part)).1 = em_or n (em_ly (n, rg, cold, f, hab) (r, hh, part)) := by
    unfold em_step
    simp only [em_ch_still, Bool.xor_false]
  rw [e]
  exact g2
end CH2
