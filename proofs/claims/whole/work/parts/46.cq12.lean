/-! the class: its questions, eleven: who had best change beds -/
def ec_cw (x : Int32) : Int32 := if x < 0 then -3 else x
section CQ12
variable {d lw : Nat} {P P' : em_Pl} {X Y : em_Nt} {D : em_Td} {lp : Bool} {part nm tn : Nat → Int32} {I I0 : Nat → Nat → Int32} {J : Nat → Nat → Int64} {M : em_M} {Q : Option Value → em_M → Prop} {v : List Int32} {sd : Int32}
theorem ce_left_l (hS : cl_S I lp P X) (hP' : cp_P I P'.1 P'.2.1 P'.2.2.1 P'.2.2.2.1) {n k m : Nat} (hnn : n ≤ 48) (hb : Y.2.1 + 1000 < 1000000) (hk : k + m = n) (hY : cd_T I P' (em_it P' true 0 k Y)) (h : ∀ I' : Nat → Nat → Int32, em_fC I I' → cl_S I' lp P X → Q (some (.int (nI (em_li P' Y n)))) (em_SH, I', J, em_RT lw)) : em_wp em_sc0 (d + 3) 120 4 [some (.ref 279), some (.int (nI n)), some (.int (nI (em_li P' Y k))), some (.int (nI k))] [] (em_SH, I, J, em_RT lw) Q := by
  have hn := hP'.1.1
  have hp9 := em_pow9 hn
  induction m generalizing k I with
  | zero =>
    have e : k = n := by omega
    subst e
    iterate 3 refine em_next rfl ?_
    refine em_c_ge (fun _ => ?_) (fun h1 => absurd (nI_le (Nat.le_refl _) (by omega)) h1)
    iterate 1 refine em_next rfl ?_
    exact em_done rfl (h I em_fC.rf hS)
  | succ m ih =>
    have hh := em_it_h P' true 0 k Y
    iterate 3 refine em_next rfl ?_
    refine em_c_ge (fun h1 => absurd h1 (nI_ge (by omega) (by omega))) (fun _ => ?_)
    iterate 5 refine em_next rfl ?_
    refine em_inv_call rfl (ce_passHour_dnight (n := P'.1) (rg := P'.2.1) (cold := P'.2.2.1) (f := P'.2.2.2.1) (hab := P'.2.2.2.2) (r := (em_it P' true 0 k Y).1) (hh := (em_it P' true 0 k Y).2.1) (part := (em_it P' true 0 k Y).2.2) hP' hY (by omega) (fun I1 a1 a2 a3 a4 => ?_))
    have fC : em_fC I I1 := fun a ha => a1 a (fun q => ha (by revert q; simp [em_cS]; rintro (rfl | rfl | rfl | rfl | rfl) <;> simp))
    have hY1 : cd_T I1 P' (em_it P' true 0 (k + 1) Y) := a2
    have hlt := hY1.1.1
    have hd : ∀ a ∈ cp_rows, a ∉ em_cS := by decide
    iterate 5 refine em_next rfl ?_
    refine em_inv_call rfl (ce_bits hY1.1.2.2.1 (by omega) ?_)
    iterate 1 refine em_next rfl ?_
    refine em_tp (y := nI (em_li P' Y (k + 1))) (em_addN rfl rfl) ?_
    iterate 3 refine em_next rfl ?_
    have g := ih (k := k + 1) (I := I1) (hS.kR fC (a1 _ (by decide))) (hP'.keep (fun a ha => fC a (hd a ha))) (by omega) hY1 (fun I' f => h I' (fC.tr f))
    rw [nI_succ] at g
    exact g
theorem ce_left (hS : cl_S I lp P X) (hP' : cp_P I P'.1 P'.2.1 P'.2.2.1 P'.2.2.2.1) {n : Nat} (hnn : n ≤ 48) (hb : Y.2.1 + 1000 < 1000000) (hY : cd_T I P' Y) (h : ∀ I' : Nat → Nat → Int32, em_fC I I' → cl_S I' lp P X → Q (some (.int (nI (em_li P' Y n)))) (em_SH, I', J, em_RT lw)) : em_call (d + 3) 120 [.ref 279, .int (nI n)] (em_SH, I, J, em_RT lw) Q := by
  iterate 4 refine em_next rfl ?_
  exact ce_left_l (k := 0) (m := n) (Y := Y) hS hP' hnn hb (by omega) hY h
theorem ec_10 : ∀ a, a < 9 → ∀ b, b < 9 → ¬ (10 * nI a + nI b < 0) ∧ ¬ (10 * nI a + nI b = -3) := by decide +kernel
theorem ce_cb_1 (hS : cl_S I lp P X) {n a k m : Nat} {s : Int32 × Nat} {o : Option Value} (hnn : n ≤ 48) (hs2 : s.2 ≤ 432) (ha : a < P.1) (hk : a + 1 + k + m = P.1) (h1 : I 279 4 = ec_cw (em_cb1 P X n a s k).1) (h2 : I 279 5 = nI (em_cb1 P X n a s k).2) (h : ∀ (I' : Nat → Nat → Int32) (o' : Option Value), em_fW I I' → cl_S I' lp P X → I' 279 4 = ec_cw (em_cb1 P X n a s (P.1 - (a + 1))).1 → I' 279 5 = nI (em_cb1 P X n a s (P.1 - (a + 1))).2 → em_wp em_sc0 (d + 5) 119 113 [some (.ref 279), some (.int (nI n)), some (.int (nI a)), some (.int (nI P.1)), o'] [] (em_SH, I', J, em_RT lw) Q) : em_wp em_sc0 (d + 5) 119 42 [some (.ref 279), some (.int (nI n)), some (.int (nI a)), some (.int (nI (a + 1 + k))), o] [] (em_SH, I, J, em_RT lw) Q := by
  have hn := hS.1.1.1
  have hr := hS.2.1.1.1
  have hX := hS.2.2.2.2
  have hp9 := em_pow9 hn
  induction m generalizing k I o with
  | zero =>
    have e : a + 1 + k = P.1 := by omega
    have e2 : P.1 - (a + 1) = k := by omega
    rw [e2] at h
    rw [e]
    iterate 5 refine em_next rfl ?_
    refine em_c_geE rfl hS.mn (fun _ => ?_) (fun h1 => absurd (nI_le (Nat.le_refl _) (by omega)) h1)
    exact h I o em_fW.rf hS h1 h2
  | succ m ih =>
    iterate 5 refine em_next rfl ?_
    refine em_c_geE rfl hS.mn (fun h1 => absurd h1 (nI_ge (by omega) (by omega))) (fun _ => ?_)
    iterate 5 refine em_next rfl ?_
    refine em_inv_call rfl (ce_lieE hS hS.rw hr (fun I1 a1 a2 a3 a4 _ => ?_))
    iterate 5 refine em_next rfl ?_
    refine em_inv_call rfl (ce_swap_dnight (r := X.1) (x := a) (y := a + 1 + k) a4.1.2.2.1 (by omega) (by omega) (by omega) (fun I2 b1 b2 b3 b4 b5 => ?_))
    have fC2 : em_fC I1 I2 := fun c hc => b1 c (fun q => hc (by revert q; simp [em_cS]; rintro (rfl | rfl | rfl | rfl | rfl) <;> simp))
    have hS2 := a2.kR fC2 (b1 _ (by decide))
    have hY2 : cd_T I2 (em_swP P a (a + 1 + k)) (em_swX X a (a + 1 + k)) := by
      refine ⟨⟨em_swr_lt hn hr ha (show a + 1 + k < P.1 by omega), a4.1.2.1, b3, by rw [b4]; exact a4.1.2.2.2⟩, fun b hb => ?_⟩
      have hb' : b < P.1 := hb
      refine ⟨?_, ?_⟩
      · rw [(b2 b).2.1]
        show ey_sw (I1 273) a (a + 1 + k) b = ey_sw P.2.2.2.2 a (a + 1 + k) b
        unfold ey_sw
        split
        · exact (a4.2 _ (by omega)).1
        · split
          · exact (a4.2 _ (by omega)).1
          · exact (a4.2 b hb').1
      · rw [(b2 b).2.2.1]
        show ey_sw (I1 274) a (a + 1 + k) b = ey_sw X.2.2 a (a + 1 + k) b
        unfold ey_sw
        split
        · exact (a4.2 _ (by omega)).2
        · split
          · exact (a4.2 _ (by omega)).2
          · exact (a4.2 b hb').2
    iterate 2 refine em_next rfl ?_
    refine em_inv_call rfl (ce_left (P' := em_swP P a (a + 1 + k)) (Y := em_swX X a (a + 1 + k)) hS2 hS2.1 hnn (by show X.2.1 + 1000 < 1000000; omega) hY2 (fun I3 c1 c2 => ?_))
    have fW3 : em_fW I I3 := ((a1.tr fC2).tr c1).W
    have e1 : I3 279 = I 279 := by rw [c1 _ (by decide), fC2 _ (by decide), a1 _ (by decide)]
    have l1 := em_cb1_le (P := P) (X := X) (n := n) (a := a) (k := k) (s := s) hnn hs2
    have l2 := em_li_le (em_swP P a (a + 1 + k)) (em_swX X a (a + 1 + k)) n
    have en : em_cb1 P X n a s (k + 1) = if (em_cb1 P X n a s k).2 < em_cbv P X n a (a + 1 + k) then (10 * nI a + nI (a + 1 + k), em_cbv P X n a (a + 1 + k)) else em_cb1 P X n a s k := rfl
    have ev : em_cbv P X n a (a + 1 + k) = em_li (em_swP P a (a + 1 + k)) (em_swX X a (a + 1 + k)) n := rfl
    iterate 5 refine em_next rfl ?_
    refine em_c_leE (x' := nI (em_cbv P X n a (a + 1 + k))) rfl (y' := nI (em_cb1 P X n a s k).2) (by show I3 279 5 = _; rw [e1]; exact h2) (fun q => ?_) (fun q => ?_)
    · have q2 := (nI_leI (by omega) (by omega)).mp q
      rw [if_neg (by omega)] at en
      iterate 2 refine em_next rfl ?_
      have g := ih (k := k + 1) (I := I3) (o := some (.int (nI (em_cbv P X n a (a + 1 + k))))) c2 (by omega) (by rw [en, e1]; exact h1) (by rw [en, e1]; exact h2) (fun I' o' f => h I' o' (fW3.tr f))
      rw [← Nat.add_assoc, nI_succ] at g
      exact g
    · have q2 := Nat.not_le.mp (fun z => q ((nI_leI (by omega) (by omega)).mpr z))
      rw [if_pos q2] at en
      iterate 7 refine em_next rfl ?_
      refine em_inv_call rfl (ce_settle c2 (fun I4 d1 d2 d3 d4 d5 => ?_))
      iterate 2 refine em_next rfl ?_
      have g := ih (k := k + 1) (I := I4) (o := some (.int (nI (em_cbv P X n a (a + 1 + k))))) d3 (by omega) (by
        rw [en, d4]
        unfold ec_cw
        rw [if_neg (ec_10 a (by omega) (a + 1 + k) (by omega)).1]
        rfl) (by rw [en, d5, ev]) (fun I' o' f => h I' o' ((fW3.tr d2).tr f))
      rw [← Nat.add_assoc, nI_succ] at g
      exact g
theorem ce_cb_l (hS : cl_S I lp P X) {n k m : Nat} {o o2 : Option Value} (hnn : n ≤ 48) (hk : k + m = P.1) (h1 : I 279 4 = ec_cw (em_cb P X n k).1) (h2 : I 279 5 = nI (em_cb P X n k).2) (h : ∀ I' : Nat → Nat → Int32, em_fW I I' → cl_S I' lp P X → I' 279 4 = ec_cw (em_cb P X n P.1).1 → I' 279 5 = nI (em_cb P X n P.1).2 → Q none (em_SH, I', J, em_RT lw)) : em_wp em_sc0 (d + 5) 119 27 [some (.ref 279), some (.int (nI n)), some (.int (nI k)), o, o2] [] (em_SH, I, J, em_RT lw) Q := by
  have hn := hS.1.1.1
  induction m generalizing k I o o2 with
  | zero =>
    have e : k = P.1 := by omega
    subst e
    iterate 5 refine em_next rfl ?_
    refine em_c_geE rfl hS.mn (fun _ => ?_) (fun h1 => absurd (nI_le (Nat.le_refl _) (by omega)) h1)
    exact em_done rfl (h I em_fW.rf hS h1 h2)
  | succ m ih =>
    iterate 5 refine em_next rfl ?_
    refine em_c_geE rfl hS.mn (fun h1 => absurd h1 (nI_ge (by omega) (by omega))) (fun _ => ?_)
    iterate 4 refine em_next rfl ?_
    have g := ce_cb_1 (d := d) (lw := lw) (J := J) (Q := Q) (n := n) (a := k) (k := 0) (m := m) (s := em_cb P X n k) (o := o2) hS hnn (em_cb_le hnn) (by omega) (by omega) h1 h2 (fun I1 o' a1 a2 a3 a4 => by
      iterate 2 refine em_next rfl ?_
      have g := ih (k := k + 1) (I := I1) (o := some (.int (nI P.1))) (o2 := o') a2 (by omega) a3 a4 (fun I' f => h I' (a1.tr f))
      rw [nI_succ] at g
      exact g)
    rw [Nat.add_zero, nI_succ] at g
    exact g
theorem em_cb1_m2 {n a k : Nat} {s : Int32 × Nat} (ha : a < 9) (hs : s.1 = -2 ∨ (¬ s.1 < 0 ∧ ¬ s.1 = -3)) (hk : a + 1 + k ≤ 9) : (em_cb1 P X n a s k).1 = -2 ∨ (¬ (em_cb1 P X n a s k).1 < 0 ∧ ¬ (em_cb1 P X n a s k).1 = -3) := by
  induction k with
  | zero => exact hs
  | succ k ih =>
    rw [em_cb1]
    split
    · exact Or.inr (ec_10 a ha (a + 1 + k) (by omega))
    · exact ih (by omega)
theorem em_cb_m2 {n k : Nat} (hn : P.1 ≤ 9) (hk : k ≤ P.1) : (em_cb P X n k).1 = -2 ∨ (¬ (em_cb P X n k).1 < 0 ∧ ¬ (em_cb P X n k).1 = -3) := by
  induction k with
  | zero => exact Or.inl rfl
  | succ k ih =>
    rw [em_cb]
    exact em_cb1_m2 (by omega) (ih (by omega)) (by omega)
theorem cq_changeBest (hS : cl_S I lp P X) {n w : Int32} (h : ∀ I' : Nat → Nat → Int32, em_fW I I' → cl_S I' lp P X → Q (some (.int (sp_changeBest P X n w))) (em_SH, I', J, em_RT lw)) : em_call (d + 8) 151 [.ref 1, .int n, .int w] (em_SH, I, J, em_RT lw) Q := by
  have hn := hS.1.1.1
  have hX := hS.2.2.2.2
  unfold sp_changeBest at h
  iterate 3 refine em_next rfl ?_
  refine em_inv_call rfl (ce_within (a := 1) (b := 24) ?_)
  iterate 1 refine em_next rfl ?_
  refine em_b_eq (fun g => ?_) (fun g => ?_)
  · rw [if_neg (fun q => g q.1)] at h
    iterate 1 refine em_next rfl ?_
    exact em_done rfl (h I em_fW.rf hS)
  iterate 1 refine em_next rfl ?_
  refine em_inv_call rfl (ce_pair ?_)
  iterate 1 refine em_next rfl ?_
  refine em_b_ne (fun g2 => ?_) (fun g2 => ?_)
  · rw [if_pos ⟨g, g2⟩] at h
    obtain ⟨m, hm, rfl, em⟩ := em_nat (m := 24) (by decide) (Int32.le_trans (by decide) g.1) g.2
    rw [em] at h
    iterate 3 refine em_next rfl ?_
    refine em_inv_call rfl ?_
    iterate 5 refine em_next rfl ?_
    refine em_inv_call rfl (ce_lieE hS hS.rw hS.2.1.1.1 (fun I1 a1 a2 a3 a4 _ => ?_))
    iterate 4 refine em_next rfl ?_
    refine em_inv_call rfl (ce_left (P' := P) (Y := X) a2 a2.1 (by omega) (by omega) a4 (fun I2 b1 b2 => ?_))
    refine em_inv_call rfl (ce_settle b2 (fun I3 c1 c2 c3 c4 c5 => ?_))
    iterate 2 refine em_next rfl ?_
    refine ce_cb_l (d := d + 2) (k := 0) (m := P.1) (n := m) (o := none) (o2 := none) c3 (by omega) (by omega) c4 c5 (fun I4 e1 e2 e3 e4 => ?_)
    have h := h I4 (((a1.tr b1).W.tr c2).tr e1) e2
    have hm2 := em_cb_m2 (X := X) (n := m) hn (Nat.le_refl P.1)
    have hw : w = 0 ∨ w = 1 := by
      rcases em_nat (m := 1) (by decide) g2.1 g2.2 with ⟨s, hs, rfl, -⟩
      rcases (show s = 0 ∨ s = 1 by omega) with rfl | rfl
      · exact Or.inl rfl
      · exact Or.inr rfl
    have an : ∀ b : Int32, (b = 0 → w = 0) → (¬ b = 0 → ¬ w = 0) → em_call (d + 7) 111 [.ref 279, .int b] (em_SH, I4, J, em_RT lw) (fun r M' => em_wp em_sc0 (d + 7 + 1) 151 44 [some (.ref 1), some (.int (nI m)), some (.int (w))] (r.toList ++ []) M' Q) := fun b hb1 hb2 => by
      iterate 4 refine em_next rfl ?_
      rcases hm2 with z | ⟨z1, z2⟩
      · rw [z] at h e3
        refine em_c_neE e3 (y' := -3) rfl (fun q => absurd (by decide) q) (fun _ => ?_)
        rw [if_pos (Or.inl (by decide))] at h
        iterate 1 refine em_next rfl ?_
        refine em_done rfl ?_
        exact em_done rfl h
      · have ez : ec_cw (em_cb P X m P.1).1 = (em_cb P X m P.1).1 := if_neg z1
        rw [ez] at e3
        refine em_c_neE e3 (y' := -3) rfl (fun _ => ?_) (fun q => absurd q z2)
        iterate 2 refine em_next rfl ?_
        refine em_z_eq (fun q => ?_) (fun q => ?_)
        · rw [if_pos (Or.inr (hb1 q))] at h
          iterate 2 refine em_next rfl ?_
          refine em_doneE rfl e3 ?_
          exact em_done rfl h
        · rw [if_neg (fun z => z.elim z1 (hb2 q))] at h
          iterate 3 refine em_next rfl ?_
          refine em_doneE rfl e4 ?_
          exact em_done rfl h
    iterate 5 refine em_next rfl ?_
    refine em_c_ne (fun q => ?_) (fun q => ?_)
    · iterate 1 refine em_next rfl ?_
      exact em_inv_call rfl (an 0 (fun _ => hw.resolve_right q) (fun z => absurd rfl z))
    · iterate 2 refine em_next rfl ?_
      exact em_inv_call rfl (an 1 (fun z => absurd z (by decide)) (fun _ => by rw [q]; decide))
  · rw [if_neg (fun q => g2 q.2)] at h
    iterate 1 refine em_next rfl ?_
    exact em_done rfl (h I em_fW.rf hS)
end CQ12
