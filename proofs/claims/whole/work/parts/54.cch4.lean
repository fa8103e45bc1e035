/-! the class: what is done, two -/
theorem fb_sx (x : BitVec 32) (k : Nat) (hk : k ≤ 24) : (x >>> k).signExtend 8 = (x.sshiftRight k).signExtend 8 := by
  ext i hi
  rw [BitVec.getElem_signExtend, BitVec.getElem_signExtend]
  have h1 : i < 32 := by omega
  simp only [h1, dif_pos]
  rw [BitVec.getElem_ushiftRight, BitVec.getElem_sshiftRight, dif_pos (show k + i < 32 by omega), BitVec.getLsbD_eq_getElem]
theorem fb_us (w k : Int32) (hk : k = 24 ∨ k = 16 ∨ k = 8 ∨ k = 0) : vp_nar .byte ((w.toUInt32 >>> (k.toUInt32 &&& Int32.toUInt32 31)).toInt32.toInt8.toInt32) = fb w k := by
  have e : (w.toUInt32 >>> (k.toUInt32 &&& Int32.toUInt32 31)).toInt32.toInt8 = (w >>> (k &&& 31)).toInt8 := by
    apply Int8.toBitVec_inj.mp
    rcases hk with rfl | rfl | rfl | rfl
    · exact fb_sx w.toBitVec 24 (by decide)
    · exact fb_sx w.toBitVec 16 (by decide)
    · exact fb_sx w.toBitVec 8 (by decide)
    · exact fb_sx w.toBitVec 0 (by decide)
  unfold fb
  rw [e]
section CCH4
variable {d lw lv nx : Nat} {p : em_Pn} {W W' : em_Wt} {u : Nat} {H : Nat → em_Wt} {hl : Nat → Bool} {S : Nat → em_Wt} {T : Nat} {D : em_Td} {L : Nat} {tp : Nat → Int32} {pc : Int32} {lp : Bool} {I I0 : Nat → Nat → Int32} {J : Nat → Nat → Int64} {Q : Option Value → em_M → Prop} {B : Nat}
theorem ce_hours_l (hB : W.2.1 + 1000 < 1000000) {n k m : Nat} (hnn : n ≤ 48) (hP : cp_P I0 p.1 p.2.1 p.2.2.1 p.2.2.2.1) (hsd : I0 24 11 = p.2.2.2.2.1) (hk : k + m = n) (h0 : ∀ a, a ∉ [29, 32, 35, 38, 39, 42, 43, 44, 45, 46, 276] → I a = I0 a) (h1 : I 276 = I0 276) (hw : cr I 42 p.1 (ew_hours p k W)) (h : ∀ I' : Nat → Nat → Int32, (∀ a, a ∉ [29, 32, 35, 38, 39, 42, 43, 44, 45, 46, 276] → I' a = I0 a) → I' 276 = I0 276 → cr I' 42 p.1 (ew_hours p n W) → Q (some (.int (nI (W.2.1 + n)))) (em_SH, I', J, em_RT lw)) : em_wp em_sc0 (d + 4) 130 22 [some (.ref 1), some (.int (nI n)), some (.int (nI k))] [] (em_SH, I, J, em_RT lw) Q := by
  induction m generalizing k I with
  | zero =>
    have e : k = n := by omega
    subst e
    have hh := em_it_h (eq_P p W) false p.2.2.2.2.1 k (eq_X W)
    iterate 3 refine em_next rfl ?_
    refine em_c_ge (fun _ => ?_) (fun h1 => absurd (nI_le (Nat.le_refl _) (by omega)) h1)
    iterate 3 refine em_next rfl ?_
    exact em_doneE rfl (hw.1.2.2.1.trans (congrArg nI hh)) (h I h0 h1 hw)
  | succ m ih =>
    have hh : (em_it (eq_P p W) false p.2.2.2.2.1 k (eq_X W)).2.1 = W.2.1 + k := em_it_h (eq_P p W) false p.2.2.2.2.1 k (eq_X W)
    have hd : ∀ a ∈ cp_rows, a ∉ [29, 32, 35, 38, 39, 42, 43, 44, 45, 46, 276] := by decide
    have hN : ct_N I 42 p.1 (em_it (eq_P p W) false p.2.2.2.2.1 k (eq_X W)).1 (em_it (eq_P p W) false p.2.2.2.2.1 k (eq_X W)).2.1 W.2.2.2.1 (em_it (eq_P p W) false p.2.2.2.2.1 k (eq_X W)).2.2 := hw.N (by show (em_it (eq_P p W) false p.2.2.2.2.1 k (eq_X W)).2.1 < 1000000; omega)
    iterate 3 refine em_next rfl ?_
    refine em_c_ge (fun h1 => absurd h1 (nI_ge (by omega) (by omega))) (fun _ => ?_)
    iterate 7 refine em_next rfl ?_
    refine em_inv_call rfl (ce_passCold_now (P := eq_P p W) (Y := em_it (eq_P p W) false p.2.2.2.2.1 k (eq_X W)) (sd := p.2.2.2.2.1) (hP.keep (fun a ha => h0 a (hd a ha))) hN (by omega) (by show I 24 11 = _; rw [h0 _ (by decide)]; exact hsd) (fun I1 a1 a2 a3 a4 => ?_))
    iterate 2 refine em_next rfl ?_
    have g := ih (k := k + 1) (I := I1) (by omega) (fun a ha => (a1 a (fun q => ha (by revert q; simp; omega))).trans (h0 a ha)) ((a1 _ (by decide)).trans h1) ⟨⟨a2.1.1, a2.1.2.2.1, a2.1.2.2.2, ?_⟩, fun b hb => ⟨?_, (a2.2 b hb).1, (a2.2 b hb).2, ?_⟩⟩
    · rw [nI_succ] at g
      exact g
    · rw [a3, hw.1.2.2.2]
      show eq_ch W + nI (em_chn (eq_P p W) false p.2.2.2.2.1 k (eq_X W)) + _ = eq_ch W + nI (em_chn (eq_P p W) false p.2.2.2.2.1 (k + 1) (eq_X W))
      rw [em_chn, em_nadd, Int32.add_assoc]
    · rw [a1 _ (by decide)]; exact (hw.2 b hb).1
    · rw [a1 _ (by decide)]; exact (hw.2 b hb).2.2.2
theorem ew_hours_0 : cr I 42 p.1 W → cr I 42 p.1 (ew_hours p 0 W) := fun h => ⟨⟨h.1.1, h.1.2.1, h.1.2.2.1, h.1.2.2.2.trans (Int32.add_zero _).symm⟩, h.2⟩
theorem ca_hours (hC : CI I lp nx p W u H hl S T D L tp pc) (hB : W.2.1 + 1000 < 1000000) {n : Int32} (h : ∀ I' : Nat → Nat → Int32, (∀ a, 284 ≤ a → I' a = I a) → (em_ok 0 48 n ∧ ¬ n = 0 → CI I' lp ((nx + 1) % 40) p (ew_hours p n.toNatClampNeg W) (eh_u u) (eh_H u H W) hl S T D L tp pc) → (¬ (em_ok 0 48 n ∧ ¬ n = 0) → CI I' lp nx p W u H hl S T D L tp pc) → Q (some (.int (if em_ok 0 48 n then nI (W.2.1 + n.toNatClampNeg) else -1))) (em_SH, I', J, em_RT lw)) : em_call (d + 8) 130 [.ref 1, .int n] (em_SH, I, J, em_RT lw) Q := by
  have hn := hC.1.1.1
  iterate 3 refine em_next rfl ?_
  refine em_inv_call rfl (ce_within (a := 0) (b := 48) ?_)
  iterate 1 refine em_next rfl ?_
  refine em_b_ne (fun g => ?_) (fun g => ?_)
  · rw [if_pos g] at h
    obtain ⟨m, hm, rfl, em⟩ := em_nat (m := 48) (by decide) g.1 g.2
    rw [em] at h
    iterate 2 refine em_next rfl ?_
    refine em_z_le (fun z => ?_) (fun z => ?_)
    · have z0 : m = 0 := Classical.byContradiction (fun q => nI_nle (by omega) (by omega) z)
      subst z0
      iterate 2 refine em_next rfl ?_
      iterate 3 refine em_next rfl ?_
      refine em_c_ge (fun _ => ?_) (fun q => absurd (by decide) q)
      iterate 3 refine em_next rfl ?_
      exact em_doneE rfl hC.2.2.1.1.2.2.1 (h I (fun _ _ => rfl) (fun q => absurd rfl q.2) (fun _ => hC))
    · have z0 : ¬ nI m = 0 := fun e => z (by rw [e]; decide)
      iterate 1 refine em_next rfl ?_
      refine em_inv_call rfl (ca_remember hC (fun I1 a1 a2 a3 => ?_))
      iterate 2 refine em_next rfl ?_
      refine ce_hours_l (d := d + 4) (k := 0) (m := m) (I0 := I1) (W := W) hB hm a2.1 a2.2.2.2.2.1.1 (by omega) (fun _ _ => rfl) rfl (ew_hours_0 a2.2.2.1) (fun I' b1 b2 b3 => ?_)
      exact h I' (fun a ha => by rw [b1 a (by simp; omega)]; exact a1 a (by omega) (by omega)) (fun _ => a2.now b1 (fun j hj => by rw [b2]; exact a3 j hj) b3) (fun q => absurd ⟨g, z0⟩ q)
  · rw [if_neg g] at h
    iterate 1 refine em_next rfl ?_
    exact em_done rfl (h I (fun _ _ => rfl) (fun q => absurd q.1 g) (fun _ => hC))
theorem ca_undo (hC : CI I lp nx p W u H hl S T D L tp pc) (h : ∀ (I' : Nat → Nat → Int32) (nx' : Nat), (∀ a, 284 ≤ a → I' a = I a) → (¬ u = 0 → CI I' lp nx' p (H (u - 1)) (u - 1) H hl S T D L tp pc) → (u = 0 → CI I' lp nx' p W u H hl S T D L tp pc) → Q (some (.int (em_bo (¬ u = 0)))) (em_SH, I', J, em_RT lw)) : em_call (d + 3) 131 [.ref 1] (em_SH, I, J, em_RT lw) Q := by
  obtain ⟨h1, h2, h3, h4, h5, ⟨h6, h7, h8, h9, h10⟩, h11, h12, h13, h14⟩ := id hC
  have hn := h1.1.1
  iterate 4 refine em_next rfl ?_
  by_cases g0 : u = 0
  · refine em_inv_call rfl ?_
    iterate 3 refine em_next rfl ?_
    refine em_z_neE h9 (fun q => absurd (by rw [g0]; rfl) q) (fun _ => ?_)
    iterate 1 refine em_next rfl ?_
    refine em_done rfl ?_
    iterate 1 refine em_next rfl ?_
    refine em_z_ne (fun q => absurd rfl q) (fun _ => ?_)
    iterate 1 refine em_next rfl ?_
    have g2 := h I nx (fun _ _ => rfl) (fun z => absurd g0 z) (fun _ => hC)
    rw [em_bo_f (fun z => z g0)] at g2
    exact em_done rfl g2
  · refine em_inv_call rfl (ce_last40 h7 rfl h8 h6 h9 g0 (fun I1 a1 a2 a3 a4 => ?_))
    iterate 1 refine em_next rfl ?_
    refine em_z_ne (fun _ => ?_) (fun q => absurd q (by decide))
    iterate 2 refine em_next rfl ?_
    refine em_inv_call rfl (ce_forgetRules ?_)
    iterate 1 refine em_next rfl ?_
    have k1 : ∀ a, a ≠ 276 → em_flr I1 276 216 (-1) a = I1 a := fun a ha => em_flr_row ha
    have k2 : ∀ a, a ≠ 47 → a ≠ 276 → ¬ (42 ≤ a ∧ a ≤ 46) → em_flr I1 276 216 (-1) a = I a := fun a z1 z2 z3 => by rw [k1 a z2]; exact a1 a z1 z3
    have hd : ∀ a ∈ cp_rows, a < 42 := by decide
    have h0 : cd_0 (em_flr I1 276 216 (-1)) := fun j hj => em_flr_at hj
    have hlast : cr I (51 + 5 * ((nx + 39) % 40)) p.1 (H (u - 1)) := by
      have := h10 (u - 1) (by omega)
      rw [show (nx + 40 - u + (u - 1)) % 40 = (nx + 39) % 40 by omega] at this
      exact this
    have g2 := h _ ((nx + 39) % 40) (fun a ha => k2 a (by omega) (by omega) (by omega)) (fun _ => ⟨h1.keep (fun a ha => k2 a (by have := hd a ha; omega) (by have := hd a ha; omega) (by have := hd a ha; omega)), ⟨by rw [k2 _ (by decide) (by decide) (by decide)]; exact h2.1, h2.2⟩, (a2 _ _ hn hlast).keep (fun a z1 z2 => k1 a (by omega)), h0.R hn, by rw [k2 _ (by decide) (by decide) (by decide)]; exact h5, ⟨by omega, by omega, by rw [k1 _ (by decide)]; exact a3, by rw [k1 _ (by decide)]; exact a4, fun i hi => by
      rw [show ((nx + 39) % 40 + 40 - (u - 1) + i) % 40 = (nx + 40 - u + i) % 40 by omega]
      exact (h10 i (by omega)).keep (fun a z1 z2 => k2 a (by omega) (by omega) (by omega))⟩, fun s hs => ⟨by rw [k2 _ (by decide) (by decide) (by decide)]; exact (h11 s hs).1, fun z => ((h11 s hs).2 z).keep (fun a g1 g2 => k2 a (by omega) (by omega) (by omega))⟩, by
      unfold cs_T
      rw [k2 266 (by decide) (by decide) (by decide), k2 267 (by decide) (by decide) (by decide), k2 268 (by decide) (by decide) (by decide), k2 269 (by decide) (by decide) (by decide)]
      exact h12, by rw [k2 2 (by decide) (by decide) (by decide), k2 3 (by decide) (by decide) (by decide)]; exact h13, by rw [k2 _ (by decide) (by decide) (by decide)]; exact h14⟩) (fun z => absurd z g0)
    rw [em_bo_t g0] at g2
    exact em_done rfl g2
theorem ca_hold (hC : CI I lp nx p W u H hl S T D L tp pc) {s : Int32} (h : ∀ I' : Nat → Nat → Int32, (∀ a, 284 ≤ a → I' a = I a) → (em_ok 0 2 s → CI I' lp nx p W u H (eh_l hl s.toNatClampNeg) (eh_S S W s.toNatClampNeg) T D L tp pc) → (¬ em_ok 0 2 s → CI I' lp nx p W u H hl S T D L tp pc) → Q (some (.int (em_bo (em_ok 0 2 s)))) (em_SH, I', J, em_RT lw)) : em_call (d + 3) 159 [.ref 1, .int s] (em_SH, I, J, em_RT lw) Q := by
  obtain ⟨h1, h2, h3, h4, h5, ⟨h6, h7, h8, h9, h10⟩, h11, h12, h13, h14⟩ := id hC
  have hn := h1.1.1
  iterate 5 refine em_next rfl ?_
  by_cases g : em_ok 0 2 s
  · rw [em_bo_t g] at h
    obtain ⟨t, ht, rfl, et⟩ := em_nat (m := 2) (by decide) g.1 g.2
    rw [et] at h
    refine em_inv_call rfl (ce_keep ht (fun I' a1 a2 a3 a4 => ?_))
    have k3 : ∀ a, a < 50 ∨ (51 ≤ a ∧ a < 251) ∨ 266 ≤ a → I' a = I a := fun a z => a1 a (by omega) (by omega)
    have hd : ∀ a ∈ cp_rows, a < 50 := by decide
    refine em_done rfl (h I' (fun a ha => k3 a (by omega)) (fun _ => ⟨h1.keep (fun a ha => k3 a (Or.inl (hd a ha))), ⟨by rw [k3 _ (by decide)]; exact h2.1, h2.2⟩, h3.keep (fun a g1 g2 => k3 a (by omega)), fun t ht b hb => by rw [k3 _ (by decide)]; exact h4 t ht b hb, by rw [k3 _ (by decide)]; exact h5, ⟨h6, h7, by rw [k3 _ (by decide)]; exact h8, by rw [k3 _ (by decide)]; exact h9, fun i hi => (h10 i hi).keep (fun a g1 g2 => k3 a (by omega))⟩, fun i hi => ?_, by
      unfold cs_T
      rw [k3 266 (by decide), k3 267 (by decide), k3 268 (by decide), k3 269 (by decide)]
      exact h12, by rw [k3 2 (by decide), k3 3 (by decide)]; exact h13, by rw [k3 _ (by decide)]; exact h14⟩) (fun z => absurd g z))
    unfold eh_l eh_S
    by_cases e : i = t
    · subst e
      rw [if_pos rfl, if_pos rfl]
      exact ⟨a3, fun _ => a2 _ _ hn h3⟩
    · rw [if_neg e, if_neg e]
      exact ⟨by rw [a4 i e]; exact (h11 i hi).1, fun z => ((h11 i hi).2 z).keep (fun a z1 z2 => a1 a (by omega) (by omega))⟩
  · rw [em_bo_f g] at h
    refine em_inv_call rfl ?_
    iterate 3 refine em_next rfl ?_
    refine em_inv_call rfl (ce_within (a := 0) (b := 2) ?_)
    iterate 1 refine em_next rfl ?_
    refine em_b_ne (fun q => absurd q g) (fun _ => ?_)
    iterate 1 refine em_next rfl ?_
    refine em_done rfl ?_
    exact em_done rfl (h I (fun _ _ => rfl) (fun z => absurd z g) (fun _ => hC))
theorem ca_restore (hC : CI I lp nx p W u H hl S T D L tp pc) {s : Int32} (h : ∀ I' : Nat → Nat → Int32, (∀ a, 284 ≤ a → I' a = I a) → (ok_rs hl s → CI I' lp nx p (S s.toNatClampNeg) 0 H hl S T D L tp pc) → (¬ ok_rs hl s → CI I' lp nx p W u H hl S T D L tp pc) → Q (some (.int (em_bo (ok_rs hl s)))) (em_SH, I', J, em_RT lw)) : em_call (d + 3) 160 [.ref 1, .int s] (em_SH, I, J, em_RT lw) Q := by
  obtain ⟨h1, h2, h3, h4, h5, ⟨h6, h7, h8, h9, h10⟩, h11, h12, h13, h14⟩ := id hC
  have hn := h1.1.1
  iterate 5 refine em_next rfl ?_
  by_cases g : ok_rs hl s
  · have gg := g
    rw [em_bo_t g] at h
    obtain ⟨g, gs⟩ := g
    obtain ⟨t, ht, rfl, et⟩ := em_nat (m := 2) (by decide) g.1 g.2
    rw [et] at gs
    have hf := h11 t (by omega)
    refine em_inv_call rfl (ce_give ht (by rw [hf.1, gs]; rfl) (fun I1 a1 a2 => ?_))
    iterate 1 refine em_next rfl ?_
    refine em_z_ne (fun _ => ?_) (fun q => absurd q (by decide))
    iterate 2 refine em_next rfl ?_
    refine em_inv_call rfl ?_
    iterate 3 refine em_next rfl ?_
    refine em_done rfl ?_
    show em_wp em_sc0 (d + 3) 160 _ _ _ (em_SH, em_u I1 47 4 0, J, em_RT lw) Q
    iterate 2 refine em_next rfl ?_
    refine em_inv_call rfl (ce_forgetRules ?_)
    iterate 1 refine em_next rfl ?_
    have k1 : ∀ a, a ≠ 276 → a ≠ 47 → em_flr (em_u I1 47 4 0) 276 216 (-1) a = I1 a := fun a z1 z2 => by rw [em_flr_row z1, em_u_row z2]
    have k2 : ∀ a, a ≠ 47 → a ≠ 276 → ¬ (42 ≤ a ∧ a ≤ 46) → em_flr (em_u I1 47 4 0) 276 216 (-1) a = I a := fun a z1 z2 z3 => by rw [k1 a z2 z1]; exact a1 a z3
    have hd : ∀ a ∈ cp_rows, a < 42 := by decide
    have h0 : cd_0 (em_flr (em_u I1 47 4 0) 276 216 (-1)) := fun j hj => em_flr_at hj
    refine em_done rfl (h _ (fun a ha => k2 a (by omega) (by omega) (by omega)) (fun _ => by
      rw [et]
      exact ⟨h1.keep (fun a ha => k2 a (by have := hd a ha; omega) (by have := hd a ha; omega) (by have := hd a ha; omega)), ⟨by rw [k2 _ (by decide) (by decide) (by decide)]; exact h2.1, h2.2⟩, (a2 _ _ hn (hf.2 gs)).keep (fun a z1 z2 => k1 a (by omega) (by omega)), h0.R hn, by rw [k2 _ (by decide) (by decide) (by decide)]; exact h5, ⟨by omega, h7, by rw [em_flr_row (by decide), em_u_ne (by decide), a1 _ (by decide)]; exact h8, by rw [em_flr_row (by decide), em_u_self]; rfl, fun i hi => absurd hi (Nat.not_lt_zero _)⟩, fun s hs => ⟨by rw [k2 _ (by decide) (by decide) (by decide)]; exact (h11 s hs).1, fun z => ((h11 s hs).2 z).keep (fun a g1 g2 => k2 a (by omega) (by omega) (by omega))⟩, by
        unfold cs_T
        rw [k2 266 (by decide) (by decide) (by decide), k2 267 (by decide) (by decide) (by decide), k2 268 (by decide) (by decide) (by decide), k2 269 (by decide) (by decide) (by decide)]
        exact h12, by rw [k2 2 (by decide) (by decide) (by decide), k2 3 (by decide) (by decide) (by decide)]; exact h13, by rw [k2 _ (by decide) (by decide) (by decide)]; exact h14⟩) (fun z => absurd gg z))
  · have no : Q (some (.int 0)) (em_SH, I, J, em_RT lw) := by
      have g2 := h I (fun _ _ => rfl) (fun z => absurd z g) (fun _ => hC)
      rw [em_bo_f g] at g2
      exact g2
    have out : em_wp em_sc0 (d + 3) 160 12 [some (.ref 1), some (.int (s))] [.int 0] (em_SH, I, J, em_RT lw) Q := by
      iterate 1 refine em_next rfl ?_
      refine em_z_ne (fun q => absurd rfl q) (fun _ => ?_)
      iterate 1 refine em_next rfl ?_
      exact em_done rfl no
    refine em_inv_call rfl ?_
    iterate 3 refine em_next rfl ?_
    refine em_inv_call rfl (ce_within (a := 0) (b := 2) ?_)
    iterate 1 refine em_next rfl ?_
    refine em_b_eq (fun q => ?_) (fun q => ?_)
    · iterate 1 refine em_next rfl ?_
      exact em_done rfl out
    · have gn : ¬ hl s.toNatClampNeg = true := fun z => g ⟨q, z⟩
      obtain ⟨t, ht, rfl, et⟩ := em_nat (m := 2) (by decide) q.1 q.2
      rw [et] at gn
      iterate 3 refine em_next rfl ?_
      refine em_baln rfl rfl (by omega) (by decide) ?_
      iterate 1 refine em_next rfl ?_
      refine em_z_neE (h11 t (by omega)).1 (fun z => ?_) (fun z => ?_)
      · cases e : hl t
        · rw [e] at z; exact absurd rfl z
        · exact absurd e gn
      · iterate 1 refine em_next rfl ?_
        exact em_done rfl out
end CCH4
