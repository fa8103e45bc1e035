/-! the class: what is done -/
section CCH3
variable {d lw lv nx : Nat} {p : em_Pn} {W W' : em_Wt} {u : Nat} {H : Nat → em_Wt} {hl : Nat → Bool} {S : Nat → em_Wt} {T : Nat} {D : em_Td} {L : Nat} {tp : Nat → Int32} {pc : Int32} {lp : Bool} {I I0 : Nat → Nat → Int32} {J : Nat → Nat → Int64} {Q : Option Value → em_M → Prop} {B : Nat}
/-- rules all forgotten -/
def cd_0 (I : Nat → Nat → Int32) : Prop := ∀ j, j < 216 → I 276 j = -1
theorem cd_0.R {P : em_Pl} {part : Nat → Int32} (hn : P.1 ≤ 9) (h : cd_0 I) : cd_R I P part := fun t ht b hb => Or.inl (h _ (by omega))
/-- a new night now, rules forgotten -/
theorem CI.now {I' : Nat → Nat → Int32} (h : CI I lp nx p W u H hl S T D L tp pc) (he : ∀ a, a ∉ [29, 32, 35, 38, 39, 42, 43, 44, 45, 46, 276] → I' a = I a) (h0 : cd_0 I') (hw : cr I' 42 p.1 W') : CI I' lp nx p W' u H hl S T D L tp pc := by
  obtain ⟨h1, h2, h3, h4, h5, ⟨h6, h7, h8, h9, h10⟩, h11, h12, h13, h14⟩ := h
  have hd : ∀ a ∈ cp_rows, a ∉ [29, 32, 35, 38, 39, 42, 43, 44, 45, 46, 276] := by decide
  have e : ∀ a, (47 ≤ a ∧ a < 271) ∨ a < 29 → I' a = I a := fun a ha => he a (by simp; omega)
  refine ⟨h1.keep (fun a ha => he a (hd a ha)), ⟨by rw [e _ (by decide)]; exact h2.1, h2.2⟩, hw, h0.R h1.1.1, by rw [e _ (by decide)]; exact h5, ⟨h6, h7, by rw [e _ (by decide)]; exact h8, by rw [e _ (by decide)]; exact h9, fun i hi => (h10 i hi).keep (fun a g1 g2 => e a (by omega))⟩, fun s hs => ⟨by rw [e _ (by decide)]; exact (h11 s hs).1, fun z => ((h11 s hs).2 z).keep (fun a g1 g2 => e a (by omega))⟩, ?_, by rw [e _ (by decide), e _ (by decide)]; exact h13, by rw [e _ (by decide)]; exact h14⟩
  unfold cs_T
  rw [e 266 (by decide), e 267 (by decide), e 268 (by decide), e 269 (by decide)]
  exact h12
theorem ca_remember (hC : CI I lp nx p W u H hl S T D L tp pc) (h : ∀ I' : Nat → Nat → Int32, (∀ a, ¬ (47 ≤ a ∧ a < 251) → a ≠ 276 → I' a = I a) → CI I' lp ((nx + 1) % 40) p W (eh_u u) (eh_H u H W) hl S T D L tp pc → cd_0 I' → Q none (em_SH, I', J, em_RT lw)) : em_call (d + 3) 162 [.ref 1] (em_SH, I, J, em_RT lw) Q := by
  obtain ⟨h1, h2, h3, h4, h5, ⟨h6, h7, h8, h9, h10⟩, h11, h12, h13, h14⟩ := hC
  have hn := h1.1.1
  iterate 4 refine em_next rfl ?_
  refine em_inv_call rfl (ce_add h7 h8 h6 h9 (fun I1 a1 a2 a3 a4 => ?_))
  iterate 2 refine em_next rfl ?_
  refine em_inv_call rfl (ce_forgetRules ?_)
  refine em_done rfl ?_
  have k1 : ∀ a, a ≠ 276 → em_flr I1 276 216 (-1) a = I1 a := fun a ha => em_flr_row ha
  have k2 : ∀ a, a ≠ 47 → a ≠ 276 → ¬ (51 + 5 * nx ≤ a ∧ a ≤ 51 + 5 * nx + 4) → em_flr I1 276 216 (-1) a = I a := fun a z1 z2 z3 => by rw [k1 a z2]; exact a1 a z1 z3
  have k3 : ∀ a, a < 47 ∨ (251 ≤ a ∧ a < 271) → em_flr I1 276 216 (-1) a = I a := fun a z => k2 a (by omega) (by omega) (by omega)
  have hd : ∀ a ∈ cp_rows, a < 47 := by decide
  have h0 : cd_0 (em_flr I1 276 216 (-1)) := fun j hj => em_flr_at hj
  refine h _ (fun a z1 z2 => k2 a (by omega) z2 (by omega)) ⟨h1.keep (fun a ha => k3 a (Or.inl (hd a ha))), ⟨by rw [k3 _ (by decide)]; exact h2.1, h2.2⟩, h3.keep (fun a g1 g2 => k3 a (by omega)), h0.R hn, by rw [k3 _ (by decide)]; exact h5, ⟨by unfold eh_u; split <;> omega, by omega, by rw [k1 _ (by decide)]; exact a3, by rw [k1 _ (by decide)]; exact a4, fun i hi => ?_⟩, fun s hs => ⟨by rw [k2 _ (by decide) (by decide) (by omega)]; exact (h11 s hs).1, fun z => ((h11 s hs).2 z).keep (fun a g1 g2 => k3 a (by omega))⟩, ?_, by rw [k3 _ (by decide), k3 _ (by decide)]; exact h13, by rw [k3 _ (by decide)]; exact h14⟩ h0
  · have hnew : cr (em_flr I1 276 216 (-1)) (51 + 5 * nx) p.1 W := (a2 p.1 W hn h3).keep (fun a z1 z2 => k1 a (by omega))
    unfold eh_H
    by_cases e : i + 1 = eh_u u
    · rw [if_pos e]
      have : ((nx + 1) % 40 + 40 - eh_u u + i) % 40 = nx := by
        unfold eh_u at e hi ⊢
        split at e <;> rename_i q <;> (first | rw [if_pos q] at hi ⊢ | rw [if_neg q] at hi ⊢) <;> omega
      rw [this]
      exact hnew
    · rw [if_neg e]
      by_cases e2 : u = 40
      · have eu : eh_u u = 40 := if_pos e2
        rw [eu] at hi e
        rw [if_pos e2, eu]
        have hx : ((nx + 1) % 40 + 40 - 40 + i) % 40 = (nx + 40 - u + (i + 1)) % 40 := by omega
        rw [hx]
        exact (h10 (i + 1) (by omega)).keep (fun a z1 z2 => k2 a (by omega) (by omega) (by omega))
      · have eu : eh_u u = u + 1 := if_neg e2
        rw [eu] at hi e
        rw [if_neg e2, eu]
        have hx : ((nx + 1) % 40 + 40 - (u + 1) + i) % 40 = (nx + 40 - u + i) % 40 := by omega
        rw [hx]
        exact (h10 i (by omega)).keep (fun a z1 z2 => k2 a (by omega) (by omega) (by omega))
  · unfold cs_T
    rw [k3 266 (by decide), k3 267 (by decide), k3 268 (by decide), k3 269 (by decide)]
    exact h12
theorem ca_turn (hC : CI I lp nx p W u H hl S T D L tp pc) {b : Int32} (h : ∀ I' : Nat → Nat → Int32, (∀ a, 284 ≤ a → I' a = I a) → (em_okB (eq_P p W) b → CI I' lp ((nx + 1) % 40) p (ew_turn b.toNatClampNeg W) (eh_u u) (eh_H u H W) hl S T D L tp pc) → (¬ em_okB (eq_P p W) b → CI I' lp nx p W u H hl S T D L tp pc) → Q (some (.int (em_bo (em_okB (eq_P p W) b)))) (em_SH, I', J, em_RT lw)) : em_call (d + 4) 127 [.ref 1, .int b] (em_SH, I, J, em_RT lw) Q := by
  have hn := hC.1.1.1
  iterate 3 refine em_next rfl ?_
  refine em_inv_call rfl (ce_hasBed hC.1 ?_)
  iterate 1 refine em_next rfl ?_
  refine em_b_ne (fun g => ?_) (fun g => ?_)
  · obtain ⟨s, hs, rfl, es⟩ := em_bedN hn g
    iterate 1 refine em_next rfl ?_
    refine em_inv_call rfl (ca_remember hC (fun I1 a1 a2 a3 => ?_))
    have hw := a2.2.2.1
    iterate 8 refine em_next rfl ?_
    refine em_tp (em_xbE hw.1.2.1 (by omega)) ?_
    iterate 1 refine em_next rfl ?_
    show em_wp em_sc0 (d + 4) 127 _ _ _ (em_SH, em_u I1 42 4 (nI (W.1 ^^^ 2 ^ s)), J, em_RT lw) Q
    iterate 4 refine em_next rfl ?_
    refine em_next rfl ?_
    refine em_ialn rfl rfl (by omega) (by decide) ?_
    iterate 2 refine em_next rfl ?_
    refine em_iasn rfl rfl (by omega) (by decide) ?_
    iterate 1 refine em_next rfl ?_
    refine em_done rfl ?_
    show Q (some (.int 1)) (em_SH, em_u (em_u I1 42 4 (nI (W.1 ^^^ 2 ^ s))) 46 s (I1 46 s + 1), J, em_RT lw)
    have k1 : ∀ a, a ≠ 42 → a ≠ 46 → em_u (em_u I1 42 4 (nI (W.1 ^^^ 2 ^ s))) 46 s (I1 46 s + 1) a = I1 a := fun a z1 z2 => by rw [em_u_row z2, em_u_row z1]
    have g2 := h _ (fun a ha => (k1 a (by omega) (by omega)).trans (a1 a (by omega) (by omega))) (fun _ => by
      rw [es]
      refine a2.now (fun a ha => k1 a (fun q => ha (by rw [q]; decide)) (fun q => ha (by rw [q]; decide))) (fun j hj => by rw [k1 _ (by decide) (by decide)]; exact a3 j hj) ⟨⟨em_xlt hw.1.1 hs, ?_, ?_, ?_⟩, fun c hc => ⟨?_, ?_, ?_, ?_⟩⟩
      · rw [em_u_row (by decide), em_u_self]; rfl
      · rw [em_u_row (by decide), em_u_ne (by decide)]; exact hw.1.2.2.1
      · rw [em_u_row (by decide), em_u_ne (by decide)]; exact hw.1.2.2.2
      · rw [k1 _ (by decide) (by decide)]; exact (hw.2 c hc).1
      · rw [k1 _ (by decide) (by decide)]; exact (hw.2 c hc).2.1
      · rw [k1 _ (by decide) (by decide)]; exact (hw.2 c hc).2.2.1
      · show _ = if c = s then eq_tn W c + 1 else eq_tn W c
        by_cases e : c = s
        · subst e
          rw [em_u_self, if_pos rfl]
          exact congrArg (· + 1) (hw.2 c hc).2.2.2
        · rw [em_u_ne e, em_u_row (by decide), if_neg e]
          exact (hw.2 c hc).2.2.2) (fun z => absurd g z)
    rw [em_bo_t g] at g2
    exact g2
  · iterate 1 refine em_next rfl ?_
    have g2 := h I (fun _ _ => rfl) (fun z => absurd z g) (fun _ => hC)
    rw [em_bo_f g] at g2
    exact em_done rfl g2
theorem ca_whistle (hC : CI I lp nx p W u H hl S T D L tp pc) (h : ∀ I' : Nat → Nat → Int32, (∀ a, 284 ≤ a → I' a = I a) → (¬ p.1 = 0 → CI I' lp ((nx + 1) % 40) p (ew_whistle p.1 W) (eh_u u) (eh_H u H W) hl S T D L tp pc) → (p.1 = 0 → CI I' lp nx p W u H hl S T D L tp pc) → Q (some (.int (em_bo (¬ p.1 = 0)))) (em_SH, I', J, em_RT lw)) : em_call (d + 4) 128 [.ref 1] (em_SH, I, J, em_RT lw) Q := by
  have hn := hC.1.1.1
  iterate 4 refine em_next rfl ?_
  refine em_z_neE hC.1.1.2.1 (fun g => ?_) (fun g => ?_)
  · have g0 : ¬ p.1 = 0 := fun e => g (by rw [e]; rfl)
    iterate 1 refine em_next rfl ?_
    refine em_inv_call rfl (ca_remember hC (fun I1 a1 a2 a3 => ?_))
    have hw := a2.2.2.1
    iterate 6 refine em_next rfl ?_
    refine em_inv_call rfl (ce_allLeft a2.1 ?_)
    iterate 1 refine em_next rfl ?_
    refine em_tp (em_xrE hw.1.2.1 rfl) ?_
    iterate 2 refine em_next rfl ?_
    refine em_done rfl ?_
    show Q (some (.int 1)) (em_SH, em_u I1 42 4 (nI (W.1 ^^^ (2 ^ p.1 - 1))), J, em_RT lw)
    have k1 : ∀ a, a ≠ 42 → em_u I1 42 4 (nI (W.1 ^^^ (2 ^ p.1 - 1))) a = I1 a := fun a z1 => em_u_row z1
    have g2 := h _ (fun a ha => (k1 a (by omega)).trans (a1 a (by omega) (by omega))) (fun _ => by
      refine a2.now (fun a ha => k1 a (fun q => ha (by rw [q]; decide))) (fun j hj => by rw [k1 _ (by decide)]; exact a3 j hj) ⟨⟨Nat.xor_lt_two_pow hw.1.1 (by have := Nat.two_pow_pos p.1; omega), em_u_self, ?_, ?_⟩, fun c hc => ?_⟩
      · rw [em_u_ne (by decide)]; exact hw.1.2.2.1
      · rw [em_u_ne (by decide)]; exact hw.1.2.2.2
      · rw [k1 _ (by decide), k1 _ (by decide), k1 _ (by decide), k1 _ (by decide)]; exact hw.2 c hc) (fun z => absurd z g0)
    rw [em_bo_t g0] at g2
    exact g2
  · have g0 : p.1 = 0 := (nI_eq (b := 0) (by omega) (by decide)).mp g
    iterate 1 refine em_next rfl ?_
    have g2 := h I (fun _ _ => rfl) (fun z => absurd g0 z) (fun _ => hC)
    rw [em_bo_f (fun z => z g0)] at g2
    exact em_done rfl g2
theorem ca_change (hC : CI I lp nx p W u H hl S T D L tp pc) {a b : Int32} (h : ∀ I' : Nat → Nat → Int32, (∀ a, 284 ≤ a → I' a = I a) → (ok_ch p W a b → CI I' lp ((nx + 1) % 40) p (ew_change a.toNatClampNeg b.toNatClampNeg W) (eh_u u) (eh_H u H W) hl S T D L tp pc) → (¬ ok_ch p W a b → CI I' lp nx p W u H hl S T D L tp pc) → Q (some (.int (em_bo (ok_ch p W a b)))) (em_SH, I', J, em_RT lw)) : em_call (d + 4) 129 [.ref 1, .int a, .int b] (em_SH, I, J, em_RT lw) Q := by
  have hn := hC.1.1.1
  have hp9 := em_pow9 hn
  have no : ¬ ok_ch p W a b → Q (some (.int 0)) (em_SH, I, J, em_RT lw) := fun g => by
    have g2 := h I (fun _ _ => rfl) (fun z => absurd z g) (fun _ => hC)
    rw [em_bo_f g] at g2
    exact g2
  iterate 3 refine em_next rfl ?_
  refine em_inv_call rfl (ce_hasBed hC.1 ?_)
  iterate 1 refine em_next rfl ?_
  refine em_b_eq (fun g => ?_) (fun g => ?_)
  · iterate 1 refine em_next rfl ?_
    exact em_done rfl (no (fun z => g z.1))
  iterate 3 refine em_next rfl ?_
  refine em_inv_call rfl (ce_hasBed hC.1 ?_)
  iterate 1 refine em_next rfl ?_
  refine em_b_eq (fun g2 => ?_) (fun g2 => ?_)
  · iterate 1 refine em_next rfl ?_
    exact em_done rfl (no (fun z => g2 z.2.1))
  iterate 3 refine em_next rfl ?_
  refine em_c_ne (fun g3 => ?_) (fun g3 => ?_)
  · have gg : ok_ch p W a b := ⟨g, g2, g3⟩
    obtain ⟨s, hs, rfl, es⟩ := em_bedN hn g
    obtain ⟨t, ht, rfl, et⟩ := em_bedN hn g2
    iterate 1 refine em_next rfl ?_
    refine em_inv_call rfl (ca_remember hC (fun I1 a1 a2 a3 => ?_))
    have hw := a2.2.2.1
    have hwl := hw.1.1
    iterate 4 refine em_next rfl ?_
    refine em_inv_call rfl (ce_swap_now (r := W.1) (x := s) (y := t) hw.1.2.1 (by omega) (by omega) (by omega) (fun I2 b1 b2 b3 b4 b5 => ?_))
    iterate 1 refine em_next rfl ?_
    have sw : ∀ (v w : Nat → Int32) (j : Nat), j < p.1 → (∀ i, i < p.1 → v i = w i) → ey_sw v s t j = ey_sw w s t j := fun v w j hj hv => by
      unfold ey_sw
      split
      · exact hv t ht
      · split
        · exact hv s hs
        · exact hv j hj
    have g5 := h I2 (fun a ha => by rw [b1 a (by simp; omega)]; exact a1 a (by omega) (by omega)) (fun _ => by
      rw [es, et]
      refine a2.now (fun a ha => b1 a (fun q => ha (by revert q; simp; omega))) (fun j hj => by rw [b1 _ (by decide)]; exact a3 j hj) ⟨⟨em_swr_lt hn hwl hs ht, b3, by rw [b4]; exact hw.1.2.2.1, by rw [b5]; exact hw.1.2.2.2⟩, fun c hc => ⟨?_, ?_, ?_, ?_⟩⟩
      · rw [(b2 c).1]; exact sw _ _ c hc (fun i hi => (hw.2 i hi).1)
      · rw [(b2 c).2.1]; exact sw _ _ c hc (fun i hi => (hw.2 i hi).2.1)
      · rw [(b2 c).2.2.1]; exact sw _ _ c hc (fun i hi => (hw.2 i hi).2.2.1)
      · rw [(b2 c).2.2.2]; exact sw _ _ c hc (fun i hi => (hw.2 i hi).2.2.2)) (fun z => absurd gg z)
    rw [em_bo_t gg] at g5
    exact em_done rfl g5
  · iterate 1 refine em_next rfl ?_
    exact em_done rfl (no (fun z => z.2.2 g3))
end CCH3
