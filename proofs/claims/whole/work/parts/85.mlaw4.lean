/-! the reference is told a law, two -/
def lO (b : Nat → Nat) (L sd C0 B0 k lw : Nat) (I0 : Nat → Nat → Int32) (J : Nat → Nat → Int64) (Q : Option Value → em_M → Prop) (ds : List ek_br) (r : tl_L) : Prop := match r with
  | .inl e => ∀ I' : Nat → Nat → Int32, lf sd C0 B0 k I0 I' → mfl b L I' e → Q none (em_SH, I', J, em_RT lw)
  | .inr y => ∀ (I' : Nat → Nat → Int32) (C : Nat), lf sd C0 B0 k I0 I' → mat b L y.1 I' → I' 284 12 = nI 0 → I' 284 39 = nI (420 * sd + C) → C0 ≤ C → C ≤ y.1 → I' 284 33 = nI (130 * sd + (B0 + (ds ++ y.2.1).length + 1)) → 4 * (B0 + (ds ++ y.2.1).length + 1) ≤ y.1 → mbr I' (420 * sd) (420 * sd + C) (130 * sd + B0) (ds ++ y.2.1) y.2.2 → I' 302 (4 * sd + k) = nI (130 * sd + B0) → I' 303 (4 * sd + k) = nI (130 * sd + B0 + (ds ++ y.2.1).length + 1) → ek_wl (some y.2) → Q none (em_SH, I', J, em_RT lw)
section MLAW4
variable {d lw : Nat} {b : Nat → Nat} {L nT sd C0 B0 k : Nat} {I I0 I' I'' : Nat → Nat → Int32} {J J0 J' J'' : Nat → Nat → Int64} {M : em_M} {Q : Option Value → em_M → Prop}
/-- a fault within a law: at the head -/
theorem me_tlb_h {e : tl_E} {B : Nat} {x2 x3 : Int32} (hsd : sd < 2) (hf : mfl b L I e) (hB : B < 129) (hB0 : B0 ≤ B) (hbr : I 284 33 = nI (130 * sd + B)) (hl : lf sd C0 B0 k I0 I) (h : ∀ I' : Nat → Nat → Int32, lf sd C0 B0 k I0 I' → mfl b L I' e → Q none (em_SH, I', J, em_RT lw)) : em_wp em_sc0 (d + 5) 193 12 [some (.ref 284), some (.int (nI k)), some (.int (x2)), some (.int (x3))] [] (em_SH, I, J, em_RT lw) Q := by
  iterate 3 refine em_next rfl ?_
  refine em_z_neE hf.1 (fun _ => ?_) (fun z => absurd z hf.ne)
  iterate 5 refine em_next rfl ?_
  refine em_basE (k := 130 * sd + B) (y := 0) rfl rfl hbr (by omega) (by decide) rfl ?_
  iterate 1 refine em_next rfl ?_
  refine em_inv_call rfl (me_term_b (e := e) (B := B) (C0 := C0) (B0 := B0) (k := k) (I0 := I0) hsd (hf.keep (by rw [em_u_row (by decide)]) (by rw [em_u_row (by decide)])) (by omega) hB0 (by rw [em_u_row (by decide)]; exact hbr) (hl.u (by decide) (by omega)) (fun I1 a1 a2 a3 => ?_))
  iterate 2 refine em_next rfl ?_
  refine em_inv_call rfl (me_must_b (k := 4) a2 ?_)
  iterate 3 refine em_next rfl ?_
  refine em_z_leE a2.1 (fun z => absurd z a2.gt) (fun _ => ?_)
  exact em_done rfl (h I1 a1 a2)
/-- before the then -/
theorem me_tlb_t {e : tl_E} {B : Nat} {x2 x3 : Int32} (hsd : sd < 2) (hf : mfl b L I e) (hB : B < 128) (hB0 : B0 ≤ B) (hbr : I 284 33 = nI (130 * sd + B)) (hl : lf sd C0 B0 k I0 I) (h : ∀ I' : Nat → Nat → Int32, lf sd C0 B0 k I0 I' → mfl b L I' e → Q none (em_SH, I', J, em_RT lw)) : em_wp em_sc0 (d + 5) 193 116 [some (.ref 284), some (.int (nI k)), some (.int (x2)), some (.int (x3))] [] (em_SH, I, J, em_RT lw) Q := by
  iterate 1 refine em_next rfl ?_
  refine em_inv_call rfl (me_term_b (e := e) (B := B) (C0 := C0) (B0 := B0) (k := k) (I0 := I0) hsd hf (by omega) hB0 hbr hl (fun I1 a1 a2 a3 => ?_))
  iterate 2 refine em_next rfl ?_
  refine em_inv_call rfl (me_must_b (k := 31) a2 ?_)
  iterate 1 refine em_next rfl ?_
  exact me_tlb_h (B := B + 1) hsd a2 (by omega) (by omega) a3 a1 h
theorem me_tlb_m {e : tl_E} {B : Nat} {x2 x3 : Int32} (hsd : sd < 2) (hf : mfl b L I e) (hB : B < 128) (hB0 : B0 ≤ B) (hbr : I 284 33 = nI (130 * sd + B)) (hl : lf sd C0 B0 k I0 I) (h : ∀ I' : Nat → Nat → Int32, lf sd C0 B0 k I0 I' → mfl b L I' e → Q none (em_SH, I', J, em_RT lw)) : em_wp em_sc0 (d + 5) 193 86 [some (.ref 284), some (.int (nI k)), some (.int (x2)), some (.int (x3))] [] (em_SH, I, J, em_RT lw) Q := by
  iterate 6 refine em_next rfl ?_
  refine em_iasE (k := 130 * sd + B) rfl rfl hbr (by omega) (by decide) ?_
  have k1 : ∀ j, em_u I 306 (130 * sd + B) (I 284 39) 284 j = I 284 j := fun j => by rw [em_u_row (by decide)]
  have f1 : mfl b L (em_u I 306 (130 * sd + B) (I 284 39)) e := hf.keep (k1 _) (k1 _)
  iterate 3 refine em_next rfl ?_
  refine em_z_neE (x' := nI e.1) f1.1 (fun _ => ?_) (fun z => absurd z hf.ne)
  iterate 2 refine em_next rfl ?_
  refine em_inv_call rfl (me_must_b (k := 30) f1 ?_)
  exact me_tlb_t (B := B) hsd f1 hB hB0 ((k1 _).trans hbr) (hl.u (by decide) (by omega)) h
/-- before the less -/
theorem me_tlb_l {e : tl_E} {B : Nat} {x2 x3 : Int32} (hsd : sd < 2) (hf : mfl b L I e) (hB : B < 128) (hB0 : B0 ≤ B) (hbr : I 284 33 = nI (130 * sd + B)) (hl : lf sd C0 B0 k I0 I) (h : ∀ I' : Nat → Nat → Int32, lf sd C0 B0 k I0 I' → mfl b L I' e → Q none (em_SH, I', J, em_RT lw)) : em_wp em_sc0 (d + 5) 193 80 [some (.ref 284), some (.int (nI k)), some (.int (x2)), some (.int (x3))] [] (em_SH, I, J, em_RT lw) Q := by
  iterate 2 refine em_next rfl ?_
  refine em_inv_call rfl (me_must_b (k := 13) hf ?_)
  exact me_tlb_m (B := B) hsd hf hB hB0 hbr hl h
/-- a law's last term -/
theorem me_tl_end {t C : Nat} {x3 : Int32} {ds : List ek_br} (hsd : sd < 2) (hk4 : k < 4) (hx : mx b L nT I0 J) (hside : I0 284 19 = nI sd) (hm : mat b L t I) (ho : I 284 12 = nI 0) (hcd : I 284 39 = nI (420 * sd + C)) (hC : C ≤ t) (hC0 : C0 ≤ C) (hbr : I 284 33 = nI (130 * sd + (B0 + ds.length))) (hb4 : 4 * (B0 + ds.length) + 2 ≤ t) (hl : lf sd C0 B0 k I0 I) (hds : mbl I (420 * sd) (420 * sd + C) (130 * sd + B0) ds) (h : lO b L sd C0 B0 k lw I0 J Q ds (tl_end (tk_K b L) (tk_V b L) t)) : em_wp em_sc0 (d + 5) 193 129 [some (.ref 284), some (.int (nI k)), some (.int (nI (130 * sd + B0))), some (.int (x3))] [] (em_SH, I, J, em_RT lw) Q := by
  have ht := hm.1
  unfold tl_end at h
  have hb : ∀ a ∈ brows, a ≠ 284 ∧ a ≠ 309 ∧ a ≠ 310 ∧ a ≠ 302 ∧ a ≠ 303 := by decide
  iterate 5 refine em_next rfl ?_
  refine em_basE (k := 130 * sd + (B0 + ds.length)) (y := 0) rfl rfl hbr (by omega) (by decide) rfl ?_
  have k1 : ∀ a, a ≠ 304 → em_u I 304 (130 * sd + (B0 + ds.length)) 0 a = I a := fun a ha => em_u_row ha
  have l1 : lf sd C0 B0 k I0 (em_u I 304 (130 * sd + (B0 + ds.length)) 0) := hl.u (by decide) (by omega)
  iterate 1 refine em_next rfl ?_
  refine em_inv_call rfl (me_term (C := C) (B := B0 + ds.length) (C0 := C0) (B0 := B0) (k := k) (I0 := I0) hsd hx (hm.keep (by rw [k1 _ (by decide)]) (by rw [k1 _ (by decide)])) (by rw [k1 _ (by decide)]; exact ho) (by rw [k1 _ (by decide)]; exact hcd) hC hC0 (by omega) (by omega) (by rw [k1 _ (by decide)]; exact hbr) l1 (fun w e1 g1 g2 g3 I1 a1 a2 a3 a4 a5 a6 a7 a8 a9 a10 a11 => ?_) (fun e e1 I1 a1 a2 a3 => ?_))
  · rw [e1, tl_b_inr] at h
    iterate 2 refine em_next rfl ?_
    refine em_inv_call rfl (me_must (k := 4) (a1.x hx) a2 (by decide) (by decide) (by decide) (fun z1 z2 e2 I2 b1 b2 => ?_) (fun e e2 I2 b1 b2 => ?_))
    · rw [e2, tl_b_inr] at h
      iterate 3 refine em_next rfl ?_
      refine em_z_leE b2.2.2.2 (fun _ => ?_) (fun z => absurd (by decide) z)
      have l2 := a1.g b1
      have sd2 : I2 284 19 = nI sd := (l2.2.1 _ (by decide)).trans hside
      iterate 9 refine em_next rfl ?_
      refine em_iasE (k := 4 * sd + k) rfl rfl (em_idxE (c := 4) sd2) (by omega) (by decide) ?_
      have sd3 : em_u I2 302 (4 * sd + k) (nI (130 * sd + B0)) 284 19 = nI sd := by rw [em_u_row (by decide)]; exact sd2
      iterate 10 refine em_next rfl ?_
      refine em_iasE (k := 4 * sd + k) rfl rfl (em_idxE (c := 4) sd3) (by omega) (by decide) ?_
      refine em_done rfl ?_
      have br2 : em_u I2 302 (4 * sd + k) (nI (130 * sd + B0)) 284 33 = nI (130 * sd + (B0 + ds.length + 1)) := by rw [em_u_row (by decide), b1.2 _ (by decide)]; exact a5
      show Q none (em_SH, em_u (em_u I2 302 (4 * sd + k) (nI (130 * sd + B0))) 303 (4 * sd + k) (em_u I2 302 (4 * sd + k) (nI (130 * sd + B0)) 284 33), J, em_RT lw)
      rw [br2]
      have r3 : ∀ a, a ≠ 302 → a ≠ 303 → ∀ x y : Int32, em_u (em_u I2 302 (4 * sd + k) x) 303 (4 * sd + k) y a = I2 a := fun a z1 z2 x y => by rw [em_u_row z2, em_u_row z1]
      have cE : ∀ (x y : Int32) (j : Nat), 420 * sd ≤ j → j < 420 * sd + C → em_u (em_u I2 302 (4 * sd + k) x) 303 (4 * sd + k) y 309 j = I 309 j ∧ em_u (em_u I2 302 (4 * sd + k) x) 303 (4 * sd + k) y 310 j = I 310 j := fun x y j j1 j2 => by
        rw [r3 _ (by decide) (by decide), r3 _ (by decide) (by decide), b1.1 _ (by decide), b1.1 _ (by decide)]
        have := a9 j (by omega)
        rw [k1 _ (by decide), k1 _ (by decide)] at this
        exact this
      have rE : ∀ (x y : Int32), ∀ a ∈ brows, ∀ j, em_u (em_u I2 302 (4 * sd + k) x) 303 (4 * sd + k) y a j = I1 a j := fun x y a ha j => by
        rw [r3 a (hb a ha).2.2.2.1 (hb a ha).2.2.2.2, b1.1 a (hb a ha).1]
      have e0 : ds ++ ([] : List ek_br) = ds := List.append_nil ds
      refine h _ (C + w.2.length) l2.l (b2.keep ?_ ?_) ?_ ?_ (by omega) (by dsimp only; omega) ?_ ?_ ?_ ?_ ?_ ⟨fun x hx => absurd hx (List.not_mem_nil), g3⟩
      · rw [r3 _ (by decide) (by decide)]
      · rw [r3 _ (by decide) (by decide)]
      · rw [r3 _ (by decide) (by decide), b1.2 _ (by decide)]; exact a3
      · rw [r3 _ (by decide) (by decide), b1.2 _ (by decide)]; exact a4
      · rw [e0, r3 _ (by decide) (by decide), b1.2 _ (by decide)]; exact a5
      · rw [e0]; dsimp only; omega
      · rw [e0]
        refine mbr_of (hds.kp (by omega) (cE _ _) (fun a ha j z1 z2 => ?_)) ⟨?_, 420 * sd + C, by omega, by dsimp only; omega, ?_, ?_, ?_⟩
        · rw [rE _ _ a ha j, a10 a ha j (by omega)]
          by_cases e : a = 304
          · rw [e, em_u_ne (by omega)]
          · rw [k1 a e]
        · rw [rE _ _ _ (by decide), a11 _ (by decide), show 130 * sd + B0 + ds.length = 130 * sd + (B0 + ds.length) by omega, em_u_self]
        · rw [rE _ _ _ (by decide), show 130 * sd + B0 + ds.length = 130 * sd + (B0 + ds.length) by omega]; exact a7
        · rw [rE _ _ _ (by decide), show 130 * sd + B0 + ds.length = 130 * sd + (B0 + ds.length) by omega, a8]; congr 1; dsimp only; omega
        · exact a6.keep (lo := 0) (hi := 420 * sd + C + w.2.length) (by omega) (by omega) (fun j _ _ => by rw [r3 _ (by decide) (by decide), r3 _ (by decide) (by decide), b1.1 _ (by decide), b1.1 _ (by decide)]; exact ⟨rfl, rfl⟩)
      · rw [em_u_row (by decide), em_u_self]
      · rw [e0, em_u_self]; congr 1; omega
    · rw [e2, tl_b_inl] at h
      iterate 3 refine em_next rfl ?_
      refine em_z_leE b2.1 (fun z => absurd z b2.gt) (fun _ => ?_)
      exact em_done rfl (h I2 (a1.g b1) b2)
  · rw [e1, tl_b_inl] at h
    iterate 2 refine em_next rfl ?_
    refine em_inv_call rfl (me_must_b (k := 4) a2 ?_)
    iterate 3 refine em_next rfl ?_
    refine em_z_leE a2.1 (fun z => absurd z a2.gt) (fun _ => ?_)
    exact em_done rfl (h I1 a1 a2)
end MLAW4
