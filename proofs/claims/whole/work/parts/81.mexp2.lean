/-! the reference's sums, two -/
def FO (b : Nat → Nat) (L sd C0 lw : Nat) (I0 : Nat → Nat → Int32) (J : Nat → Nat → Int64) (Q : Option Value → em_M → Prop) (e : tl_E) : Prop := ∀ I' : Nat → Nat → Int32, ef sd C0 I0 I' → mfl b L I' e → Q none (em_SH, I', J, em_RT lw)
def pnd (p : List Nat) : Prop := ∀ w ∈ p, w = 8 ∨ w = 9 ∨ w = 10 ∨ w = 15
def stg (s : List Nat) : Prop := s = [] ∨ s = [10] ∨ s = [15]
def oft (W : List Nat) : Prop := W = [] ∨ ∃ r, W = 6 :: r
def sft (W : List Nat) : Prop := W = [] ∨ ∃ x r, W = x :: r ∧ (x = 6 ∨ x = 8 ∨ x = 9)
section MEXP2
variable {d lw : Nat} {b : Nat → Nat} {L nT sd C0 : Nat} {I I0 I' I'' : Nat → Nat → Int32} {J J0 J' J'' : Nat → Nat → Int64} {M : em_M} {Q : Option Value → em_M → Prop}
theorem me_A_b {e : tl_E} {x1 x2 : Int32} (hf : mfl b L I e) (h : Q none (em_SH, I, J, em_RT lw)) : em_wp em_sc0 (d + 3) 197 23 [some (.ref 284), some (.int (x1)), some (.int (x2))] [] (em_SH, I, J, em_RT lw) Q := by
  iterate 2 refine em_next rfl ?_
  refine em_inv_call rfl (me_is_b (k := 6) hf ?_)
  iterate 1 refine em_next rfl ?_
  refine em_z_eq (fun _ => ?_) (fun z => absurd rfl z)
  iterate 1 refine em_next rfl ?_
  refine em_inv_call rfl (me_unit_b hf ?_)
  iterate 2 refine em_next rfl ?_
  refine em_next rfl ?_
  refine em_z_leE hf.1 (fun z => absurd z hf.gt) (fun _ => ?_)
  exact em_done rfl h
theorem me_B_b {e : tl_E} {n : Nat} {x2 : Int32} {W : List Nat} {E : ek_cd} (hsd : sd < 2) (hf : mfl b L I e) (hl : W.length ≤ 64) (hc : mc sd C0 I0 I n W E) (h : FO b L sd C0 lw I0 J Q e) : em_wp em_sc0 (d + 3) 197 96 [some (.ref 284), some (.int (0)), some (.int (x2))] [] (em_SH, I, J, em_RT lw) Q := by
  have fin : em_wp em_sc0 (d + 3) 197 204 [some (.ref 284), some (.int (0)), some (.int (0))] [] (em_SH, I, J, em_RT lw) Q := by
    iterate 2 refine em_next rfl ?_
    refine em_inv_call rfl (me_out_any hsd hl hc (fun I1 a1 a2 => ?_))
    exact em_done rfl (h I1 a1 (hf.eg a2))
  iterate 2 refine em_next rfl ?_
  refine em_inv_call rfl (me_is_b (k := 7) hf ?_)
  iterate 1 refine em_next rfl ?_
  refine em_z_eq (fun _ => ?_) (fun z => absurd rfl z)
  iterate 2 refine em_next rfl ?_
  refine em_inv_call rfl (me_is_b (k := 8) hf ?_)
  iterate 1 refine em_next rfl ?_
  refine em_z_ne (fun z => absurd rfl z) (fun _ => ?_)
  iterate 2 refine em_next rfl ?_
  refine em_inv_call rfl (me_is_b (k := 9) hf ?_)
  iterate 1 refine em_next rfl ?_
  refine em_z_ne (fun z => absurd rfl z) (fun _ => ?_)
  iterate 2 refine em_next rfl ?_
  refine em_inv_call rfl (me_is_b (k := 10) hf ?_)
  iterate 1 refine em_next rfl ?_
  refine em_z_ne (fun z => absurd rfl z) (fun _ => ?_)
  iterate 2 refine em_next rfl ?_
  refine em_inv_call rfl (me_is_b (k := 15) hf ?_)
  iterate 1 refine em_next rfl ?_
  refine em_z_eq (fun _ => ?_) (fun z => absurd rfl z)
  iterate 3 refine em_next rfl ?_
  refine em_next rfl ?_
  refine em_z_ne (fun z => absurd rfl z) (fun _ => ?_)
  iterate 4 refine em_next rfl ?_
  refine em_c_le (fun _ => fin) (fun _ => ?_)
  iterate 2 refine em_next rfl ?_
  refine em_inv_call rfl (me_fail_b hf ?_)
  exact fin
/-- an operator is met -/
theorem me_opB {t n k : Nat} {p W : List Nat} {E : ek_cd} (hsd : sd < 2) (hx : mx b L nT I0 J) (hk : tk_K b L t = k) (hkk : k = 8 ∨ k = 9 ∨ k = 10 ∨ k = 15) (hp : pnd p) (hps : (k = 10 ∨ k = 15) → ∀ w ∈ p, w = 10 ∨ w = 15) (hW : ((k = 8 ∨ k = 9) → oft W) ∧ sft W) (hl : (p ++ W).length ≤ 60) (hm : ms b L sd C0 I0 I t n (p ++ W) E) (h1 : t < 400 → ∀ I' : Nat → Nat → Int32, ms b L sd C0 I0 I' (t + 1) n (k :: W) (E ++ fl p) → em_wp em_sc0 (d + 3) 197 23 [some (.ref 284), some (.int (0)), some (.int (1))] [] (em_SH, I', J, em_RT lw) Q) (h2 : ¬ t < 400 → FO b L sd C0 lw I0 J Q (2, t)) : em_wp em_sc0 (d + 3) 197 96 [some (.ref 284), some (.int (0)), some (.int (1))] [] (em_SH, I, J, em_RT lw) Q := by
  obtain ⟨hc, ha, hb⟩ := hm
  have hxI := hx.ef hc.1
  have ht := ha.1
  have hl2 := hl
  rw [List.length_append] at hl2 hb
  have push : ∀ st : Bool, (st = true ↔ (k = 10 ∨ k = 15)) → em_wp em_sc0 (d + 3) 197 234 [some (.ref 284), some (.int (0)), some (.int (1))] [.int (em_bb st), .ref 284] (em_SH, I, J, em_RT lw) Q := fun st hst => by
    refine em_inv_call rfl (me_out (st := st) hsd (fun w hw => ?_) ?_ (by omega) hc (fun I1 a1 a2 => ?_))
    · cases st with
      | true =>
        rcases hps (hst.mp rfl) w hw with g | g
        · exact Or.inl g
        · exact Or.inr (Or.inl g)
      | false =>
        rcases hp w hw with g | g | g | g
        · exact Or.inr (Or.inr ⟨rfl, Or.inl g⟩)
        · exact Or.inr (Or.inr ⟨rfl, Or.inr g⟩)
        · exact Or.inl g
        · exact Or.inr (Or.inl g)
    · cases st with
      | true =>
        rcases hW.2 with g | ⟨x, r, g1, g2⟩
        · exact Or.inl g
        · refine Or.inr ⟨x, r, g1, ?_⟩
          rcases g2 with g | g
          · exact Or.inl g
          · exact Or.inr ⟨rfl, g⟩
      | false =>
        have : k = 8 ∨ k = 9 := by
          rcases hkk with g | g | g | g
          · exact Or.inl g
          · exact Or.inr g
          · exact absurd (hst.mpr (Or.inl g)) (by decide)
          · exact absurd (hst.mpr (Or.inr g)) (by decide)
        rcases hW.1 this with g | ⟨r, g⟩
        · exact Or.inl g
        · exact Or.inr ⟨6, r, g, Or.inl rfl⟩
    · have ha1 := ha.eg a2
      have hx1 := hxI.eg a2
      have hT := hx1.tok ha1
      have lw1 := a1.2.1.2.1
      iterate 8 refine em_next rfl ?_
      refine em_ialE (k := t) rfl rfl ha1.2.2.1 (by omega) (by decide) ?_
      refine em_tp (y := nI k) (by rw [hT.1, hk]) ?_
      refine em_iasE (k := W.length) rfl rfl lw1 (by omega) (by decide) ?_
      iterate 6 refine em_next rfl ?_
      have hE : (E ++ fl p).length = E.length + p.length := by rw [List.length_append, fl_len]
      have hq : em_u I1 311 W.length (nI k) 284 43 + 1 = nI (W.length + 1) := by rw [em_u_row (by decide), lw1, nI_succ]
      obtain ⟨m1, m2⟩ := a1.push (w := k) hq rfl (by omega) (by omega)
      show em_wp em_sc0 (d + 3) 197 _ _ _ (em_SH, em_u (em_u I1 311 W.length (nI k)) 284 43 (em_u I1 311 W.length (nI k) 284 43 + 1), J, em_RT lw) Q
      generalize em_u (em_u I1 311 W.length (nI k)) 284 43 (em_u I1 311 W.length (nI k) 284 43 + 1) = K at m1 m2 ⊢
      iterate 1 refine em_next rfl ?_
      refine em_inv_call rfl (me_goesOn (hx1.eg m2) (ha1.eg m2) (by omega) (fun y I2 b1 b2 => ?_) (fun y I2 b1 b2 => ?_))
      · iterate 3 refine em_next rfl ?_
        refine em_z_eq (fun z => absurd z (by decide)) (fun _ => ?_)
        iterate 2 refine em_next rfl ?_
        refine em_next rfl ?_
        refine em_z_neE b2.2.2.2 (fun z => absurd rfl z) (fun _ => ?_)
        exact h1 y I2 ⟨m1.g b1, b2, by rw [hE, List.length_cons]; omega⟩
      · iterate 3 refine em_next rfl ?_
        refine em_z_eq (fun z => absurd z (by decide)) (fun _ => ?_)
        iterate 2 refine em_next rfl ?_
        refine em_next rfl ?_
        refine em_z_neE b2.1 (fun _ => ?_) (fun z => absurd z b2.ne)
        exact em_done rfl (h2 y I2 (m1.g b1).1 b2)
  have mid : em_wp em_sc0 (d + 3) 197 181 [some (.ref 284), some (.int (0)), some (.int (1))] [] (em_SH, I, J, em_RT lw) Q := by
    iterate 5 refine em_next rfl ?_
    refine em_z_ne (fun _ => ?_) (fun z => absurd z (by decide))
    iterate 3 refine em_next rfl ?_
    refine em_inv_call rfl (me_is (k := 10) hxI ha (by decide) (fun z => ?_) (fun z => ?_))
    · iterate 1 refine em_next rfl ?_
      refine em_z_ne (fun _ => ?_) (fun z => absurd z (by decide))
      iterate 2 refine em_next rfl ?_
      exact push true ⟨fun _ => Or.inl (hk.symm.trans z), fun _ => rfl⟩
    · iterate 1 refine em_next rfl ?_
      refine em_z_ne (fun z => absurd rfl z) (fun _ => ?_)
      iterate 2 refine em_next rfl ?_
      refine em_inv_call rfl (me_is (k := 15) hxI ha (by decide) (fun y => ?_) (fun y => ?_))
      · iterate 1 refine em_next rfl ?_
        refine em_z_eq (fun z => absurd z (by decide)) (fun _ => ?_)
        iterate 2 refine em_next rfl ?_
        exact push true ⟨fun _ => Or.inr (hk.symm.trans y), fun _ => rfl⟩
      · iterate 1 refine em_next rfl ?_
        refine em_z_eq (fun _ => ?_) (fun z => absurd rfl z)
        iterate 1 refine em_next rfl ?_
        exact push false ⟨fun e => absurd e (by decide), fun e => by omega⟩
  iterate 2 refine em_next rfl ?_
  refine em_inv_call rfl (me_is_n (k := 7) hxI ha (by omega) (by decide) ?_)
  iterate 1 refine em_next rfl ?_
  refine em_z_eq (fun _ => ?_) (fun z => absurd rfl z)
  iterate 2 refine em_next rfl ?_
  refine em_inv_call rfl (me_is (k := 8) hxI ha (by decide) (fun z => ?_) (fun z8 => ?_))
  · iterate 1 refine em_next rfl ?_
    exact em_z_ne (fun _ => mid) (fun z => absurd z (by decide))
  iterate 1 refine em_next rfl ?_
  refine em_z_ne (fun z => absurd rfl z) (fun _ => ?_)
  iterate 2 refine em_next rfl ?_
  refine em_inv_call rfl (me_is (k := 9) hxI ha (by decide) (fun z => ?_) (fun z9 => ?_))
  · iterate 1 refine em_next rfl ?_
    exact em_z_ne (fun _ => mid) (fun z => absurd z (by decide))
  iterate 1 refine em_next rfl ?_
  refine em_z_ne (fun z => absurd rfl z) (fun _ => ?_)
  iterate 2 refine em_next rfl ?_
  refine em_inv_call rfl (me_is (k := 10) hxI ha (by decide) (fun z => ?_) (fun z10 => ?_))
  · iterate 1 refine em_next rfl ?_
    exact em_z_ne (fun _ => mid) (fun z => absurd z (by decide))
  iterate 1 refine em_next rfl ?_
  refine em_z_ne (fun z => absurd rfl z) (fun _ => ?_)
  iterate 2 refine em_next rfl ?_
  refine em_inv_call rfl (me_is_y (k := 15) hxI ha (by omega) ?_)
  iterate 1 refine em_next rfl ?_
  exact em_z_eq (fun z => absurd z (by decide)) (fun _ => mid)
/-- a sum's end -/
theorem me_endB {t n : Nat} {p W : List Nat} {E : ek_cd} (hsd : sd < 2) (hx : mx b L nT I0 J) (hk : ¬ tk_K b L t = 8 ∧ ¬ tk_K b L t = 9 ∧ ¬ tk_K b L t = 10 ∧ ¬ tk_K b L t = 15) (h7 : ¬ (tk_K b L t = 7 ∧ 0 < n)) (hp : pnd p) (hW : oft W) (hn : n ≤ 7) (hl : (p ++ W).length ≤ 60) (hm : ms b L sd C0 I0 I t n (p ++ W) E) (h1 : n = 0 → ∀ I' : Nat → Nat → Int32, ms b L sd C0 I0 I' t n W (E ++ fl p) → Q none (em_SH, I', J, em_RT lw)) (h2 : 0 < n → FO b L sd C0 lw I0 J Q (1, t)) : em_wp em_sc0 (d + 3) 197 96 [some (.ref 284), some (.int (0)), some (.int (1))] [] (em_SH, I, J, em_RT lw) Q := by
  obtain ⟨hc, ha, hb⟩ := hm
  have hxI := hx.ef hc.1
  have ht := ha.1
  have hl2 := hl
  rw [List.length_append] at hl2 hb
  have mid : em_wp em_sc0 (d + 3) 197 145 [some (.ref 284), some (.int (0)), some (.int (1))] [] (em_SH, I, J, em_RT lw) Q := by
    iterate 2 refine em_next rfl ?_
    refine em_inv_call rfl (me_is_n (k := 8) hxI ha (by omega) (by decide) ?_)
    iterate 1 refine em_next rfl ?_
    refine em_z_ne (fun z => absurd rfl z) (fun _ => ?_)
    iterate 2 refine em_next rfl ?_
    refine em_inv_call rfl (me_is_n (k := 9) hxI ha (by omega) (by decide) ?_)
    iterate 1 refine em_next rfl ?_
    refine em_z_ne (fun z => absurd rfl z) (fun _ => ?_)
    iterate 2 refine em_next rfl ?_
    refine em_inv_call rfl (me_is_n (k := 10) hxI ha (by omega) (by decide) ?_)
    iterate 1 refine em_next rfl ?_
    refine em_z_ne (fun z => absurd rfl z) (fun _ => ?_)
    iterate 2 refine em_next rfl ?_
    refine em_inv_call rfl (me_is_n (k := 15) hxI ha (by omega) (by decide) ?_)
    iterate 1 refine em_next rfl ?_
    refine em_z_eq (fun _ => ?_) (fun z => absurd rfl z)
    iterate 3 refine em_next rfl ?_
    refine em_next rfl ?_
    refine em_z_ne (fun z => absurd rfl z) (fun _ => ?_)
    iterate 4 refine em_next rfl ?_
    refine em_c_leE hc.2.1.1 (y' := nI 0) rfl (fun z => ?_) (fun z => ?_)
    · have z2 : n = 0 := by have := (nI_leI (by omega) (by decide)).mp z; omega
      iterate 2 refine em_next rfl ?_
      refine em_inv_call rfl (me_out (st := false) hsd (fun w hw => ?_) ?_ (by omega) hc (fun I1 a1 a2 => ?_))
      · rcases hp w hw with g | g | g | g
        · exact Or.inr (Or.inr ⟨rfl, Or.inl g⟩)
        · exact Or.inr (Or.inr ⟨rfl, Or.inr g⟩)
        · exact Or.inl g
        · exact Or.inr (Or.inl g)
      · rcases hW with g | ⟨r, g⟩
        · exact Or.inl g
        · exact Or.inr ⟨6, r, g, Or.inl rfl⟩
      · exact em_done rfl (h1 z2 I1 ⟨a1, ha.eg a2, by rw [List.length_append, fl_len]; omega⟩)
    · have z2 : 0 < n := Nat.not_le.mp (fun e => z ((nI_leI (by omega) (by decide)).mpr e))
      iterate 2 refine em_next rfl ?_
      refine em_inv_call rfl (me_fail (k := 1) hxI ha (by decide) (by decide) (fun I1 a1 a2 _ => ?_))
      iterate 2 refine em_next rfl ?_
      refine em_inv_call rfl (me_out_any hsd (by omega) (hc.g a1) (fun I2 b1 b2 => ?_))
      exact em_done rfl (h2 z2 I2 b1 (a2.eg b2))
  iterate 2 refine em_next rfl ?_
  refine em_inv_call rfl (me_is (k := 7) hxI ha (by decide) (fun z => ?_) (fun z => ?_))
  · iterate 1 refine em_next rfl ?_
    refine em_z_eq (fun z => absurd z (by decide)) (fun _ => ?_)
    iterate 4 refine em_next rfl ?_
    exact em_c_leE hc.2.1.1 (y' := nI 0) rfl (fun _ => mid) (fun q => absurd ((nI_leI (by omega) (by decide)).mpr (by omega)) q)
  · iterate 1 refine em_next rfl ?_
    exact em_z_eq (fun _ => mid) (fun z => absurd rfl z)
/-- a bracket is closed -/
theorem me_closeB {t n : Nat} {p W : List Nat} {E : ek_cd} (hsd : sd < 2) (hx : mx b L nT I0 J) (hk : tk_K b L t = 7) (hp : pnd p) (hn : n ≤ 7) (hl : (p ++ 6 :: W).length ≤ 60) (hm : ms b L sd C0 I0 I t (n + 1) (p ++ 6 :: W) E) (h1 : t < 400 → ∀ I' : Nat → Nat → Int32, ms b L sd C0 I0 I' (t + 1) n W (E ++ fl p) → em_wp em_sc0 (d + 3) 197 96 [some (.ref 284), some (.int (0)), some (.int (1))] [] (em_SH, I', J, em_RT lw) Q) (h2 : ¬ t < 400 → FO b L sd C0 lw I0 J Q (2, t)) : em_wp em_sc0 (d + 3) 197 96 [some (.ref 284), some (.int (0)), some (.int (1))] [] (em_SH, I, J, em_RT lw) Q := by
  obtain ⟨hc, ha, hb⟩ := hm
  have hxI := hx.ef hc.1
  have ht := ha.1
  have hl2 := hl
  rw [List.length_append, List.length_cons] at hl2 hb
  iterate 2 refine em_next rfl ?_
  refine em_inv_call rfl (me_is_y (k := 7) hxI ha hk ?_)
  iterate 1 refine em_next rfl ?_
  refine em_z_eq (fun z => absurd z (by decide)) (fun _ => ?_)
  iterate 4 refine em_next rfl ?_
  refine em_c_leE hc.2.1.1 (y' := nI 0) rfl (fun q => absurd ((nI_leI (by omega) (by decide)).mp q) (by omega)) (fun _ => ?_)
  iterate 2 refine em_next rfl ?_
  refine em_inv_call rfl (me_out (st := false) hsd (fun w hw => ?_) (Or.inr ⟨6, W, rfl, Or.inl rfl⟩) (by omega) hc (fun I1 a1 a2 => ?_))
  · rcases hp w hw with g | g | g | g
    · exact Or.inr (Or.inr ⟨rfl, Or.inl g⟩)
    · exact Or.inr (Or.inr ⟨rfl, Or.inr g⟩)
    · exact Or.inl g
    · exact Or.inr (Or.inl g)
  have lw1 := a1.2.1.2.1
  rw [List.length_cons] at lw1
  iterate 6 refine em_next rfl ?_
  obtain ⟨m1, m2⟩ := a1.pop (x := I1 284 43 - 1) (by rw [lw1, nI_p1])
  show em_wp em_sc0 (d + 3) 197 _ _ _ (em_SH, em_u I1 284 43 (I1 284 43 - 1), J, em_RT lw) Q
  generalize em_u I1 284 43 (I1 284 43 - 1) = K at m1 m2 ⊢
  iterate 6 refine em_next rfl ?_
  obtain ⟨m3, m4⟩ := m1.op (m := n) (x := K 284 12 - 1) (by rw [m1.2.1.1, nI_p1])
  show em_wp em_sc0 (d + 3) 197 _ _ _ (em_SH, em_u K 284 12 (K 284 12 - 1), J, em_RT lw) Q
  generalize em_u K 284 12 (K 284 12 - 1) = K2 at m3 m4 ⊢
  have g2 := (a2.tr m2).tr m4
  iterate 1 refine em_next rfl ?_
  refine em_inv_call rfl (me_goesOn (hxI.eg g2) (ha.eg g2) (by omega) (fun y I2 b1 b2 => ?_) (fun y I2 b1 b2 => ?_))
  · iterate 1 refine em_next rfl ?_
    exact h1 y I2 ⟨m3.g b1, b2, by rw [List.length_append, fl_len]; omega⟩
  · iterate 1 refine em_next rfl ?_
    exact me_B_b hsd b2 (by omega) (m3.g b1) (h2 y)
/-- a bracket is opened, or a unit stands -/
theorem me_openA {t n : Nat} {W : List Nat} {E : ek_cd} (hsd : sd < 2) (hx : mx b L nT I0 J) (hk : tk_K b L t = 6) (hn : n ≤ 6) (hl : W.length ≤ 60) (hm : ms b L sd C0 I0 I t n W E) (h1 : n < 6 → t < 400 → ∀ I' : Nat → Nat → Int32, ms b L sd C0 I0 I' (t + 1) (n + 1) (6 :: W) E → em_wp em_sc0 (d + 3) 197 23 [some (.ref 284), some (.int (0)), some (.int (1))] [] (em_SH, I', J, em_RT lw) Q) (h2 : n = 6 ∨ ¬ t < 400 → FO b L sd C0 lw I0 J Q (2, t)) : em_wp em_sc0 (d + 3) 197 23 [some (.ref 284), some (.int (0)), some (.int (1))] [] (em_SH, I, J, em_RT lw) Q := by
  obtain ⟨hc, ha, hb⟩ := hm
  have hxI := hx.ef hc.1
  have ht := ha.1
  have push : ∀ (K : Nat → Nat → Int32) (m : Nat), mc sd C0 I0 K m W E → em_wp em_sc0 (d + 3) 197 23 [some (.ref 284), some (.int (0)), some (.int (1))] [] (em_SH, em_u (em_u K 311 W.length (nI 6)) 284 43 (em_u K 311 W.length (nI 6) 284 43 + 1), J, em_RT lw) Q → em_wp em_sc0 (d + 3) 197 60 [some (.ref 284), some (.int (0)), some (.int (1))] [] (em_SH, K, J, em_RT lw) Q := fun K m k1 k2 => by
    iterate 5 refine em_next rfl ?_
    refine em_iasE (k := W.length) rfl rfl k1.2.1.2.1 (by omega) (by decide) ?_
    iterate 7 refine em_next rfl ?_
    exact k2
  have pq : ∀ (K : Nat → Nat → Int32) (m : Nat), mc sd C0 I0 K m W E → mc sd C0 I0 (em_u (em_u K 311 W.length (nI 6)) 284 43 (em_u K 311 W.length (nI 6) 284 43 + 1)) m (6 :: W) E ∧ eg K (em_u (em_u K 311 W.length (nI 6)) 284 43 (em_u K 311 W.length (nI 6) 284 43 + 1)) := fun K m k1 => k1.push (w := 6) (by rw [em_u_row (by decide), k1.2.1.2.1, nI_succ]) rfl (Or.inl rfl) (by omega)
  iterate 2 refine em_next rfl ?_
  refine em_inv_call rfl (me_is_y (k := 6) hxI ha hk ?_)
  iterate 1 refine em_next rfl ?_
  refine em_z_eq (fun z => absurd z (by decide)) (fun _ => ?_)
  iterate 4 refine em_next rfl ?_
  refine em_c_neE hc.2.1.1 (y' := nI 6) rfl (fun z => ?_) (fun z => ?_)
  · have z2 : n < 6 := by
      by_cases e : n = 6
      · exact absurd (by rw [e]) z
      · omega
    iterate 6 refine em_next rfl ?_
    obtain ⟨m3, m4⟩ := hc.op (m := n + 1) (x := I 284 12 + 1) (by rw [hc.2.1.1, nI_succ])
    show em_wp em_sc0 (d + 3) 197 _ _ _ (em_SH, em_u I 284 12 (I 284 12 + 1), J, em_RT lw) Q
    generalize em_u I 284 12 (I 284 12 + 1) = K at m3 m4 ⊢
    iterate 1 refine em_next rfl ?_
    refine em_inv_call rfl (me_goesOn (hxI.eg m4) (ha.eg m4) (by omega) (fun y I2 b1 b2 => ?_) (fun y I2 b1 b2 => ?_))
    · have k2 := m3.g b1
      obtain ⟨k3, k4⟩ := pq I2 _ k2
      exact push I2 _ k2 (h1 z2 y _ ⟨k3, b2.eg k4, by rw [List.length_cons]; omega⟩)
    · have k2 := m3.g b1
      obtain ⟨k3, k4⟩ := pq I2 _ k2
      exact push I2 _ k2 (me_A_b (b2.eg k4) (h2 (Or.inr y) _ k3.1 (b2.eg k4)))
  · have z2 := (nI_eq (by omega) (by decide)).mp z
    iterate 2 refine em_next rfl ?_
    refine em_inv_call rfl (me_fail (k := 2) hxI ha (by decide) (by decide) (fun I1 a1 a2 _ => ?_))
    have hc1 := hc.g a1
    iterate 6 refine em_next rfl ?_
    obtain ⟨m3, m4⟩ := hc1.op (m := n + 1) (x := I1 284 12 + 1) (by rw [hc1.2.1.1, nI_succ])
    show em_wp em_sc0 (d + 3) 197 _ _ _ (em_SH, em_u I1 284 12 (I1 284 12 + 1), J, em_RT lw) Q
    generalize em_u I1 284 12 (I1 284 12 + 1) = K at m3 m4 ⊢
    iterate 1 refine em_next rfl ?_
    refine em_inv_call rfl (me_goesOn_b (a2.eg m4) (fun I2 b1 b2 => ?_))
    have k2 := m3.g b1
    obtain ⟨k3, k4⟩ := pq I2 _ k2
    exact push I2 _ k2 (me_A_b (b2.eg k4) (h2 (Or.inl z2) _ k3.1 (b2.eg k4)))
theorem me_unitA {t n : Nat} {W : List Nat} {E : ek_cd} (hsd : sd < 2) (hx : mx b L nT I0 J) (hk : ¬ tk_K b L t = 6) (hm : ms b L sd C0 I0 I t n W E) (h1 : ∀ q, ((tk_K b L t = 2 ∧ q = (0, tk_V b L t)) ∨ (¬ tk_K b L t = 2 ∧ (32 ≤ tk_K b L t ∧ tk_K b L t ≤ 40) ∧ q = (1, tk_K b L t - 32))) → t < 400 → ∀ I' : Nat → Nat → Int32, ms b L sd C0 I0 I' (t + 1) n W (E ++ [q]) → em_wp em_sc0 (d + 3) 197 96 [some (.ref 284), some (.int (0)), some (.int (1))] [] (em_SH, I', J, em_RT lw) Q) (h2 : (tk_K b L t = 2 ∨ (32 ≤ tk_K b L t ∧ tk_K b L t ≤ 40)) → ¬ t < 400 → FO b L sd C0 lw I0 J Q (2, t)) (h3 : ¬ tk_K b L t = 2 → ¬ (32 ≤ tk_K b L t ∧ tk_K b L t ≤ 40) → FO b L sd C0 lw I0 J Q (1, t)) : em_wp em_sc0 (d + 3) 197 23 [some (.ref 284), some (.int (0)), some (.int (1))] [] (em_SH, I, J, em_RT lw) Q := by
  have hxI := hx.ef hm.1.1
  have dn : ∀ (K : Nat → Nat → Int32) (e : tl_E), ef sd C0 I0 K → mfl b L K e → FO b L sd C0 lw I0 J Q e → em_wp em_sc0 (d + 3) 197 88 [some (.ref 284), some (.int (0)), some (.int (1))] [] (em_SH, K, J, em_RT lw) Q := fun K e k1 k2 k3 => by
    iterate 2 refine em_next rfl ?_
    refine em_next rfl ?_
    refine em_z_leE k2.1 (fun z => absurd z k2.gt) (fun _ => ?_)
    exact em_done rfl (k3 K k1 k2)
  iterate 2 refine em_next rfl ?_
  refine em_inv_call rfl (me_is_n (k := 6) hxI hm.2.1 hk (by decide) ?_)
  iterate 1 refine em_next rfl ?_
  refine em_z_eq (fun _ => ?_) (fun z => absurd rfl z)
  iterate 1 refine em_next rfl ?_
  refine em_inv_call rfl (me_unit hsd hx hm (fun q hq y I1 a1 => ?_) (fun z y I1 a1 a2 => ?_) (fun z y I1 a1 a2 => ?_))
  · iterate 2 refine em_next rfl ?_
    refine em_next rfl ?_
    refine em_z_leE a1.2.1.2.2.2 (fun _ => ?_) (fun z => absurd (by decide) z)
    exact h1 q hq y I1 a1
  · exact dn I1 _ (a1.elim (fun g => g.1) id) a2 (h2 z y)
  · exact dn I1 _ a1 a2 (h3 z y)
end MEXP2
