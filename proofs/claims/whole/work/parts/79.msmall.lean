/-! the reference's small steps of reading -/
/-- tokens as the reference has them, and where it stands -/
def mx (b : Nat → Nat) (L n : Nat) (I : Nat → Nat → Int32) (J : Nat → Nat → Int64) : Prop := mt_T b L I J n ∧ mt_n b L n
def mat (b : Nat → Nat) (L t : Nat) (I : Nat → Nat → Int32) : Prop := t ≤ 400 ∧ tk_gd (tk_K b L) t ∧ I 284 11 = nI t ∧ I 284 13 = nI 0
def mfl (b : Nat → Nat) (L : Nat) (I : Nat → Nat → Int32) (e : tl_E) : Prop := I 284 13 = nI e.1 ∧ I 284 14 = nI (tk_P b L e.2) ∧ 1 ≤ e.1 ∧ e.1 < 9
/-- what the small steps change -/
def mg (I I' : Nat → Nat → Int32) : Prop := (∀ a, a ≠ 284 → I' a = I a) ∧ ∀ j, j ∉ [11, 13, 14] → I' 284 j = I 284 j
section MSMALL
variable {d lw : Nat} {b : Nat → Nat} {L n : Nat} {I I0 I' I'' : Nat → Nat → Int32} {J J0 J' J'' : Nat → Nat → Int64} {M : em_M} {Q : Option Value → em_M → Prop}
theorem mg.rf : mg I I := ⟨fun _ _ => rfl, fun _ _ => rfl⟩
theorem mg.tr (h : mg I I') (h' : mg I' I'') : mg I I'' := ⟨fun a z => (h'.1 a z).trans (h.1 a z), fun j hj => (h'.2 j hj).trans (h.2 j hj)⟩
theorem mg.u {j : Nat} {x : Int32} (hj : j ∈ [11, 13, 14]) : mg I (em_u I 284 j x) := ⟨fun a ha => em_u_row ha, fun i hi => em_u_ne (fun e => hi (by rw [e]; exact hj))⟩
theorem mx.lt {t : Nat} (h : mx b L n I J) (ht : t ≤ 400) (hg : tk_gd (tk_K b L) t) : t < n := by
  rcases h.2 with e | ⟨h1, h2, h3⟩
  · omega
  · by_cases e : t < n
    · exact e
    · have := hg (n - 1) (by omega)
      exact absurd h3 this.1
theorem mx.keep (h : mx b L n I J) (h1 : I' 287 = I 287) (h2 : I' 288 = I 288) (h3 : I' 289 = I 289) (h4 : J' 290 = J 290) : mx b L n I' J' := by
  refine ⟨fun t ht => ?_, h.2⟩
  rw [h1, h2, h3, h4]
  exact h.1 t ht
theorem mx.g (h : mx b L n I J) (hf : mg I I') : mx b L n I' J := h.keep (hf.1 _ (by decide)) (hf.1 _ (by decide)) (hf.1 _ (by decide)) rfl
theorem mx.tok {t : Nat} (h : mx b L n I J) (hm : mat b L t I) : I 287 t = nI (tk_K b L t) ∧ I 288 t = nI (tk_P b L t) ∧ (tk_K b L t = 2 → I 289 t = nI (tk_V b L t)) ∧ (tk_K b L t = 1 → J 290 t = lN (tk_tr 8 (tk_N b L t))) := h.1 t (h.lt hm.1 hm.2.1)
theorem mat.keep {t : Nat} (h : mat b L t I) (h1 : I' 284 11 = I 284 11) (h2 : I' 284 13 = I 284 13) : mat b L t I' := ⟨h.1, h.2.1, h1.trans h.2.2.1, h2.trans h.2.2.2⟩
theorem mfl.keep {e : tl_E} (h : mfl b L I e) (h1 : I' 284 13 = I 284 13) (h2 : I' 284 14 = I 284 14) : mfl b L I' e := ⟨h1.trans h.1, h2.trans h.2.1, h.2.2⟩
theorem mfl.ne {e : tl_E} (h : mfl b L I e) : ¬ nI e.1 = 0 := nI_ne0 h.2.2.1 (by have := h.2.2.2; omega)
theorem mfl.gt {e : tl_E} (h : mfl b L I e) : ¬ nI e.1 ≤ 0 := nI_nle h.2.2.1 (by have := h.2.2.2; omega)
theorem me_is_b {k : Nat} {e : tl_E} (hf : mfl b L I e) (h : Q (some (.int 0)) (em_SH, I, J, em_RT lw)) : em_call d 179 [.ref 284, .int (nI k)] (em_SH, I, J, em_RT lw) Q := by
  iterate 2 refine em_next rfl ?_
  refine em_next rfl ?_
  refine em_z_neE hf.1 (fun _ => ?_) (fun z => absurd z hf.ne)
  iterate 1 refine em_next rfl ?_
  exact em_done rfl h
theorem me_is (hx : mx b L n I J) {t k : Nat} (hm : mat b L t I) (hk : k < 41) (h1 : tk_K b L t = k → Q (some (.int 1)) (em_SH, I, J, em_RT lw)) (h2 : ¬ tk_K b L t = k → Q (some (.int 0)) (em_SH, I, J, em_RT lw)) : em_call d 179 [.ref 284, .int (nI k)] (em_SH, I, J, em_RT lw) Q := by
  have hT := hx.tok hm
  have hr := kr b L t
  iterate 2 refine em_next rfl ?_
  refine em_next rfl ?_
  refine em_z_neE hm.2.2.2 (fun z => absurd rfl z) (fun _ => ?_)
  iterate 4 refine em_next rfl ?_
  refine em_ialE (k := t) rfl rfl hm.2.2.1 (by have := hm.1; omega) (by decide) ?_
  iterate 2 refine em_next rfl ?_
  refine em_c_neE hT.1 (y' := nI k) rfl (fun z => ?_) (fun z => ?_)
  · iterate 1 refine em_next rfl ?_
    exact em_done rfl (h2 (fun e => z (by rw [e])))
  · iterate 2 refine em_next rfl ?_
    exact em_done rfl (h1 ((nI_eq (by omega) (by omega)).mp z))
theorem me_is_y (hx : mx b L n I J) {t k : Nat} (hm : mat b L t I) (hk : tk_K b L t = k) (h1 : Q (some (.int 1)) (em_SH, I, J, em_RT lw)) : em_call d 179 [.ref 284, .int (nI k)] (em_SH, I, J, em_RT lw) Q := me_is hx hm (by rw [← hk]; exact kr b L t) (fun _ => h1) (fun z => absurd hk z)
theorem me_is_n (hx : mx b L n I J) {t k : Nat} (hm : mat b L t I) (hk : ¬ tk_K b L t = k) (hk2 : k < 41) (h1 : Q (some (.int 0)) (em_SH, I, J, em_RT lw)) : em_call d 179 [.ref 284, .int (nI k)] (em_SH, I, J, em_RT lw) Q := me_is hx hm hk2 (fun z => absurd z hk) (fun _ => h1)
theorem me_fail_b {k : Int32} {e : tl_E} (hf : mfl b L I e) (h : Q none (em_SH, I, J, em_RT lw)) : em_call d 180 [.ref 284, .int k] (em_SH, I, J, em_RT lw) Q := by
  iterate 2 refine em_next rfl ?_
  refine em_next rfl ?_
  refine em_z_leE hf.1 (fun z => absurd z hf.gt) (fun _ => ?_)
  exact em_done rfl h
theorem me_fail (hx : mx b L n I J) {t k : Nat} (hm : mat b L t I) (hk : 1 ≤ k) (hk2 : k < 9) (h : ∀ I' : Nat → Nat → Int32, mg I I' → mfl b L I' (k, t) → I' 284 11 = I 284 11 → Q none (em_SH, I', J, em_RT lw)) : em_call d 180 [.ref 284, .int (nI k)] (em_SH, I, J, em_RT lw) Q := by
  have hT := hx.tok hm
  iterate 2 refine em_next rfl ?_
  refine em_next rfl ?_
  refine em_z_leE hm.2.2.2 (fun _ => ?_) (fun z => absurd (by decide) z)
  iterate 3 refine em_next rfl ?_
  show em_wp em_sc0 d 180 _ _ _ (em_SH, em_u I 284 13 (nI k), J, em_RT lw) Q
  iterate 5 refine em_next rfl ?_
  refine em_ialE (k := t) rfl rfl (by show em_u I 284 13 (nI k) 284 11 = nI t; rw [em_u_ne (by decide)]; exact hm.2.2.1) (by have := hm.1; omega) (by decide) ?_
  refine em_tp (y := nI (tk_P b L t)) (by rw [em_u_row (by decide)]; exact hT.2.1) ?_
  iterate 1 refine em_next rfl ?_
  refine em_done rfl ?_
  show Q none (em_SH, em_u (em_u I 284 13 (nI k)) 284 14 (nI (tk_P b L t)), J, em_RT lw)
  exact h _ ((mg.u (by decide)).tr (mg.u (by decide))) ⟨by rw [em_u_ne (by decide), em_u_self], em_u_self, hk, hk2⟩ (by rw [em_u_ne (by decide), em_u_ne (by decide)])
theorem me_goesOn_b {e : tl_E} (hf : mfl b L I e) (h : ∀ I' : Nat → Nat → Int32, mg I I' → mfl b L I' e → Q none (em_SH, I', J, em_RT lw)) : em_call (d + 1) 182 [.ref 284] (em_SH, I, J, em_RT lw) Q := by
  iterate 4 refine em_next rfl ?_
  refine em_c_ne (fun _ => ?_) (fun _ => ?_)
  · iterate 6 refine em_next rfl ?_
    refine em_done rfl ?_
    show Q none (em_SH, em_u I 284 11 (I 284 11 + 1), J, em_RT lw)
    exact h _ (mg.u (by decide)) (hf.keep (em_u_ne (by decide)) (em_u_ne (by decide)))
  · iterate 2 refine em_next rfl ?_
    refine em_inv_call rfl (me_fail_b hf ?_)
    iterate 1 refine em_next rfl ?_
    exact em_done rfl (h I mg.rf hf)
theorem me_goesOn (hx : mx b L n I J) {t : Nat} (hm : mat b L t I) (hg : ¬ tk_K b L t = 0 ∧ ¬ tk_K b L t = 3) (h1 : t < 400 → ∀ I' : Nat → Nat → Int32, mg I I' → mat b L (t + 1) I' → Q none (em_SH, I', J, em_RT lw)) (h2 : ¬ t < 400 → ∀ I' : Nat → Nat → Int32, mg I I' → mfl b L I' (2, t) → Q none (em_SH, I', J, em_RT lw)) : em_call (d + 1) 182 [.ref 284] (em_SH, I, J, em_RT lw) Q := by
  have ht := hm.1
  iterate 4 refine em_next rfl ?_
  refine em_c_neE hm.2.2.1 (y' := nI 400) rfl (fun z => ?_) (fun z => ?_)
  · have z2 : t < 400 := by
      by_cases e : t = 400
      · exact absurd (by rw [e]) z
      · omega
    iterate 6 refine em_next rfl ?_
    refine em_done rfl ?_
    show Q none (em_SH, em_u I 284 11 (I 284 11 + 1), J, em_RT lw)
    exact h1 z2 _ (mg.u (by decide)) ⟨by omega, hm.2.1.s hg.1 hg.2, by rw [em_u_self, hm.2.2.1, nI_succ], by rw [em_u_ne (by decide)]; exact hm.2.2.2⟩
  · have z2 := (nI_eq (by omega) (by decide)).mp z
    iterate 2 refine em_next rfl ?_
    refine em_inv_call rfl (me_fail (k := 2) hx hm (by decide) (by decide) (fun I1 a1 a2 _ => ?_))
    iterate 1 refine em_next rfl ?_
    exact em_done rfl (h2 (by omega) I1 a1 a2)
theorem me_must_b {k : Nat} {e : tl_E} (hf : mfl b L I e) (h : Q none (em_SH, I, J, em_RT lw)) : em_call (d + 2) 183 [.ref 284, .int (nI k)] (em_SH, I, J, em_RT lw) Q := by
  iterate 2 refine em_next rfl ?_
  refine em_inv_call rfl (me_is_b hf ?_)
  iterate 1 refine em_next rfl ?_
  refine em_z_eq (fun _ => ?_) (fun z => absurd rfl z)
  iterate 2 refine em_next rfl ?_
  refine em_inv_call rfl (me_fail_b hf ?_)
  exact em_done rfl h
theorem me_must (hx : mx b L n I J) {t k : Nat} (hm : mat b L t I) (hk : k < 41) (hk0 : ¬ k = 0) (hk3 : ¬ k = 3) (h1 : tk_K b L t = k → t < 400 → tl_tk (tk_K b L) k t none = .inr (t + 1, none) → ∀ I' : Nat → Nat → Int32, mg I I' → mat b L (t + 1) I' → Q none (em_SH, I', J, em_RT lw)) (h2 : ∀ e, (∀ la, tl_tk (tk_K b L) k t la = .inl e) → ∀ I' : Nat → Nat → Int32, mg I I' → mfl b L I' e → Q none (em_SH, I', J, em_RT lw)) : em_call (d + 2) 183 [.ref 284, .int (nI k)] (em_SH, I, J, em_RT lw) Q := by
  iterate 2 refine em_next rfl ?_
  refine em_inv_call rfl (me_is hx hm hk (fun z => ?_) (fun z => ?_))
  · iterate 1 refine em_next rfl ?_
    refine em_z_eq (fun z => absurd z (by decide)) (fun _ => ?_)
    iterate 1 refine em_next rfl ?_
    refine em_inv_call rfl (me_goesOn hx hm (by omega) (fun y I1 a1 a2 => ?_) (fun y I1 a1 a2 => ?_))
    · iterate 1 refine em_next rfl ?_
      refine em_done rfl (h1 z y ?_ I1 a1 a2)
      unfold tl_tk tl_acc
      rw [if_pos z, if_pos y]
    · iterate 1 refine em_next rfl ?_
      refine em_done rfl (h2 _ (fun la => ?_) I1 a1 a2)
      unfold tl_tk tl_acc
      rw [if_pos z, if_neg y]
  · iterate 1 refine em_next rfl ?_
    refine em_z_eq (fun _ => ?_) (fun z => absurd rfl z)
    iterate 2 refine em_next rfl ?_
    refine em_inv_call rfl (me_fail (k := 1) hx hm (by decide) (by decide) (fun I1 a1 a2 _ => ?_))
    refine em_done rfl (h2 _ (fun la => ?_) I1 a1 a2)
    unfold tl_tk
    rw [if_neg z]
end MSMALL
