/-! the class takes sleepers -/
theorem tk_en_lt {b : Nat → Nat} {i n : Nat} (h : ∀ k, k < n → tk_l (b (i + k)) = true) : tk_en 32 b i n < 32 ^ n := by
  induction n with
  | zero => exact Nat.one_pos
  | succ n ih =>
    have g := ih (fun k hk => h k (by omega))
    have hd : 97 ≤ b (i + n) ∧ b (i + n) ≤ 122 := of_decide_eq_true (h n (by omega))
    rw [tk_en, Nat.pow_succ]
    omega
theorem tk_N_lt {b : Nat → Nat} {L t : Nat} (h : tk_K b L t = 1) : tk_N b L t < 2 ^ 40 := by
  unfold tk_N
  generalize hp : tk_P b L t = p
  have hk : tk_Kp b L p = 1 := by rw [← hp]; exact h
  unfold tk_Kp at hk
  split at hk
  · exact absurd hk (by decide)
  · split at hk
    · split at hk
      · exact absurd hk (by decide)
      · have g := tk_en_lt (b := b) (i := p) (n := tk_le b L p - p) (fun k hk => tk_e_all (q := fun j => tk_l (b j)) (L := L) (f := L - p) (i := p) (by omega) (by unfold tk_le tk_end at hk; omega))
        exact Nat.lt_of_lt_of_le g (Nat.le_trans (Nat.pow_le_pow_right (by decide) (show tk_le b L p - p ≤ 8 by omega)) (by decide))
    · split at hk
      · split at hk <;> exact absurd hk (by decide)
      · exact absurd hk (by
          unfold tk_sg
          repeat' split
          all_goals decide)
theorem tl_note_i {k p : Nat} {la : tl_F} : tl_note k p (tl_note k p la) = tl_note k p la := by
  cases la <;> rfl
def tl_on (b : Nat → Nat) (L lw k : Nat) (I : Nat → Nat → Int32) (J : Nat → Nat → Int64) (x : Int64) (Q : Option Value → em_M → Prop) (r : tl_R) : Prop := match r with
  | .inl e => ∀ (I' : Nat → Nat → Int32) (J' : Nat → Nat → Int64), wf I I' → (∀ a, a ≠ 41 → J' a = J a) → flt b L I' e → Q (some (.int 0)) (em_SH, I', J', em_RT lw)
  | .inr w => ∀ I' : Nat → Nat → Int32, wf I I' → cat b L w.1 I' → lat I' w.2 → Q (some (.int 1)) (em_SH, I', em_uj J 41 k x, em_RT lw)
section TELL4
variable {d lw : Nat} {b : Nat → Nat} {L n : Nat} {I I0 I' I'' : Nat → Nat → Int32} {J J0 J' J'' : Nat → Nat → Int64} {M : em_M} {Q : Option Value → em_M → Prop}
theorem tl_name_l {t : Nat} {s : tl_S} (hx : cx b L n I J) (hc : cat b L t I) (hS : cS b L s I J) (hn : s.n < 9) (hnt : ∀ j, j < s.n → tk_K b L (s.nt j) = 1) (hk : tk_K b L t = 1) {i m : Nat} (hi : i + m = s.n) (hl : lat I (if tl_has (tk_N b L) s.nt (tk_N b L t) i = true then tl_note 3 (tk_P b L t) s.la else s.la)) (h : tl_on b L lw s.n I J (lN (tk_N b L t)) Q (tl_acc t (if tl_has (tk_N b L) s.nt (tk_N b L t) s.n = true then tl_note 3 (tk_P b L t) s.la else s.la))) : em_wp em_sc0 (d + 1) 72 16 [some (.ref 40), some (.int (nI i))] [] (em_SH, I, J, em_RT lw) Q := by
  have hlt := hx.lt hc.1 hc.2.1
  have nn : n ≤ 401 := by
    rcases hx.2 with e | ⟨_, e, _⟩ <;> omega
  have hT := hx.1 t hlt
  have hN := tk_N_lt hk
  have hv : J 6 t = lN (tk_N b L t) := hT.2.2.2 hk
  induction m generalizing i I with
  | zero =>
    have e : i = s.n := by omega
    subst e
    iterate 5 refine em_next rfl ?_
    refine em_c_geE rfl hS.1.1 (fun _ => ?_) (fun z => absurd ((nI_leI (by omega) (by omega)).mpr (Nat.le_refl _)) z)
    iterate 5 refine em_next rfl ?_
    refine em_c_geE hS.1.1 (y' := nI 9) rfl (fun z => absurd ((nI_leI (by decide) (by omega)).mp z) (by omega)) (fun _ => ?_)
    iterate 10 refine em_next rfl ?_
    refine em_lalE (k := t) rfl rfl hc.2.2.1 (by omega) (by decide) ?_
    refine em_lasE (k := s.n) rfl rfl hS.1.1 (by omega) (by decide) ?_
    iterate 1 refine em_next rfl ?_
    refine em_inv_call rfl (tl_accept (hx.keep rfl rfl (em_uj_row (by decide))) hc hl (by omega) ?_)
    cases hr : tl_acc t (if tl_has (tk_N b L) s.nt (tk_N b L t) s.n = true then tl_note 3 (tk_P b L t) s.la else s.la) with
    | inl e =>
      rw [hr] at h
      intro I1 a1 a2
      exact em_done rfl (h I1 _ a1 (fun a ha => em_uj_row ha) a2)
    | inr w =>
      rw [hr] at h
      intro I1 a1 a2 a3
      have g := h I1 a1 a2 a3
      rw [← hv] at g
      exact em_done rfl g
  | succ m ih =>
    have hi2 : i < s.n := by omega
    iterate 5 refine em_next rfl ?_
    refine em_c_geE rfl hS.1.1 (fun z => absurd ((nI_leI (by omega) (by omega)).mp z) (by omega)) (fun _ => ?_)
    iterate 3 refine em_next rfl ?_
    refine em_c_geE rfl (y' := nI 9) rfl (fun z => absurd ((nI_leI (by decide) (by omega)).mp z) (by omega)) (fun _ => ?_)
    iterate 3 refine em_next rfl ?_
    refine em_lalE (k := i) rfl rfl rfl (by omega) (by decide) ?_
    iterate 5 refine em_next rfl ?_
    refine em_lalE (k := t) rfl rfl hc.2.2.1 (by omega) (by decide) ?_
    have hv2 : J 41 i = lN (tk_N b L (s.nt i)) := hS.2.2.2.1 i hi2
    have hN2 := tk_N_lt (hnt i hi2)
    rw [hv, hv2]
    iterate 2 refine em_next rfl ?_
    refine em_z_ne (fun z => ?_) (fun z => ?_)
    · have z2 : ¬ tk_N b L (s.nt i) = tk_N b L t := fun e => z ((lg_cmp_eq _ _).mpr (by rw [e]))
      iterate 2 refine em_next rfl ?_
      have g := ih (i := i + 1) (I := I) hx hc hS (by omega) (by rw [tl_has, decide_eq_false z2, Bool.or_false]; exact hl) h hT
      rw [nI_succ] at g
      exact g
    · have z2 := lN_inj (by omega) (by omega) ((lg_cmp_eq _ _).mp z)
      iterate 7 refine em_next rfl ?_
      refine em_ialE (k := t) rfl rfl hc.2.2.1 (by omega) (by decide) ?_
      refine em_tp hT.2.1 ?_
      refine em_inv_call rfl (tl_later (k := 3) hl (by decide) (fun I1 a1 a2 a3 => ?_))
      have hc1 : cat b L t I1 := ⟨hc.1, hc.2.1, (a2 _ (by decide) (by decide)).trans hc.2.2.1, (a2 _ (by decide) (by decide)).trans hc.2.2.2⟩
      have hl1 : lat I1 (if tl_has (tk_N b L) s.nt (tk_N b L t) (i + 1) = true then tl_note 3 (tk_P b L t) s.la else s.la) := by
        rw [tl_has, decide_eq_true z2, Bool.or_true, if_pos rfl]
        by_cases q : tl_has (tk_N b L) s.nt (tk_N b L t) i = true
        · rw [if_pos q, tl_note_i] at a3; exact a3
        · rw [if_neg q] at a3; exact a3
      have g := ih (i := i + 1) (I := I1) (hx.w a1) hc1 (hS.w a1) (by omega) hl1 (by
        revert h
        cases tl_acc t (if tl_has (tk_N b L) s.nt (tk_N b L t) s.n = true then tl_note 3 (tk_P b L t) s.la else s.la) with
        | inl e => exact fun h I' J' y1 y2 y3 => h I' J' (a1.tr y1) y2 y3
        | inr w => exact fun h I' y1 y2 y3 => h I' (a1.tr y1) y2 y3) ((hx.w a1).1 t hlt)
      rw [nI_succ] at g
      iterate 2 refine em_next rfl ?_
      exact g
theorem tl_takeName {t : Nat} {s : tl_S} (hx : cx b L n I J) (hc : cat b L t I) (hS : cS b L s I J) (hn : s.n < 9) (hnt : ∀ j, j < s.n → tk_K b L (s.nt j) = 1) (hl : lat I s.la) (h : tl_on b L lw s.n I J (lN (tk_N b L t)) Q (tl_name (tk_K b L) (tk_N b L) (tk_P b L) s.nt s.n t s.la)) : em_call (d + 1) 72 [.ref 40] (em_SH, I, J, em_RT lw) Q := by
  unfold tl_name at h
  have hck := ck_is (tk_K b L t) (kr b L t)
  iterate 4 refine em_next rfl ?_
  refine em_c_eqE hc.2.2.2 (y' := nI 1) rfl (fun z => ?_) (fun z => ?_)
  · have z2 := hck.2.2.2.2.2.2.2.2.2.2.2.2.2.mp ((nI_eq (by omega) (by decide)).mp z)
    rw [if_pos z2] at h
    iterate 2 refine em_next rfl ?_
    exact tl_name_l hx hc hS hn hnt z2 (i := 0) (m := s.n) (by omega) hl h
  · rw [if_neg (fun e => z (by rw [hck.2.2.2.2.2.2.2.2.2.2.2.2.2.mpr e]))] at h
    iterate 2 refine em_next rfl ?_
    refine em_inv_call rfl (tl_refuse (k := 1) hx hc (fun I1 a1 a2 => ?_))
    exact em_done rfl (h I1 J a1 (fun _ _ => rfl) a2)
end TELL4
