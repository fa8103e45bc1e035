/-! the class: the rule of a bed, by cases -/
section CC
variable {d lw n r hh : Nat} {rg : Bool} {cold hab part : Nat → Int32} {f : Nat → List Int32 → Int32} {I I0 : Nat → Nat → Int32} {J : Nat → Nat → Int64} {M : em_M} {Q : Option Value → em_M → Prop} {v : List Int32}
theorem ce_cases_l (hP : cp_P I n rg cold f) {b : Nat} {t : Int32} {k m : Nat} (hk : k + m = 8) (h0 : ∀ a, a ≠ 29 → a ≠ 39 → I a = I0 a) (hv : I 39 3 = hab b ∧ I 39 4 = cold b ∧ I 39 5 = t ∧ I 39 6 = nI b ∧ I 39 7 = nI n ∧ I 39 8 = part b) {o1 o2 : Option Value}
    (h : ∀ I' : Nat → Nat → Int32, (∀ a, a ≠ 29 → a ≠ 39 → I' a = I0 a) → Q (some (.int (nI (em_cs (n, rg, cold, f, hab) part b t)))) (em_SH, I', J, em_RT lw)) :
    em_wp em_sc0 (d + 1) 47 13 [some (.ref 24), o1, o2, some (.int t), some (.int (nI (em_or k (fun w => decide (0 < f 0 (em_fc n cold hab part b t w)))))), some (.int (nI k))] [] (em_SH, I, J, em_RT lw) Q := by
  induction m generalizing k I with
  | zero =>
    have e : k = 8 := by omega
    subst e
    iterate 3 refine em_next rfl ?_
    refine em_c_ge (fun _ => ?_) (fun h1 => absurd (by decide) h1)
    iterate 1 refine em_next rfl ?_
    exact em_done rfl (h I h0)
  | succ m ih =>
    iterate 3 refine em_next rfl ?_
    refine em_c_ge (fun h1 => absurd h1 (nI_ge (b := 8) (by omega) (by decide))) (fun _ => ?_)
    iterate 6 refine em_next rfl ?_
    refine em_iask (x := nI k &&& 1) (k := 0) rfl rfl (by decide) rfl ?_
    iterate 8 refine em_next rfl ?_
    refine em_iask (x := (nI k >>> (1 &&& 31)) &&& 1) (k := 1) rfl rfl (by decide) rfl ?_
    iterate 8 refine em_next rfl ?_
    refine em_iask (x := (nI k >>> (2 &&& 31)) &&& 1) (k := 2) rfl rfl (by decide) rfl ?_
    iterate 5 refine em_next rfl ?_
    have hP1 : cp_P (em_u (em_u (em_u I 39 0 (nI k &&& 1)) 39 1 ((nI k >>> (1 &&& 31)) &&& 1)) 39 2 ((nI k >>> (2 &&& 31)) &&& 1)) n rg cold f := hP.keep (fun a ha => by
      have hq : a ≠ 39 := fun q => by rw [q] at ha; exact absurd ha (by decide)
      rw [em_u_row hq, em_u_row hq, em_u_row hq])
    refine em_inv_call rfl (hP1.2.2.1 _ J lw _ _ rfl rfl (fun I1 g => ?_))
    have ev : em_v9 (em_u (em_u (em_u I 39 0 (nI k &&& 1)) 39 1 ((nI k >>> (1 &&& 31)) &&& 1)) 39 2 ((nI k >>> (2 &&& 31)) &&& 1) 39) = em_fc n cold hab part b t k := by
      show [nI k &&& 1, (nI k >>> (1 &&& 31)) &&& 1, (nI k >>> (2 &&& 31)) &&& 1, I 39 3, I 39 4, I 39 5, I 39 6, I 39 7, I 39 8] = _
      rw [(em_w3 k (by omega)).1, (em_w3 k (by omega)).2.1, (em_w3 k (by omega)).2.2, hv.1, hv.2.1, hv.2.2.1, hv.2.2.2.1, hv.2.2.2.2.1, hv.2.2.2.2.2]
      rfl
    rw [ev]
    have i1 : ∀ a, a ≠ 29 → a ≠ 39 → I1 a = I a := fun a q1 q2 => by rw [g a q1, em_u_row q2, em_u_row q2, em_u_row q2]
    have nxt : ∀ w : Int32, nI (em_or k (fun w => decide (0 < f 0 (em_fc n cold hab part b t w)))) ||| w = nI (em_or (k + 1) (fun w => decide (0 < f 0 (em_fc n cold hab part b t w)))) → em_wp em_sc0 (d + 1) 47 13 [some (.ref 24), o1, o2, some (.int t), some (.int (nI (em_or k (fun w => decide (0 < f 0 (em_fc n cold hab part b t w)))) ||| w)), some (.int (nI k + 1))] [] (em_SH, I1, J, em_RT lw) Q := by
      intro w hw
      rw [hw, ← nI_succ]
      exact ih (hP1.keep (fun a ha => g a (fun q => by rw [q] at ha; exact absurd ha (by decide)))) (by omega) (fun a q1 q2 => (i1 a q1 q2).trans (h0 a q1 q2)) (by rw [g _ (by decide)]; exact hv)
    iterate 1 refine em_next rfl ?_
    refine em_z_le (fun q => ?_) (fun q => ?_)
    · iterate 5 refine em_next rfl ?_
      refine nxt 0 ?_
      show _ = nI (em_or k _ + (if decide (0 < f 0 (em_fc n cold hab part b t k)) then 2 ^ k else 0))
      rw [decide_eq_false (Int32.not_lt.mpr q), if_neg (by decide), Nat.add_zero]
      exact Int32.or_zero
    · iterate 8 refine em_next rfl ?_
      refine nxt _ ?_
      show _ = nI (em_or k _ + (if decide (0 < f 0 (em_fc n cold hab part b t k)) then 2 ^ k else 0))
      rw [decide_eq_true (Int32.not_le.mp q), if_pos rfl, ← em_join8 k (by omega) _ (em_or_lt _ _)]
      rfl
theorem ce_cases (hP : cp_P I n rg cold f) {b : Nat} {t : Int32} (hb : b < n) (hx : I 44 b = hab b) (hy : I 45 b = part b) (h : ∀ I' : Nat → Nat → Int32, (∀ a, a ≠ 29 → a ≠ 39 → I' a = I a) → Q (some (.int (nI (em_cs (n, rg, cold, f, hab) part b t)))) (em_SH, I', J, em_RT lw)) : em_call (d + 1) 47 [.ref 24, .ref 42, .int (nI b), .int t] (em_SH, I, J, em_RT lw) Q := by
  iterate 4 refine em_next rfl ?_
  refine em_inv_call rfl (ce_faceAt_now hP hb hx hy (fun I1 a0 _ a3 a4 a5 a6 a7 a8 => ?_))
  iterate 4 refine em_next rfl ?_
  exact ce_cases_l (k := 0) (m := 8) (I0 := I) (hP.keep (fun a ha => a0 a (fun q => by rw [q] at ha; exact absurd ha (by decide)))) (by omega) (fun a _ q => a0 a q) ⟨a3, a4, a5, a6, a7, a8⟩ h
end CC
