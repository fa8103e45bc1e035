/-! the reference's core: rows copied, laws asked, hours gone through -/
/-- what the reference's questions may change -/
def em_fM (I I' : Nat → Nat → Int32) : Prop := ∀ a j : Nat, a ∉ [312, 313, 315, 316, 317] → ¬ (a = 284 ∧ j ∈ [49, 50, 46]) → I' a j = I a j
theorem em_fM.rf {I : Nat → Nat → Int32} : em_fM I I := fun _ _ _ _ => rfl
theorem em_fM.tr {I I' I'' : Nat → Nat → Int32} (h : em_fM I I') (h' : em_fM I' I'') : em_fM I I'' := fun a j g1 g2 => (h' a j g1 g2).trans (h a j g1 g2)
def em_v9 (v : Nat → Int32) : List Int32 := (List.range 9).map v
def em_pl (k : Nat) (v : Nat → Int32) : Int32 := if k = 0 then v 0 else if k = 2 then 0 else 1
/-- a law of the reference answers as g does -/
def mo_sem (I : Nat → Nat → Int32) (lv k : Nat) (g : List Int32 → Int32) : Prop := ∀ (I' : Nat → Nat → Int32) (J : Nat → Nat → Int64) (lw d : Nat) (Q : Option Value → em_M → Prop), (∀ a ∈ [302, 303, 304, 305, 306, 307, 308, 309, 310], I' a = I a) → I' 284 18 = nI lv →
  (∀ I'' : Nat → Nat → Int32, (∀ a j : Nat, a ≠ 313 → ¬ (a = 284 ∧ j = 46) → I'' a j = I' a j) → Q (some (.int (g (em_v9 (I' 312))))) (em_SH, I'', J, em_RT lw)) → em_call (d + 1) 215 [.ref 284, .int (nI k), .int (em_pl k (I' 312))] (em_SH, I', J, em_RT lw) Q
/-- and is written down as it is -/
def mo_law (I : Nat → Nat → Int32) (lv k : Nat) (g : List Int32 → Int32) : Prop := mo_sem I lv k g ∧ ∃ l, (k < 4 → ml I lv k l) ∧ ek_wl l ∧ g = lsem k l
/-- the reference's text in force -/
def mo_P (I : Nat → Nat → Int32) (lv n : Nat) (rg : Bool) (cold : Nat → Int32) (f : Nat → List Int32 → Int32) : Prop :=
  (lv < 2 ∧ n ≤ 9 ∧ I 284 18 = nI lv ∧ I 293 lv = nI n ∧ I 299 lv = cond rg 1 0) ∧ (∀ b, b < n → I 296 (9 * lv + b) = cold b) ∧ ∀ k, k < 4 → mo_law I lv k (f k)
theorem mo_law.keep {I I' : Nat → Nat → Int32} {lv k : Nat} {g : List Int32 → Int32} (h : mo_law I lv k g) (he : ∀ a ∈ [302, 303, 304, 305, 306, 307, 308, 309, 310], I' a = I a) : mo_law I' lv k g := ⟨fun I2 J lw d Q h1 h2 h3 => h.1 I2 J lw d Q (fun a ha => (h1 a ha).trans (he a ha)) h2 h3, by
  obtain ⟨l, h1, h2, h3⟩ := h.2
  exact ⟨l, fun hk => (h1 hk).rows hk (fun a ha => he a (by revert a; decide)), h2, h3⟩⟩
theorem mo_P.keep {I I' : Nat → Nat → Int32} {lv n : Nat} {rg : Bool} {cold : Nat → Int32} {f : Nat → List Int32 → Int32} (h : mo_P I lv n rg cold f) (he : em_fM I I') : mo_P I' lv n rg cold f := by
  obtain ⟨⟨h1, h2, h3, h4, h5⟩, h6, h7⟩ := h
  refine ⟨⟨h1, h2, (he _ _ (by decide) (by decide)).trans h3, (he _ _ (by decide) (fun q => absurd q.1 (by decide))).trans h4, (he _ _ (by decide) (fun q => absurd q.1 (by decide))).trans h5⟩, fun b hb => (he _ _ (by decide) (fun q => absurd q.1 (by decide))).trans (h6 b hb), fun k hk => (h7 k hk).keep fun a ha => ?_⟩
  funext j
  have hd : ∀ a ∈ [302, 303, 304, 305, 306, 307, 308, 309, 310], a ∉ [312, 313, 315, 316, 317] ∧ a ≠ 284 := by decide
  exact he a j (hd a ha).1 (fun q => (hd a ha).2 q.1)
/-- the first k of a row out of another -/
def em_cpr (I : Nat → Nat → Int32) (s t k : Nat) : Nat → Nat → Int32 := fun a j => if a = t ∧ j < k then I s j else I a j
theorem em_cpr_0 (I : Nat → Nat → Int32) (s t : Nat) : em_cpr I s t 0 = I := by
  funext a j
  exact if_neg (fun q => absurd q.2 (Nat.not_lt_zero _))
theorem em_cpr_s {I : Nat → Nat → Int32} {s t k : Nat} {S : List (Nat × Nat)} {J : Nat → Nat → Int64} {R : Nat → Nat → Option Nat} : em_putI (S, em_cpr I s t k, J, R) t k (em_cpr I s t k s k) = (S, em_cpr I s t (k + 1), J, R) := by
  unfold em_putI
  dsimp only
  congr 2
  funext a j
  show (if a = t ∧ j = k then (if s = t ∧ k < k then I s k else I s k) else if a = t ∧ j < k then I s j else I a j) = if a = t ∧ j < k + 1 then I s j else I a j
  rw [ite_self]
  split
  · rename_i q
    rw [if_pos ⟨q.1, by omega⟩, q.2]
  · rename_i q
    split
    · rename_i q'
      rw [if_pos ⟨q'.1, by omega⟩]
    · rename_i q'
      rw [if_neg]
      intro g
      rcases Nat.lt_or_ge j k with h1 | h1
      · exact q' ⟨g.1, h1⟩
      · exact q ⟨g.1, by omega⟩
section MCORE
variable {d lw lv n : Nat} {rg : Bool} {cold : Nat → Int32} {f : Nat → List Int32 → Int32} {I : Nat → Nat → Int32} {J : Nat → Nat → Int64} {M : em_M} {Q : Option Value → em_M → Prop}
theorem me_many (hP : mo_P I lv n rg cold f) (h : Q (some (.int (nI n))) (em_SH, I, J, em_RT lw)) : em_call d 203 [.ref 284] (em_SH, I, J, em_RT lw) Q := by
  obtain ⟨⟨h1, h2, h3, h4, -⟩, -⟩ := hP
  iterate 4 refine em_next rfl ?_
  refine em_iald (i := I 284 18) rfl rfl (by rw [h3]; exact em_in_n h1 (by decide)) ?_
  refine em_done rfl ?_
  show Q (some (.int (I 293 (I 284 18).toNatClampNeg))) _
  rw [h3, nI_clamp (by omega), h4]
  exact h
theorem me_isBed (hP : mo_P I lv n rg cold f) {b : Int32} (h : Q (some (.int (em_bo (0 ≤ b ∧ b ≤ nI n - 1)))) (em_SH, I, J, em_RT lw)) : em_call (d + 1) 204 [.ref 284, .int b] (em_SH, I, J, em_RT lw) Q := by
  iterate 3 refine em_next rfl ?_
  refine em_inv_call rfl (me_many hP ?_)
  iterate 2 refine em_next rfl ?_
  refine em_inv_call rfl (me_in ?_)
  exact em_done (if_pos (Or.inr (Or.inl ⟨rfl, em_bo_01⟩))) h
theorem me_allBits (hP : mo_P I lv n rg cold f) (h : Q (some (.int (nI (2 ^ n - 1)))) (em_SH, I, J, em_RT lw)) : em_call (d + 1) 205 [.ref 284] (em_SH, I, J, em_RT lw) Q := by
  iterate 2 refine em_next rfl ?_
  refine em_inv_call rfl (me_many hP ?_)
  iterate 3 refine em_next rfl ?_
  refine em_done rfl ?_
  rw [← em_all1 n (by have := hP.1.2.1; omega)] at h
  exact h
theorem me_isRow (hP : mo_P I lv n rg cold f) {b : Int32} (h : Q (some (.int (em_bo (0 ≤ b ∧ b ≤ nI (2 ^ n - 1))))) (em_SH, I, J, em_RT lw)) : em_call (d + 2) 206 [.ref 284, .int b] (em_SH, I, J, em_RT lw) Q := by
  iterate 3 refine em_next rfl ?_
  refine em_inv_call rfl (me_allBits hP ?_)
  refine em_inv_call rfl (me_in ?_)
  exact em_done (if_pos (Or.inr (Or.inl ⟨rfl, em_bo_01⟩))) h
theorem me_keepsRow_l {k m : Nat} (hk : k + m = 48) (h : Q none (em_SH, em_cpr I 315 314 48, J, em_RT lw)) : em_wp em_sc0 d 208 2 [some (.ref 284), some (.int (nI k))] [] (em_SH, em_cpr I 315 314 k, J, em_RT lw) Q := by
  induction m generalizing k with
  | zero =>
    have e : k = 48 := by omega
    subst e
    iterate 3 refine em_next rfl ?_
    refine em_c_ge (fun _ => ?_) (fun h1 => absurd (by decide) h1)
    exact em_done rfl h
  | succ m ih =>
    iterate 3 refine em_next rfl ?_
    refine em_c_ge (fun h1 => absurd h1 (nI_ge (b := 48) (by omega) (by decide))) (fun _ => ?_)
    iterate 6 refine em_next rfl ?_
    refine em_iald rfl rfl (em_in_n (by omega) (by decide)) ?_
    refine em_iast rfl rfl (em_in_n (by omega) (by decide)) ?_
    rw [nI_clamp (by omega)]
    show em_wp _ _ _ _ _ _ (em_putI (em_SH, em_cpr I 315 314 k, J, em_RT lw) 314 k (em_cpr I 315 314 k 315 k)) _
    rw [em_cpr_s]
    iterate 2 refine em_next rfl ?_
    have g := ih (k := k + 1) (by omega)
    rw [nI_succ] at g
    exact g
theorem me_keepsRow (h : Q none (em_SH, em_cpr I 315 314 48, J, em_RT lw)) : em_call d 208 [.ref 284] (em_SH, I, J, em_RT lw) Q := by
  iterate 2 refine em_next rfl ?_
  have g := me_keepsRow_l (k := 0) (m := 48) (d := d) (I := I) (by omega) h
  rw [em_cpr_0] at g
  exact g
end MCORE
