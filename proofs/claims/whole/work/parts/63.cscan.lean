/-! the class finds its tokens -/
def ck (k : Nat) : Nat := if k = 0 then 3 else if k = 1 then 1 else if k = 2 then 2 else if k = 3 then 0 else if k = 4 then 59 else if k = 5 then 61 else if k = 6 then 40 else if k = 7 then 41 else if k = 8 then 43 else if k = 9 then 45 else if k = 10 then 42 else if k = 15 then 47 else if k = 13 then 60 else 236 + k
theorem ck_sg : ∀ c, c < 256 → (tk_sg c = 3 → ck (tk_sg c) = 0) ∧ (¬ tk_sg c = 3 → ck (tk_sg c) = c) := by decide +kernel
theorem i2c_ok : ∀ c, c < 256 → ((nI c).toUInt32 % 65536).toInt32 = nI c := by decide +kernel
def sb (k : Nat) : Nat := ([59, 61, 43, 45, 42, 47, 60, 40, 41] : List Nat).getD k 0
theorem i2b_ok : ∀ c, c < 256 → ∀ k, k < 9 → ((nI (sb k) = (nI c).toInt8.toInt32) ↔ c = sb k) := by decide +kernel
theorem sb_ok : ∀ k, k < 9 → (em_byt.getD 1 []).getD k 0 = nI (sb k) := by decide +kernel
theorem sb_sg : ∀ c, c < 256 → (tk_sg c = 3 ↔ ∀ k, k < 9 → ¬ c = sb k) := by decide +kernel
/-- the first n tokens as the class has them -/
def ct_T (b : Nat → Nat) (L : Nat) (I : Nat → Nat → Int32) (J : Nat → Nat → Int64) (n : Nat) : Prop := ∀ t, t < n → I 4 t = nI (ck (tk_K b L t)) ∧ I 5 t = nI (tk_P b L t) ∧ (tk_K b L t = 2 → J 6 t = lN (tk_V b L t)) ∧ (tk_K b L t = 1 → J 6 t = lN (tk_N b L t))
def ck_J (J : Nat → Nat → Int64) : Prop := ∀ k, k < 21 → J 7 k = lN (tk_kw.getD k 0)
def ct_X (b : Nat → Nat) (L : Nat) (I : Nat → Nat → Int32) : Prop := L ≤ 2000 ∧ I 2 5 = nI L ∧ ∀ j, j < L → I 3 j &&& 255 = nI (b j) ∧ b j < 256
def ct_f (I I' : Nat → Nat → Int32) (J J' : Nat → Nat → Int64) : Prop := (∀ a, a ∉ [2, 4, 5] → I' a = I a) ∧ (∀ j, j ≠ 6 → I' 2 j = I 2 j) ∧ ∀ a, a ≠ 6 → J' a = J a
section CSCAN
variable {d lw : Nat} {b : Nat → Nat} {L : Nat} {I I0 I' I'' : Nat → Nat → Int32} {J J0 J' J'' : Nat → Nat → Int64} {M : em_M} {Q : Option Value → em_M → Prop}
theorem ct_f.rf : ct_f I I J J := ⟨fun _ _ => rfl, fun _ _ => rfl, fun _ _ => rfl⟩
theorem ct_f.tr (h : ct_f I I' J J') (h' : ct_f I' I'' J' J'') : ct_f I I'' J J'' := ⟨fun a ha => (h'.1 a ha).trans (h.1 a ha), fun j hj => (h'.2.1 j hj).trans (h.2.1 j hj), fun a ha => (h'.2.2 a ha).trans (h.2.2 a ha)⟩
theorem ct_f.X (h : ct_f I I' J J') (hX : ct_X b L I) : ct_X b L I' := ⟨hX.1, (h.2.1 _ (by decide)).trans hX.2.1, fun j hj => by rw [h.1 _ (by decide)]; exact hX.2.2 j hj⟩
theorem ct_f.K (h : ct_f I I' J J') (hK : ck_J J) : ck_J J' := fun k hk => by rw [h.2.2 _ (by decide)]; exact hK k hk
theorem ct_f.at {x : Int32} : ct_f I (em_u I 2 6 x) J J := ⟨fun a ha => em_u_row (fun q => ha (by rw [q]; decide)), fun j hj => em_u_ne hj, fun _ _ => rfl⟩
theorem ct_f.row {a j : Nat} {x : Int32} (ha : a ∈ [4, 5]) : ct_f I (em_u I a j x) J J := ⟨fun c hc => em_u_row (fun q => hc (by rw [q]; revert ha; simp; omega)), fun j hj => by rw [em_u_row (by revert ha; simp; omega)], fun _ _ => rfl⟩
theorem ct_f.val {j : Nat} {x : Int64} : ct_f I I J (em_uj J 6 j x) := ⟨fun _ _ => rfl, fun _ _ => rfl, fun a ha => em_uj_row ha⟩
theorem em_balS {sc : Nat × (Nat → Int32)} {ix pc nx : Nat} {lc : em_L} {r : List Value} {k : Nat} (hi : em_ins ix pc = some (.baload, nx)) (hk : k < 9) (kk : em_wp sc d ix nx lc (.int (nI (sb k)) :: r) M Q) : em_wp sc d ix pc lc (.int (nI k) :: .retAddr 3 :: r) M Q := by
  have hin : em_in (nI k) 9 = true := em_in_n hk (by decide)
  have hc := nI_clamp (n := k) (by omega)
  refine em_next ?_ kk
  unfold em_stp
  rw [hi]
  unfold em_do
  dsimp only
  rw [if_pos ⟨by decide, hin⟩, hc]
  rw [sb_ok k hk]
theorem ce_ioc_l {c k m : Nat} {x2 : Int32} (hc : c < 256) (hk : k + m = 9) (h0 : ∀ j, j < k → ¬ c = sb j) (h : ∀ r : Int32, (tk_sg c = 3 → r < 0) → (¬ tk_sg c = 3 → ¬ r < 0) → Q (some (.int r)) M) : em_wp em_sc0 d 291 7 [some (.retAddr 3), some (.int (nI c)), some (.int (x2)), some (.int (nI 9)), some (.int ((nI c).toInt8.toInt32)), some (.int (nI k))] [] M Q := by
  induction m generalizing k with
  | zero =>
    have e : k = 9 := by omega
    subst e
    iterate 3 refine em_next rfl ?_
    refine em_c_ge (fun _ => ?_) (fun z => absurd (by decide) z)
    iterate 1 refine em_next rfl ?_
    exact em_done rfl (h _ (fun _ => by decide) (fun z => absurd ((sb_sg c hc).mpr h0) z))
  | succ m ih =>
    iterate 3 refine em_next rfl ?_
    refine em_c_ge (fun z => absurd z (nI_ge (b := 9) (by omega) (by decide))) (fun _ => ?_)
    iterate 2 refine em_next rfl ?_
    refine em_balS rfl (by omega) ?_
    iterate 2 refine em_next rfl ?_
    refine em_c_ne (fun z => ?_) (fun z => ?_)
    · have g := ih (k := k + 1) (by omega) (fun j hj => by
        by_cases e : j = k
        · subst e; exact fun q => z ((i2b_ok c hc j (by omega)).mpr q)
        · exact h0 j (by omega))
      rw [show nI (k + 1) = nI k + 1 from nI_succ k] at g
      iterate 2 refine em_next rfl ?_
      exact g
    · have z2 := (i2b_ok c hc k (by omega)).mp z
      iterate 1 refine em_next rfl ?_
      exact em_done rfl (h _ (fun e => absurd z2 ((sb_sg c hc).mp e k (by omega))) (fun _ => nI_pos (by omega)))
theorem ce_signs {c : Nat} (hc : c < 256) (h : ∀ r : Int32, (tk_sg c = 3 → r < 0) → (¬ tk_sg c = 3 → ¬ r < 0) → Q (some (.int r)) M) : em_call (d + 4) 283 [.retAddr 1, .int (nI c)] M Q := by
  iterate 3 refine em_next rfl ?_
  refine em_inv_call rfl ?_
  iterate 1 refine em_next rfl ?_
  refine em_inv_call rfl ?_
  iterate 7 refine em_next rfl ?_
  refine em_done rfl ?_
  iterate 6 refine em_next rfl ?_
  refine em_inv_call rfl ?_
  iterate 4 refine em_next rfl ?_
  refine em_inv_call rfl ?_
  iterate 5 refine em_next rfl ?_
  refine em_done rfl ?_
  iterate 1 refine em_next rfl ?_
  refine em_done rfl ?_
  refine em_inv_call rfl ?_
  iterate 1 refine em_next rfl ?_
  refine em_inv_call rfl ?_
  iterate 2 refine em_next rfl ?_
  refine em_z_lt (fun z => absurd z (nI_pos (by omega))) (fun _ => ?_)
  iterate 3 refine em_next rfl ?_
  refine em_c_gtE rfl (y' := nI 255) rfl (fun z => absurd z (nI_nlt (by omega) (by decide))) (fun _ => ?_)
  iterate 2 refine em_next rfl ?_
  refine em_done rfl ?_
  iterate 17 refine em_next rfl ?_
  refine em_inv_call rfl ?_
  iterate 5 refine em_next rfl ?_
  refine ce_ioc_l (k := 0) (m := 9) hc (by omega) (fun j hj => absurd hj (Nat.not_lt_zero _)) (fun r r1 r2 => ?_)
  refine em_done rfl ?_
  iterate 1 refine em_next rfl ?_
  refine em_done rfl ?_
  refine em_done rfl (h r r1 r2)
end CSCAN
