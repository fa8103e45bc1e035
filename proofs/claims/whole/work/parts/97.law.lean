/-! the law: every call answers alike -/
def JI (I : Nat → Nat → Int32) (J : Nat → Nat → Int64) (B : Nat) : Prop := ∃ (lp : Bool) (nx lv : Nat) (p : em_Pn) (W : em_Wt) (u : Nat) (H : Nat → em_Wt) (hl : Nat → Bool) (S : Nat → em_Wt) (T : Nat) (D : em_Td) (Lt : Nat) (tp : Nat → Int32) (pc : Int32), CI I lp nx p W u H hl S T D Lt tp pc ∧ MI I lv p W u H hl S T D Lt tp pc ∧ HB W u H hl S B ∧ ck_J J ∧ mk_J J
theorem HB.push {W W' : em_Wt} {u : Nat} {H : Nat → em_Wt} {hl : Nat → Bool} {S : Nat → em_Wt} {B B' : Nat} (h : HB W u H hl S B) (hw : W'.2.1 ≤ B') (hb : B ≤ B') : HB W' (eh_u u) (eh_H u H W) hl S B' := by
  refine ⟨hw, fun i hi => ?_, fun s hs z => Nat.le_trans (h.2.2 s hs z) hb⟩
  unfold eh_H
  by_cases e : i + 1 = eh_u u
  · rw [if_pos e]; exact Nat.le_trans h.1 hb
  · rw [if_neg e]
    unfold eh_u at e hi
    by_cases e2 : u = 40
    · rw [if_pos e2] at e hi ⊢
      exact Nat.le_trans (h.2.1 (i + 1) (by omega)) hb
    · rw [if_neg e2] at e hi ⊢
      exact Nat.le_trans (h.2.1 i (by omega)) hb
theorem ok_le {n : Int32} {m : Nat} (hm : m < 2 ^ 31) (h : em_ok 0 (nI m) n) : n.toNatClampNeg ≤ m := by
  have h2 := h.2
  rw [Int32.le_iff_toInt_le, nI_toInt hm] at h2
  show n.toInt.toNat ≤ m
  omega
theorem sI_eq {f g : Nat → Int32} {n m : Nat} (h1 : ∀ j, j < n → f j = g j) (h2 : ∀ j, n ≤ j → j < n + m → f j = 0) : ey_sI f (n + m) = ey_sI g n := by
  induction m with
  | zero =>
    clear h2
    rw [Nat.add_zero]
    induction n with
    | zero => rfl
    | succ n ih => rw [ey_sI, ey_sI, ih (fun j hj => h1 j (by omega)), h1 n (by omega)]
  | succ m ih => rw [← Nat.add_assoc, ey_sI, ih (fun j a b => h2 j a (by omega)), h2 (n + m) (by omega) (by omega), Int32.add_zero]
/-- the law reads its script -/
theorem em_sal {L : Nat} {xs : Nat → Int32} {d pc nx k : Nat} {lc : em_L} {r : List Value} {I : Nat → Nat → Int32} {J : Nat → Nat → Int64} {R : Nat → Nat → Option Nat} {i : Int32} {Q : Option Value → em_M → Prop} (hi : em_ins em_law pc = some (.iaload, nx)) (he : i = nI k) (hk : k < L) (hL : L ≤ 3072) (kk : em_wp (L, xs) d em_law nx lc (.int (xs k) :: r) (em_SH, I, J, R) Q) : em_wp (L, xs) d em_law pc lc (.int i :: .ref 0 :: r) (em_SH, I, J, R) Q := by
  subst he
  have hin : em_in (nI k) L = true := em_in_n hk (by omega)
  have hc := nI_clamp (n := k) (by omega)
  refine em_next ?_ kk
  unfold em_stp
  rw [hi]
  unfold em_do
  dsimp only
  rw [show em_SH[0]? = some (30, 0) from rfl]
  dsimp only
  rw [if_neg (fun q => absurd q.1 (by decide)), if_pos ⟨⟨rfl, rfl⟩, hin⟩, hc]
section LAW
variable {L : Nat} {xs : Nat → Int32} {c B lw : Nat} {I : Nat → Nat → Int32} {J : Nat → Nat → Int64} {Q : Option Value → em_M → Prop}
theorem lw_sleeper (hL : L ≤ 3072) (hc : 6 * c + 6 ≤ L) (hB : B + 2000 < 1000000) (hB2 : 10000 ≤ B) (hJ : JI I J B) (hN : ∀ (I' : Nat → Nat → Int32) (J' : Nat → Nat → Int64) (lw : Nat), JI I' J' (B + 100) → em_wp (L, xs) 40 em_law 1314 [some (.ref 0), some (.ref 1), some (.ref 284), some (.int (nI (6 * c)))] [] (em_SH, I', J', em_RT lw) Q) : em_wp (L, xs) 40 em_law 320 [some (.ref 0), some (.ref 1), some (.ref 284), some (.int (nI (6 * c)))] [] (em_SH, I, J, em_RT lw) Q := by
  obtain ⟨lp, nx, lv, p, W, u, H, hl, S, T, D, Lt, tp, pc, hC, hM, hH, kc, km⟩ := hJ
  have hb : W.2.1 + 1000 < 1000000 := by have := hH.1; omega
  iterate 1 refine em_next rfl ?_
  iterate 4 refine em_next rfl ?_
  refine em_sal (k := 6 * c + 1) rfl (em_nadd _ 1).symm (by omega) hL ?_
  iterate 4 refine em_next rfl ?_
  refine em_sal (k := 6 * c + 2) rfl (em_nadd _ 2).symm (by omega) hL ?_
  refine em_inv_call rfl (cq_sleeper (hC.toS hb) (nm := eq_nm W) (tn := eq_tn W) (fun b hb => ⟨(hC.2.2.1.2 b hb).1, (hC.2.2.1.2 b hb).2.2.2⟩) (fun I1 a1 a2 => ?_))
  have hM1 := hM.keepC a1.hi
  iterate 1 refine em_next rfl ?_
  iterate 4 refine em_next rfl ?_
  refine em_sal (k := 6 * c + 1) rfl (em_nadd _ 1).symm (by omega) hL ?_
  iterate 4 refine em_next rfl ?_
  refine em_sal (k := 6 * c + 2) rfl (em_nadd _ 2).symm (by omega) hL ?_
  refine em_inv_call rfl (mq_sleeper (hM1.toS hb) (nm := eq_nm W) (tn := eq_tn W) (fun b hb => ⟨(hM1.2.2.1.2.1 b hb).2.2.1, (hM1.2.2.1.2.1 b hb).2.2.2.2⟩) (fun I2 b1 => ?_))
  iterate 1 refine em_next rfl ?_
  refine em_c_eq (fun _ => ?_) (fun z => absurd rfl z)
  exact hN I2 J lw ⟨lp, nx, lv, p, W, u, H, hl, S, T, D, Lt, tp, pc, (hC.keepW a1 a2.2.2.2.1).keepM b1.Q.lo, hM1.keepQ b1.Q, hH.mono (by omega), kc, km⟩
theorem lw_after (hL : L ≤ 3072) (hc : 6 * c + 6 ≤ L) (hB : B + 2000 < 1000000) (hB2 : 10000 ≤ B) (hJ : JI I J B) (hN : ∀ (I' : Nat → Nat → Int32) (J' : Nat → Nat → Int64) (lw : Nat), JI I' J' (B + 100) → em_wp (L, xs) 40 em_law 1314 [some (.ref 0), some (.ref 1), some (.ref 284), some (.int (nI (6 * c)))] [] (em_SH, I', J', em_RT lw) Q) : em_wp (L, xs) 40 em_law 458 [some (.ref 0), some (.ref 1), some (.ref 284), some (.int (nI (6 * c)))] [] (em_SH, I, J, em_RT lw) Q := by
  obtain ⟨lp, nx, lv, p, W, u, H, hl, S, T, D, Lt, tp, pc, hC, hM, hH, kc, km⟩ := hJ
  have hb : W.2.1 + 1000 < 1000000 := by have := hH.1; omega
  iterate 1 refine em_next rfl ?_
  iterate 4 refine em_next rfl ?_
  refine em_sal (k := 6 * c + 1) rfl (em_nadd _ 1).symm (by omega) hL ?_
  iterate 4 refine em_next rfl ?_
  refine em_sal (k := 6 * c + 2) rfl (em_nadd _ 2).symm (by omega) hL ?_
  refine em_inv_call rfl (cq_after (hC.toS hb) (fun I1 a1 a2 => ?_))
  have hM1 := hM.keepC a1.hi
  iterate 1 refine em_next rfl ?_
  iterate 4 refine em_next rfl ?_
  refine em_sal (k := 6 * c + 1) rfl (em_nadd _ 1).symm (by omega) hL ?_
  iterate 4 refine em_next rfl ?_
  refine em_sal (k := 6 * c + 2) rfl (em_nadd _ 2).symm (by omega) hL ?_
  refine em_inv_call rfl (mq_after (hM1.toS hb) (fun I2 b1 => ?_))
  iterate 1 refine em_next rfl ?_
  refine em_c_eq (fun _ => ?_) (fun z => absurd rfl z)
  exact hN I2 J lw ⟨lp, nx, lv, p, W, u, H, hl, S, T, D, Lt, tp, pc, (hC.keepW a1 a2.2.2.2.1).keepM b1.Q.lo, hM1.keepQ b1.Q, hH.mono (by omega), kc, km⟩
theorem lw_turned (hL : L ≤ 3072) (hc : 6 * c + 6 ≤ L) (hB : B + 2000 < 1000000) (hB2 : 10000 ≤ B) (hJ : JI I J B) (hN : ∀ (I' : Nat → Nat → Int32) (J' : Nat → Nat → Int64) (lw : Nat), JI I' J' (B + 100) → em_wp (L, xs) 40 em_law 1314 [some (.ref 0), some (.ref 1), some (.ref 284), some (.int (nI (6 * c)))] [] (em_SH, I', J', em_RT lw) Q) : em_wp (L, xs) 40 em_law 491 [some (.ref 0), some (.ref 1), some (.ref 284), some (.int (nI (6 * c)))] [] (em_SH, I, J, em_RT lw) Q := by
  obtain ⟨lp, nx, lv, p, W, u, H, hl, S, T, D, Lt, tp, pc, hC, hM, hH, kc, km⟩ := hJ
  have hb : W.2.1 + 1000 < 1000000 := by have := hH.1; omega
  iterate 1 refine em_next rfl ?_
  iterate 4 refine em_next rfl ?_
  refine em_sal (k := 6 * c + 1) rfl (em_nadd _ 1).symm (by omega) hL ?_
  iterate 4 refine em_next rfl ?_
  refine em_sal (k := 6 * c + 2) rfl (em_nadd _ 2).symm (by omega) hL ?_
  refine em_inv_call rfl (cq_turned (hC.toS hb) (fun I1 a1 a2 => ?_))
  have hM1 := hM.keepC a1.hi
  iterate 1 refine em_next rfl ?_
  iterate 4 refine em_next rfl ?_
  refine em_sal (k := 6 * c + 1) rfl (em_nadd _ 1).symm (by omega) hL ?_
  iterate 4 refine em_next rfl ?_
  refine em_sal (k := 6 * c + 2) rfl (em_nadd _ 2).symm (by omega) hL ?_
  refine em_inv_call rfl (mq_turned (hM1.toS hb) (fun I2 b1 => ?_))
  iterate 1 refine em_next rfl ?_
  refine em_c_eq (fun _ => ?_) (fun z => absurd rfl z)
  exact hN I2 J lw ⟨lp, nx, lv, p, W, u, H, hl, S, T, D, Lt, tp, pc, (hC.keepW a1 a2.2.2.2.1).keepM b1.lo, hM1.keepQ b1, hH.mono (by omega), kc, km⟩
theorem lw_soonest (hL : L ≤ 3072) (hc : 6 * c + 6 ≤ L) (hB : B + 2000 < 1000000) (hB2 : 10000 ≤ B) (hJ : JI I J B) (hN : ∀ (I' : Nat → Nat → Int32) (J' : Nat → Nat → Int64) (lw : Nat), JI I' J' (B + 100) → em_wp (L, xs) 40 em_law 1314 [some (.ref 0), some (.ref 1), some (.ref 284), some (.int (nI (6 * c)))] [] (em_SH, I', J', em_RT lw) Q) : em_wp (L, xs) 40 em_law 524 [some (.ref 0), some (.ref 1), some (.ref 284), some (.int (nI (6 * c)))] [] (em_SH, I, J, em_RT lw) Q := by
  obtain ⟨lp, nx, lv, p, W, u, H, hl, S, T, D, Lt, tp, pc, hC, hM, hH, kc, km⟩ := hJ
  have hb : W.2.1 + 1000 < 1000000 := by have := hH.1; omega
  iterate 1 refine em_next rfl ?_
  iterate 4 refine em_next rfl ?_
  refine em_sal (k := 6 * c + 1) rfl (em_nadd _ 1).symm (by omega) hL ?_
  refine em_inv_call rfl (cq_soonest (hC.toS hb) (fun I1 a1 a2 => ?_))
  have hM1 := hM.keepC a1.hi
  iterate 1 refine em_next rfl ?_
  iterate 4 refine em_next rfl ?_
  refine em_sal (k := 6 * c + 1) rfl (em_nadd _ 1).symm (by omega) hL ?_
  refine em_inv_call rfl (mq_soonest (hM1.toS hb) (fun I2 b1 => ?_))
  iterate 1 refine em_next rfl ?_
  refine em_c_eq (fun _ => ?_) (fun z => absurd rfl z)
  exact hN I2 J lw ⟨lp, nx, lv, p, W, u, H, hl, S, T, D, Lt, tp, pc, (hC.keepW a1 a2.2.2.2.1).keepM b1.Q.lo, hM1.keepQ b1.Q, hH.mono (by omega), kc, km⟩
theorem lw_spread (hL : L ≤ 3072) (hc : 6 * c + 6 ≤ L) (hB : B + 2000 < 1000000) (hB2 : 10000 ≤ B) (hJ : JI I J B) (hN : ∀ (I' : Nat → Nat → Int32) (J' : Nat → Nat → Int64) (lw : Nat), JI I' J' (B + 100) → em_wp (L, xs) 40 em_law 1314 [some (.ref 0), some (.ref 1), some (.ref 284), some (.int (nI (6 * c)))] [] (em_SH, I', J', em_RT lw) Q) : em_wp (L, xs) 40 em_law 547 [some (.ref 0), some (.ref 1), some (.ref 284), some (.int (nI (6 * c)))] [] (em_SH, I, J, em_RT lw) Q := by
  obtain ⟨lp, nx, lv, p, W, u, H, hl, S, T, D, Lt, tp, pc, hC, hM, hH, kc, km⟩ := hJ
  have hb : W.2.1 + 1000 < 1000000 := by have := hH.1; omega
  iterate 1 refine em_next rfl ?_
  iterate 4 refine em_next rfl ?_
  refine em_sal (k := 6 * c + 1) rfl (em_nadd _ 1).symm (by omega) hL ?_
  iterate 4 refine em_next rfl ?_
  refine em_sal (k := 6 * c + 2) rfl (em_nadd _ 2).symm (by omega) hL ?_
  refine em_inv_call rfl (cq_spread (hC.toS hb) (fun I1 a1 a2 => ?_))
  have hM1 := hM.keepC a1.hi
  iterate 1 refine em_next rfl ?_
  iterate 4 refine em_next rfl ?_
  refine em_sal (k := 6 * c + 1) rfl (em_nadd _ 1).symm (by omega) hL ?_
  iterate 4 refine em_next rfl ?_
  refine em_sal (k := 6 * c + 2) rfl (em_nadd _ 2).symm (by omega) hL ?_
  refine em_inv_call rfl (mq_spread (hM1.toS hb) (fun I2 b1 => ?_))
  iterate 1 refine em_next rfl ?_
  refine em_c_eq (fun _ => ?_) (fun z => absurd rfl z)
  exact hN I2 J lw ⟨lp, nx, lv, p, W, u, H, hl, S, T, D, Lt, tp, pc, (hC.keepW a1 a2.2.2.2.1).keepM b1.Q.lo, hM1.keepQ b1.Q, hH.mono (by omega), kc, km⟩
theorem lw_leads (hL : L ≤ 3072) (hc : 6 * c + 6 ≤ L) (hB : B + 2000 < 1000000) (hB2 : 10000 ≤ B) (hJ : JI I J B) (hN : ∀ (I' : Nat → Nat → Int32) (J' : Nat → Nat → Int64) (lw : Nat), JI I' J' (B + 100) → em_wp (L, xs) 40 em_law 1314 [some (.ref 0), some (.ref 1), some (.ref 284), some (.int (nI (6 * c)))] [] (em_SH, I', J', em_RT lw) Q) : em_wp (L, xs) 40 em_law 580 [some (.ref 0), some (.ref 1), some (.ref 284), some (.int (nI (6 * c)))] [] (em_SH, I, J, em_RT lw) Q := by
  obtain ⟨lp, nx, lv, p, W, u, H, hl, S, T, D, Lt, tp, pc, hC, hM, hH, kc, km⟩ := hJ
  have hb : W.2.1 + 1000 < 1000000 := by have := hH.1; omega
  iterate 1 refine em_next rfl ?_
  iterate 4 refine em_next rfl ?_
  refine em_sal (k := 6 * c + 1) rfl (em_nadd _ 1).symm (by omega) hL ?_
  iterate 4 refine em_next rfl ?_
  refine em_sal (k := 6 * c + 2) rfl (em_nadd _ 2).symm (by omega) hL ?_
  iterate 4 refine em_next rfl ?_
  refine em_sal (k := 6 * c + 3) rfl (em_nadd _ 3).symm (by omega) hL ?_
  refine em_inv_call rfl (cq_leads (hC.toS hb) (fun I1 a1 a2 => ?_))
  have hM1 := hM.keepC a1.hi
  iterate 1 refine em_next rfl ?_
  iterate 4 refine em_next rfl ?_
  refine em_sal (k := 6 * c + 1) rfl (em_nadd _ 1).symm (by omega) hL ?_
  iterate 4 refine em_next rfl ?_
  refine em_sal (k := 6 * c + 2) rfl (em_nadd _ 2).symm (by omega) hL ?_
  iterate 4 refine em_next rfl ?_
  refine em_sal (k := 6 * c + 3) rfl (em_nadd _ 3).symm (by omega) hL ?_
  refine em_inv_call rfl (mq_leads (hM1.toS hb) (fun I2 b1 => ?_))
  iterate 1 refine em_next rfl ?_
  refine em_c_eq (fun _ => ?_) (fun z => absurd rfl z)
  exact hN I2 J lw ⟨lp, nx, lv, p, W, u, H, hl, S, T, D, Lt, tp, pc, (hC.keepW a1 a2.2.2.2.1).keepM b1.Q.lo, hM1.keepQ b1.Q, hH.mono (by omega), kc, km⟩
theorem lw_turnTo (hL : L ≤ 3072) (hc : 6 * c + 6 ≤ L) (hB : B + 2000 < 1000000) (hB2 : 10000 ≤ B) (hJ : JI I J B) (hN : ∀ (I' : Nat → Nat → Int32) (J' : Nat → Nat → Int64) (lw : Nat), JI I' J' (B + 100) → em_wp (L, xs) 40 em_law 1314 [some (.ref 0), some (.ref 1), some (.ref 284), some (.int (nI (6 * c)))] [] (em_SH, I', J', em_RT lw) Q) : em_wp (L, xs) 40 em_law 623 [some (.ref 0), some (.ref 1), some (.ref 284), some (.int (nI (6 * c)))] [] (em_SH, I, J, em_RT lw) Q := by
  obtain ⟨lp, nx, lv, p, W, u, H, hl, S, T, D, Lt, tp, pc, hC, hM, hH, kc, km⟩ := hJ
  have hb : W.2.1 + 1000 < 1000000 := by have := hH.1; omega
  iterate 1 refine em_next rfl ?_
  iterate 4 refine em_next rfl ?_
  refine em_sal (k := 6 * c + 1) rfl (em_nadd _ 1).symm (by omega) hL ?_
  iterate 4 refine em_next rfl ?_
  refine em_sal (k := 6 * c + 2) rfl (em_nadd _ 2).symm (by omega) hL ?_
  refine em_inv_call rfl (cq_turnTo (hC.toS hb) (fun I1 a1 a2 => ?_))
  have hM1 := hM.keepC a1.hi
  iterate 1 refine em_next rfl ?_
  iterate 4 refine em_next rfl ?_
  refine em_sal (k := 6 * c + 1) rfl (em_nadd _ 1).symm (by omega) hL ?_
  iterate 4 refine em_next rfl ?_
  refine em_sal (k := 6 * c + 2) rfl (em_nadd _ 2).symm (by omega) hL ?_
  refine em_inv_call rfl (mq_turnTo (hM1.toS hb) (fun I2 b1 => ?_))
  iterate 1 refine em_next rfl ?_
  refine em_c_eq (fun _ => ?_) (fun z => absurd rfl z)
  exact hN I2 J lw ⟨lp, nx, lv, p, W, u, H, hl, S, T, D, Lt, tp, pc, (hC.keepW a1 a2.2.2.2.1).keepM b1.lo, hM1.keepQ b1, hH.mono (by omega), kc, km⟩
theorem lw_round (hL : L ≤ 3072) (hc : 6 * c + 6 ≤ L) (hB : B + 2000 < 1000000) (hB2 : 10000 ≤ B) (hJ : JI I J B) (hN : ∀ (I' : Nat → Nat → Int32) (J' : Nat → Nat → Int64) (lw : Nat), JI I' J' (B + 100) → em_wp (L, xs) 40 em_law 1314 [some (.ref 0), some (.ref 1), some (.ref 284), some (.int (nI (6 * c)))] [] (em_SH, I', J', em_RT lw) Q) : em_wp (L, xs) 40 em_law 656 [some (.ref 0), some (.ref 1), some (.ref 284), some (.int (nI (6 * c)))] [] (em_SH, I, J, em_RT lw) Q := by
  obtain ⟨lp, nx, lv, p, W, u, H, hl, S, T, D, Lt, tp, pc, hC, hM, hH, kc, km⟩ := hJ
  have hb : W.2.1 + 1000 < 1000000 := by have := hH.1; omega
  iterate 1 refine em_next rfl ?_
  iterate 4 refine em_next rfl ?_
  refine em_sal (k := 6 * c + 1) rfl (em_nadd _ 1).symm (by omega) hL ?_
  iterate 4 refine em_next rfl ?_
  refine em_sal (k := 6 * c + 2) rfl (em_nadd _ 2).symm (by omega) hL ?_
  refine em_inv_call rfl (cq_round (hC.toS hb) (fun I1 a1 a2 => ?_))
  have hM1 := hM.keepC a1.hi
  iterate 1 refine em_next rfl ?_
  iterate 4 refine em_next rfl ?_
  refine em_sal (k := 6 * c + 1) rfl (em_nadd _ 1).symm (by omega) hL ?_
  iterate 4 refine em_next rfl ?_
  refine em_sal (k := 6 * c + 2) rfl (em_nadd _ 2).symm (by omega) hL ?_
  refine em_inv_call rfl (mq_round (hM1.toS hb) (fun I2 b1 => ?_))
  iterate 1 refine em_next rfl ?_
  refine em_c_eq (fun _ => ?_) (fun z => absurd rfl z)
  exact hN I2 J lw ⟨lp, nx, lv, p, W, u, H, hl, S, T, D, Lt, tp, pc, (hC.keepW a1 a2.2.2.2.1).keepM b1.Q.lo, hM1.keepQ b1.Q, hH.mono (by omega), kc, km⟩
theorem lw_rule (hL : L ≤ 3072) (hc : 6 * c + 6 ≤ L) (hB : B + 2000 < 1000000) (hB2 : 10000 ≤ B) (hJ : JI I J B) (hN : ∀ (I' : Nat → Nat → Int32) (J' : Nat → Nat → Int64) (lw : Nat), JI I' J' (B + 100) → em_wp (L, xs) 40 em_law 1314 [some (.ref 0), some (.ref 1), some (.ref 284), some (.int (nI (6 * c)))] [] (em_SH, I', J', em_RT lw) Q) : em_wp (L, xs) 40 em_law 689 [some (.ref 0), some (.ref 1), some (.ref 284), some (.int (nI (6 * c)))] [] (em_SH, I, J, em_RT lw) Q := by
  obtain ⟨lp, nx, lv, p, W, u, H, hl, S, T, D, Lt, tp, pc, hC, hM, hH, kc, km⟩ := hJ
  have hb : W.2.1 + 1000 < 1000000 := by have := hH.1; omega
  iterate 1 refine em_next rfl ?_
  iterate 4 refine em_next rfl ?_
  refine em_sal (k := 6 * c + 1) rfl (em_nadd _ 1).symm (by omega) hL ?_
  refine em_inv_call rfl (cq_rule (hC.toS hb) (fun I1 a1 a2 => ?_))
  have hM1 := hM.keepC a1.hi
  iterate 1 refine em_next rfl ?_
  iterate 4 refine em_next rfl ?_
  refine em_sal (k := 6 * c + 1) rfl (em_nadd _ 1).symm (by omega) hL ?_
  refine em_inv_call rfl (mq_rule (hM1.toS hb) (fun I2 b1 => ?_))
  iterate 1 refine em_next rfl ?_
  refine em_c_eq (fun _ => ?_) (fun z => absurd rfl z)
  exact hN I2 J lw ⟨lp, nx, lv, p, W, u, H, hl, S, T, D, Lt, tp, pc, (hC.keepW a1 a2.2.2.2.1).keepM b1.Q.lo, hM1.keepQ b1.Q, hH.mono (by omega), kc, km⟩
theorem lw_coldest (hL : L ≤ 3072) (hc : 6 * c + 6 ≤ L) (hB : B + 2000 < 1000000) (hB2 : 10000 ≤ B) (hJ : JI I J B) (hN : ∀ (I' : Nat → Nat → Int32) (J' : Nat → Nat → Int64) (lw : Nat), JI I' J' (B + 100) → em_wp (L, xs) 40 em_law 1314 [some (.ref 0), some (.ref 1), some (.ref 284), some (.int (nI (6 * c)))] [] (em_SH, I', J', em_RT lw) Q) : em_wp (L, xs) 40 em_law 712 [some (.ref 0), some (.ref 1), some (.ref 284), some (.int (nI (6 * c)))] [] (em_SH, I, J, em_RT lw) Q := by
  obtain ⟨lp, nx, lv, p, W, u, H, hl, S, T, D, Lt, tp, pc, hC, hM, hH, kc, km⟩ := hJ
  have hb : W.2.1 + 1000 < 1000000 := by have := hH.1; omega
  iterate 1 refine em_next rfl ?_
  iterate 4 refine em_next rfl ?_
  refine em_sal (k := 6 * c + 1) rfl (em_nadd _ 1).symm (by omega) hL ?_
  refine em_inv_call rfl (cq_coldest (hC.toS hb) (fun I1 a1 a2 => ?_))
  have hM1 := hM.keepC a1.hi
  iterate 1 refine em_next rfl ?_
  iterate 4 refine em_next rfl ?_
  refine em_sal (k := 6 * c + 1) rfl (em_nadd _ 1).symm (by omega) hL ?_
  refine em_inv_call rfl (mq_coldest (hM1.toS hb) (fun I2 b1 => ?_))
  iterate 1 refine em_next rfl ?_
  refine em_c_eq (fun _ => ?_) (fun z => absurd rfl z)
  exact hN I2 J lw ⟨lp, nx, lv, p, W, u, H, hl, S, T, D, Lt, tp, pc, (hC.keepW a1 a2.2.2.2.1).keepM b1.Q.lo, hM1.keepQ b1.Q, hH.mono (by omega), kc, km⟩
theorem lw_run (hL : L ≤ 3072) (hc : 6 * c + 6 ≤ L) (hB : B + 2000 < 1000000) (hB2 : 10000 ≤ B) (hJ : JI I J B) (hN : ∀ (I' : Nat → Nat → Int32) (J' : Nat → Nat → Int64) (lw : Nat), JI I' J' (B + 100) → em_wp (L, xs) 40 em_law 1314 [some (.ref 0), some (.ref 1), some (.ref 284), some (.int (nI (6 * c)))] [] (em_SH, I', J', em_RT lw) Q) : em_wp (L, xs) 40 em_law 735 [some (.ref 0), some (.ref 1), some (.ref 284), some (.int (nI (6 * c)))] [] (em_SH, I, J, em_RT lw) Q := by
  obtain ⟨lp, nx, lv, p, W, u, H, hl, S, T, D, Lt, tp, pc, hC, hM, hH, kc, km⟩ := hJ
  have hb : W.2.1 + 1000 < 1000000 := by have := hH.1; omega
  iterate 1 refine em_next rfl ?_
  iterate 4 refine em_next rfl ?_
  refine em_sal (k := 6 * c + 1) rfl (em_nadd _ 1).symm (by omega) hL ?_
  refine em_inv_call rfl (cq_run (hC.toS hb) ?_)
  iterate 1 refine em_next rfl ?_
  iterate 4 refine em_next rfl ?_
  refine em_sal (k := 6 * c + 1) rfl (em_nadd _ 1).symm (by omega) hL ?_
  refine em_inv_call rfl (mq_run (hM.toS hb) ?_)
  iterate 1 refine em_next rfl ?_
  refine em_c_eq (fun _ => ?_) (fun z => absurd rfl z)
  exact hN I J lw ⟨lp, nx, lv, p, W, u, H, hl, S, T, D, Lt, tp, pc, hC, hM, hH.mono (by omega), kc, km⟩
theorem lw_unlike (hL : L ≤ 3072) (hc : 6 * c + 6 ≤ L) (hB : B + 2000 < 1000000) (hB2 : 10000 ≤ B) (hJ : JI I J B) (hN : ∀ (I' : Nat → Nat → Int32) (J' : Nat → Nat → Int64) (lw : Nat), JI I' J' (B + 100) → em_wp (L, xs) 40 em_law 1314 [some (.ref 0), some (.ref 1), some (.ref 284), some (.int (nI (6 * c)))] [] (em_SH, I', J', em_RT lw) Q) : em_wp (L, xs) 40 em_law 758 [some (.ref 0), some (.ref 1), some (.ref 284), some (.int (nI (6 * c)))] [] (em_SH, I, J, em_RT lw) Q := by
  obtain ⟨lp, nx, lv, p, W, u, H, hl, S, T, D, Lt, tp, pc, hC, hM, hH, kc, km⟩ := hJ
  have hb : W.2.1 + 1000 < 1000000 := by have := hH.1; omega
  iterate 1 refine em_next rfl ?_
  refine em_inv_call rfl (cq_unlike (hC.toS hb) ?_)
  iterate 1 refine em_next rfl ?_
  refine em_inv_call rfl (mq_unlike (hM.toS hb) ?_)
  iterate 1 refine em_next rfl ?_
  refine em_c_eq (fun _ => ?_) (fun z => absurd rfl z)
  exact hN I J lw ⟨lp, nx, lv, p, W, u, H, hl, S, T, D, Lt, tp, pc, hC, hM, hH.mono (by omega), kc, km⟩
theorem lw_eden (hL : L ≤ 3072) (hc : 6 * c + 6 ≤ L) (hB : B + 2000 < 1000000) (hB2 : 10000 ≤ B) (hJ : JI I J B) (hN : ∀ (I' : Nat → Nat → Int32) (J' : Nat → Nat → Int64) (lw : Nat), JI I' J' (B + 100) → em_wp (L, xs) 40 em_law 1314 [some (.ref 0), some (.ref 1), some (.ref 284), some (.int (nI (6 * c)))] [] (em_SH, I', J', em_RT lw) Q) : em_wp (L, xs) 40 em_law 771 [some (.ref 0), some (.ref 1), some (.ref 284), some (.int (nI (6 * c)))] [] (em_SH, I, J, em_RT lw) Q := by
  obtain ⟨lp, nx, lv, p, W, u, H, hl, S, T, D, Lt, tp, pc, hC, hM, hH, kc, km⟩ := hJ
  have hb : W.2.1 + 1000 < 1000000 := by have := hH.1; omega
  iterate 1 refine em_next rfl ?_
  iterate 4 refine em_next rfl ?_
  refine em_sal (k := 6 * c + 1) rfl (em_nadd _ 1).symm (by omega) hL ?_
  refine em_inv_call rfl (cq_eden (hC.toS hb) (fun I1 a1 a2 => ?_))
  have hM1 := hM.keepC a1.hi
  iterate 1 refine em_next rfl ?_
  iterate 4 refine em_next rfl ?_
  refine em_sal (k := 6 * c + 1) rfl (em_nadd _ 1).symm (by omega) hL ?_
  refine em_inv_call rfl (mq_eden (hM1.toS hb) (fun I2 b1 => ?_))
  iterate 1 refine em_next rfl ?_
  refine em_c_eq (fun _ => ?_) (fun z => absurd rfl z)
  exact hN I2 J lw ⟨lp, nx, lv, p, W, u, H, hl, S, T, D, Lt, tp, pc, (hC.keepW a1 a2.2.2.2.1).keepM b1.lo, hM1.keepQ b1, hH.mono (by omega), kc, km⟩
theorem lw_duel (hL : L ≤ 3072) (hc : 6 * c + 6 ≤ L) (hB : B + 2000 < 1000000) (hB2 : 10000 ≤ B) (hJ : JI I J B) (hN : ∀ (I' : Nat → Nat → Int32) (J' : Nat → Nat → Int64) (lw : Nat), JI I' J' (B + 100) → em_wp (L, xs) 40 em_law 1314 [some (.ref 0), some (.ref 1), some (.ref 284), some (.int (nI (6 * c)))] [] (em_SH, I', J', em_RT lw) Q) : em_wp (L, xs) 40 em_law 794 [some (.ref 0), some (.ref 1), some (.ref 284), some (.int (nI (6 * c)))] [] (em_SH, I, J, em_RT lw) Q := by
  obtain ⟨lp, nx, lv, p, W, u, H, hl, S, T, D, Lt, tp, pc, hC, hM, hH, kc, km⟩ := hJ
  have hb : W.2.1 + 1000 < 1000000 := by have := hH.1; omega
  iterate 1 refine em_next rfl ?_
  iterate 4 refine em_next rfl ?_
  refine em_sal (k := 6 * c + 1) rfl (em_nadd _ 1).symm (by omega) hL ?_
  iterate 4 refine em_next rfl ?_
  refine em_sal (k := 6 * c + 2) rfl (em_nadd _ 2).symm (by omega) hL ?_
  refine em_inv_call rfl (cq_duel (hC.toS hb) (fun I1 a1 a2 => ?_))
  have hM1 := hM.keepC a1.hi
  iterate 1 refine em_next rfl ?_
  iterate 4 refine em_next rfl ?_
  refine em_sal (k := 6 * c + 1) rfl (em_nadd _ 1).symm (by omega) hL ?_
  iterate 4 refine em_next rfl ?_
  refine em_sal (k := 6 * c + 2) rfl (em_nadd _ 2).symm (by omega) hL ?_
  refine em_inv_call rfl (mq_duel (hM1.toS hb) (fun I2 b1 => ?_))
  iterate 1 refine em_next rfl ?_
  refine em_c_eq (fun _ => ?_) (fun z => absurd rfl z)
  exact hN I2 J lw ⟨lp, nx, lv, p, W, u, H, hl, S, T, D, Lt, tp, pc, (hC.keepW a1 a2.2.2.2.1).keepM b1.Q.lo, hM1.keepQ b1.Q, hH.mono (by omega), kc, km⟩
theorem lw_sentry (hL : L ≤ 3072) (hc : 6 * c + 6 ≤ L) (hB : B + 2000 < 1000000) (hB2 : 10000 ≤ B) (hJ : JI I J B) (hN : ∀ (I' : Nat → Nat → Int32) (J' : Nat → Nat → Int64) (lw : Nat), JI I' J' (B + 100) → em_wp (L, xs) 40 em_law 1314 [some (.ref 0), some (.ref 1), some (.ref 284), some (.int (nI (6 * c)))] [] (em_SH, I', J', em_RT lw) Q) : em_wp (L, xs) 40 em_law 827 [some (.ref 0), some (.ref 1), some (.ref 284), some (.int (nI (6 * c)))] [] (em_SH, I, J, em_RT lw) Q := by
  obtain ⟨lp, nx, lv, p, W, u, H, hl, S, T, D, Lt, tp, pc, hC, hM, hH, kc, km⟩ := hJ
  have hb : W.2.1 + 1000 < 1000000 := by have := hH.1; omega
  iterate 1 refine em_next rfl ?_
  iterate 4 refine em_next rfl ?_
  refine em_sal (k := 6 * c + 1) rfl (em_nadd _ 1).symm (by omega) hL ?_
  iterate 4 refine em_next rfl ?_
  refine em_sal (k := 6 * c + 2) rfl (em_nadd _ 2).symm (by omega) hL ?_
  refine em_inv_call rfl (cq_sentry (hC.toS hb) (fun I1 a1 a2 => ?_))
  have hM1 := hM.keepC a1.hi
  iterate 1 refine em_next rfl ?_
  iterate 4 refine em_next rfl ?_
  refine em_sal (k := 6 * c + 1) rfl (em_nadd _ 1).symm (by omega) hL ?_
  iterate 4 refine em_next rfl ?_
  refine em_sal (k := 6 * c + 2) rfl (em_nadd _ 2).symm (by omega) hL ?_
  refine em_inv_call rfl (mq_sentry (hM1.toS hb) (fun I2 b1 => ?_))
  iterate 1 refine em_next rfl ?_
  refine em_c_eq (fun _ => ?_) (fun z => absurd rfl z)
  exact hN I2 J lw ⟨lp, nx, lv, p, W, u, H, hl, S, T, D, Lt, tp, pc, (hC.keepW a1 a2.2.2.2.1).keepM b1.lo, hM1.keepQ b1, hH.mono (by omega), kc, km⟩
theorem lw_parting (hL : L ≤ 3072) (hc : 6 * c + 6 ≤ L) (hB : B + 2000 < 1000000) (hB2 : 10000 ≤ B) (hJ : JI I J B) (hN : ∀ (I' : Nat → Nat → Int32) (J' : Nat → Nat → Int64) (lw : Nat), JI I' J' (B + 100) → em_wp (L, xs) 40 em_law 1314 [some (.ref 0), some (.ref 1), some (.ref 284), some (.int (nI (6 * c)))] [] (em_SH, I', J', em_RT lw) Q) : em_wp (L, xs) 40 em_law 860 [some (.ref 0), some (.ref 1), some (.ref 284), some (.int (nI (6 * c)))] [] (em_SH, I, J, em_RT lw) Q := by
  obtain ⟨lp, nx, lv, p, W, u, H, hl, S, T, D, Lt, tp, pc, hC, hM, hH, kc, km⟩ := hJ
  have hb : W.2.1 + 1000 < 1000000 := by have := hH.1; omega
  iterate 1 refine em_next rfl ?_
  iterate 4 refine em_next rfl ?_
  refine em_sal (k := 6 * c + 1) rfl (em_nadd _ 1).symm (by omega) hL ?_
  refine em_inv_call rfl (cq_parting (hC.toS hb) ?_)
  iterate 1 refine em_next rfl ?_
  iterate 4 refine em_next rfl ?_
  refine em_sal (k := 6 * c + 1) rfl (em_nadd _ 1).symm (by omega) hL ?_
  refine em_inv_call rfl (mq_parting (hM.toS hb) ?_)
  iterate 1 refine em_next rfl ?_
  refine em_c_eq (fun _ => ?_) (fun z => absurd rfl z)
  exact hN I J lw ⟨lp, nx, lv, p, W, u, H, hl, S, T, D, Lt, tp, pc, hC, hM, hH.mono (by omega), kc, km⟩
theorem lw_shows (hL : L ≤ 3072) (hc : 6 * c + 6 ≤ L) (hB : B + 2000 < 1000000) (hB2 : 10000 ≤ B) (hJ : JI I J B) (hN : ∀ (I' : Nat → Nat → Int32) (J' : Nat → Nat → Int64) (lw : Nat), JI I' J' (B + 100) → em_wp (L, xs) 40 em_law 1314 [some (.ref 0), some (.ref 1), some (.ref 284), some (.int (nI (6 * c)))] [] (em_SH, I', J', em_RT lw) Q) : em_wp (L, xs) 40 em_law 883 [some (.ref 0), some (.ref 1), some (.ref 284), some (.int (nI (6 * c)))] [] (em_SH, I, J, em_RT lw) Q := by
  obtain ⟨lp, nx, lv, p, W, u, H, hl, S, T, D, Lt, tp, pc, hC, hM, hH, kc, km⟩ := hJ
  have hb : W.2.1 + 1000 < 1000000 := by have := hH.1; omega
  iterate 1 refine em_next rfl ?_
  iterate 4 refine em_next rfl ?_
  refine em_sal (k := 6 * c + 1) rfl (em_nadd _ 1).symm (by omega) hL ?_
  refine em_inv_call rfl (cq_shows (hC.toS hb) (fun I1 a1 a2 => ?_))
  have hM1 := hM.keepC a1.hi
  iterate 1 refine em_next rfl ?_
  iterate 4 refine em_next rfl ?_
  refine em_sal (k := 6 * c + 1) rfl (em_nadd _ 1).symm (by omega) hL ?_
  refine em_inv_call rfl (mq_shows (hM1.toS hb) (fun I2 b1 => ?_))
  iterate 1 refine em_next rfl ?_
  refine em_c_eq (fun _ => ?_) (fun z => absurd rfl z)
  exact hN I2 J lw ⟨lp, nx, lv, p, W, u, H, hl, S, T, D, Lt, tp, pc, (hC.keepW a1 a2.2.2.2.1).keepM b1.Q.lo, hM1.keepQ b1.Q, hH.mono (by omega), kc, km⟩
theorem lw_still (hL : L ≤ 3072) (hc : 6 * c + 6 ≤ L) (hB : B + 2000 < 1000000) (hB2 : 10000 ≤ B) (hJ : JI I J B) (hN : ∀ (I' : Nat → Nat → Int32) (J' : Nat → Nat → Int64) (lw : Nat), JI I' J' (B + 100) → em_wp (L, xs) 40 em_law 1314 [some (.ref 0), some (.ref 1), some (.ref 284), some (.int (nI (6 * c)))] [] (em_SH, I', J', em_RT lw) Q) : em_wp (L, xs) 40 em_law 906 [some (.ref 0), some (.ref 1), some (.ref 284), some (.int (nI (6 * c)))] [] (em_SH, I, J, em_RT lw) Q := by
  obtain ⟨lp, nx, lv, p, W, u, H, hl, S, T, D, Lt, tp, pc, hC, hM, hH, kc, km⟩ := hJ
  have hb : W.2.1 + 1000 < 1000000 := by have := hH.1; omega
  iterate 1 refine em_next rfl ?_
  iterate 4 refine em_next rfl ?_
  refine em_sal (k := 6 * c + 1) rfl (em_nadd _ 1).symm (by omega) hL ?_
  refine em_inv_call rfl (cq_still (hC.toS hb) (fun I1 a1 a2 => ?_))
  have hM1 := hM.keepC a1.hi
  iterate 1 refine em_next rfl ?_
  iterate 4 refine em_next rfl ?_
  refine em_sal (k := 6 * c + 1) rfl (em_nadd _ 1).symm (by omega) hL ?_
  refine em_inv_call rfl (mq_still (hM1.toS hb) (fun I2 b1 => ?_))
  iterate 1 refine em_next rfl ?_
  refine em_c_eq (fun _ => ?_) (fun z => absurd rfl z)
  exact hN I2 J lw ⟨lp, nx, lv, p, W, u, H, hl, S, T, D, Lt, tp, pc, (hC.keepW a1 a2.2.2.2.1).keepM b1.Q.lo, hM1.keepQ b1.Q, hH.mono (by omega), kc, km⟩
theorem lw_again (hL : L ≤ 3072) (hc : 6 * c + 6 ≤ L) (hB : B + 2000 < 1000000) (hB2 : 10000 ≤ B) (hJ : JI I J B) (hN : ∀ (I' : Nat → Nat → Int32) (J' : Nat → Nat → Int64) (lw : Nat), JI I' J' (B + 100) → em_wp (L, xs) 40 em_law 1314 [some (.ref 0), some (.ref 1), some (.ref 284), some (.int (nI (6 * c)))] [] (em_SH, I', J', em_RT lw) Q) : em_wp (L, xs) 40 em_law 929 [some (.ref 0), some (.ref 1), some (.ref 284), some (.int (nI (6 * c)))] [] (em_SH, I, J, em_RT lw) Q := by
  obtain ⟨lp, nx, lv, p, W, u, H, hl, S, T, D, Lt, tp, pc, hC, hM, hH, kc, km⟩ := hJ
  have hb : W.2.1 + 1000 < 1000000 := by have := hH.1; omega
  iterate 1 refine em_next rfl ?_
  refine em_inv_call rfl (cq_again (hC.toS hb) (fun I1 a1 a2 => ?_))
  have hM1 := hM.keepC a1.hi
  iterate 1 refine em_next rfl ?_
  refine em_inv_call rfl (mq_again (hM1.toS hb) (fun I2 b1 => ?_))
  iterate 1 refine em_next rfl ?_
  refine em_c_eq (fun _ => ?_) (fun z => absurd rfl z)
  exact hN I2 J lw ⟨lp, nx, lv, p, W, u, H, hl, S, T, D, Lt, tp, pc, (hC.keepW a1 a2.2.2.2.1).keepM b1.Q.lo, hM1.keepQ b1.Q, hH.mono (by omega), kc, km⟩
theorem lw_worst (hL : L ≤ 3072) (hc : 6 * c + 6 ≤ L) (hB : B + 2000 < 1000000) (hB2 : 10000 ≤ B) (hJ : JI I J B) (hN : ∀ (I' : Nat → Nat → Int32) (J' : Nat → Nat → Int64) (lw : Nat), JI I' J' (B + 100) → em_wp (L, xs) 40 em_law 1314 [some (.ref 0), some (.ref 1), some (.ref 284), some (.int (nI (6 * c)))] [] (em_SH, I', J', em_RT lw) Q) : em_wp (L, xs) 40 em_law 942 [some (.ref 0), some (.ref 1), some (.ref 284), some (.int (nI (6 * c)))] [] (em_SH, I, J, em_RT lw) Q := by
  obtain ⟨lp, nx, lv, p, W, u, H, hl, S, T, D, Lt, tp, pc, hC, hM, hH, kc, km⟩ := hJ
  have hb : W.2.1 + 1000 < 1000000 := by have := hH.1; omega
  iterate 1 refine em_next rfl ?_
  iterate 4 refine em_next rfl ?_
  refine em_sal (k := 6 * c + 1) rfl (em_nadd _ 1).symm (by omega) hL ?_
  iterate 4 refine em_next rfl ?_
  refine em_sal (k := 6 * c + 2) rfl (em_nadd _ 2).symm (by omega) hL ?_
  refine em_inv_call rfl (cq_worst (hC.toS hb) (fun I1 a1 a2 => ?_))
  have hM1 := hM.keepC a1.hi
  iterate 1 refine em_next rfl ?_
  iterate 4 refine em_next rfl ?_
  refine em_sal (k := 6 * c + 1) rfl (em_nadd _ 1).symm (by omega) hL ?_
  iterate 4 refine em_next rfl ?_
  refine em_sal (k := 6 * c + 2) rfl (em_nadd _ 2).symm (by omega) hL ?_
  refine em_inv_call rfl (mq_worst (hM1.toS hb) (fun I2 b1 => ?_))
  iterate 1 refine em_next rfl ?_
  refine em_c_eq (fun _ => ?_) (fun z => absurd rfl z)
  exact hN I2 J lw ⟨lp, nx, lv, p, W, u, H, hl, S, T, D, Lt, tp, pc, (hC.keepW a1 a2.2.2.2.1).keepM b1.lo, hM1.keepQ b1, hH.mono (by omega), kc, km⟩
theorem lw_changeBest (hL : L ≤ 3072) (hc : 6 * c + 6 ≤ L) (hB : B + 2000 < 1000000) (hB2 : 10000 ≤ B) (hJ : JI I J B) (hN : ∀ (I' : Nat → Nat → Int32) (J' : Nat → Nat → Int64) (lw : Nat), JI I' J' (B + 100) → em_wp (L, xs) 40 em_law 1314 [some (.ref 0), some (.ref 1), some (.ref 284), some (.int (nI (6 * c)))] [] (em_SH, I', J', em_RT lw) Q) : em_wp (L, xs) 40 em_law 975 [some (.ref 0), some (.ref 1), some (.ref 284), some (.int (nI (6 * c)))] [] (em_SH, I, J, em_RT lw) Q := by
  obtain ⟨lp, nx, lv, p, W, u, H, hl, S, T, D, Lt, tp, pc, hC, hM, hH, kc, km⟩ := hJ
  have hb : W.2.1 + 1000 < 1000000 := by have := hH.1; omega
  iterate 1 refine em_next rfl ?_
  iterate 4 refine em_next rfl ?_
  refine em_sal (k := 6 * c + 1) rfl (em_nadd _ 1).symm (by omega) hL ?_
  iterate 4 refine em_next rfl ?_
  refine em_sal (k := 6 * c + 2) rfl (em_nadd _ 2).symm (by omega) hL ?_
  refine em_inv_call rfl (cq_changeBest (hC.toS hb) (fun I1 a1 a2 => ?_))
  have hM1 := hM.keepC a1.hi
  iterate 1 refine em_next rfl ?_
  iterate 4 refine em_next rfl ?_
  refine em_sal (k := 6 * c + 1) rfl (em_nadd _ 1).symm (by omega) hL ?_
  iterate 4 refine em_next rfl ?_
  refine em_sal (k := 6 * c + 2) rfl (em_nadd _ 2).symm (by omega) hL ?_
  refine em_inv_call rfl (mq_changeBest (hM1.toS hb) (fun I2 b1 => ?_))
  iterate 1 refine em_next rfl ?_
  refine em_c_eq (fun _ => ?_) (fun z => absurd rfl z)
  exact hN I2 J lw ⟨lp, nx, lv, p, W, u, H, hl, S, T, D, Lt, tp, pc, (hC.keepW a1 a2.2.2.2.1).keepM b1.Q.lo, hM1.keepQ b1.Q, hH.mono (by omega), kc, km⟩
theorem lw_leave (hL : L ≤ 3072) (hc : 6 * c + 6 ≤ L) (hB : B + 2000 < 1000000) (hB2 : 10000 ≤ B) (hJ : JI I J B) (hN : ∀ (I' : Nat → Nat → Int32) (J' : Nat → Nat → Int64) (lw : Nat), JI I' J' (B + 100) → em_wp (L, xs) 40 em_law 1314 [some (.ref 0), some (.ref 1), some (.ref 284), some (.int (nI (6 * c)))] [] (em_SH, I', J', em_RT lw) Q) : em_wp (L, xs) 40 em_law 1008 [some (.ref 0), some (.ref 1), some (.ref 284), some (.int (nI (6 * c)))] [] (em_SH, I, J, em_RT lw) Q := by
  obtain ⟨lp, nx, lv, p, W, u, H, hl, S, T, D, Lt, tp, pc, hC, hM, hH, kc, km⟩ := hJ
  have hb : W.2.1 + 1000 < 1000000 := by have := hH.1; omega
  iterate 1 refine em_next rfl ?_
  iterate 4 refine em_next rfl ?_
  refine em_sal (k := 6 * c + 1) rfl (em_nadd _ 1).symm (by omega) hL ?_
  refine em_inv_call rfl (cq_leave (hC.toS hb) (fun I1 a1 a2 => ?_))
  have hM1 := hM.keepC a1.hi
  iterate 1 refine em_next rfl ?_
  iterate 4 refine em_next rfl ?_
  refine em_sal (k := 6 * c + 1) rfl (em_nadd _ 1).symm (by omega) hL ?_
  refine em_inv_call rfl (mq_leave (hM1.toS hb) (fun I2 b1 => ?_))
  iterate 1 refine em_next rfl ?_
  refine em_c_eq (fun _ => ?_) (fun z => absurd rfl z)
  exact hN I2 J lw ⟨lp, nx, lv, p, W, u, H, hl, S, T, D, Lt, tp, pc, (hC.keepW a1 a2.2.2.2.1).keepM b1.Q.lo, hM1.keepQ b1.Q, hH.mono (by omega), kc, km⟩
theorem lw_then (hL : L ≤ 3072) (hc : 6 * c + 6 ≤ L) (hB : B + 2000 < 1000000) (hB2 : 10000 ≤ B) (hJ : JI I J B) (hN : ∀ (I' : Nat → Nat → Int32) (J' : Nat → Nat → Int64) (lw : Nat), JI I' J' (B + 100) → em_wp (L, xs) 40 em_law 1314 [some (.ref 0), some (.ref 1), some (.ref 284), some (.int (nI (6 * c)))] [] (em_SH, I', J', em_RT lw) Q) : em_wp (L, xs) 40 em_law 1031 [some (.ref 0), some (.ref 1), some (.ref 284), some (.int (nI (6 * c)))] [] (em_SH, I, J, em_RT lw) Q := by
  obtain ⟨lp, nx, lv, p, W, u, H, hl, S, T, D, Lt, tp, pc, hC, hM, hH, kc, km⟩ := hJ
  have hb : W.2.1 + 1000 < 1000000 := by have := hH.1; omega
  iterate 1 refine em_next rfl ?_
  iterate 4 refine em_next rfl ?_
  refine em_sal (k := 6 * c + 1) rfl (em_nadd _ 1).symm (by omega) hL ?_
  iterate 4 refine em_next rfl ?_
  refine em_sal (k := 6 * c + 2) rfl (em_nadd _ 2).symm (by omega) hL ?_
  iterate 4 refine em_next rfl ?_
  refine em_sal (k := 6 * c + 3) rfl (em_nadd _ 3).symm (by omega) hL ?_
  refine em_inv_call rfl (cq_then (hC.toS hb) hC.2.2.2.2.1.1 (fun I1 a1 a2 => ?_))
  have hM1 := hM.keepC a1.hi
  iterate 1 refine em_next rfl ?_
  iterate 4 refine em_next rfl ?_
  refine em_sal (k := 6 * c + 1) rfl (em_nadd _ 1).symm (by omega) hL ?_
  iterate 4 refine em_next rfl ?_
  refine em_sal (k := 6 * c + 2) rfl (em_nadd _ 2).symm (by omega) hL ?_
  iterate 4 refine em_next rfl ?_
  refine em_sal (k := 6 * c + 3) rfl (em_nadd _ 3).symm (by omega) hL ?_
  refine em_inv_call rfl (mq_then (hM1.toS hb) hM1.2.1 (fun I2 b1 => ?_))
  iterate 1 refine em_next rfl ?_
  refine em_c_eq (fun _ => ?_) (fun z => absurd rfl z)
  exact hN I2 J lw ⟨lp, nx, lv, p, W, u, H, hl, S, T, D, Lt, tp, pc, (hC.keepW a1 a2.2.2.2.1).keepM b1.Q.lo, hM1.keepQ b1.Q, hH.mono (by omega), kc, km⟩
theorem lw_year (hL : L ≤ 3072) (hc : 6 * c + 6 ≤ L) (hB : B + 2000 < 1000000) (hB2 : 10000 ≤ B) (hJ : JI I J B) (hN : ∀ (I' : Nat → Nat → Int32) (J' : Nat → Nat → Int64) (lw : Nat), JI I' J' (B + 100) → em_wp (L, xs) 40 em_law 1314 [some (.ref 0), some (.ref 1), some (.ref 284), some (.int (nI (6 * c)))] [] (em_SH, I', J', em_RT lw) Q) : em_wp (L, xs) 40 em_law 1074 [some (.ref 0), some (.ref 1), some (.ref 284), some (.int (nI (6 * c)))] [] (em_SH, I, J, em_RT lw) Q := by
  obtain ⟨lp, nx, lv, p, W, u, H, hl, S, T, D, Lt, tp, pc, hC, hM, hH, kc, km⟩ := hJ
  have hb : W.2.1 + 1000 < 1000000 := by have := hH.1; omega
  iterate 1 refine em_next rfl ?_
  iterate 4 refine em_next rfl ?_
  refine em_sal (k := 6 * c + 1) rfl (em_nadd _ 1).symm (by omega) hL ?_
  iterate 4 refine em_next rfl ?_
  refine em_sal (k := 6 * c + 2) rfl (em_nadd _ 2).symm (by omega) hL ?_
  refine em_inv_call rfl (cq_year (hC.toS hb) hC.2.2.2.2.1.1 (fun I1 a1 a2 => ?_))
  have hM1 := hM.keepC a1.hi
  iterate 1 refine em_next rfl ?_
  iterate 4 refine em_next rfl ?_
  refine em_sal (k := 6 * c + 1) rfl (em_nadd _ 1).symm (by omega) hL ?_
  iterate 4 refine em_next rfl ?_
  refine em_sal (k := 6 * c + 2) rfl (em_nadd _ 2).symm (by omega) hL ?_
  refine em_inv_call rfl (mq_year (hM1.toS hb) hM1.2.1 (fun I2 b1 => ?_))
  iterate 1 refine em_next rfl ?_
  refine em_c_eq (fun _ => ?_) (fun z => absurd rfl z)
  exact hN I2 J lw ⟨lp, nx, lv, p, W, u, H, hl, S, T, D, Lt, tp, pc, (hC.keepW a1 a2.2.2.2.1).keepM b1.Q.lo, hM1.keepQ b1.Q, hH.mono (by omega), kc, km⟩
theorem lw_lay (hL : L ≤ 3072) (hc : 6 * c + 6 ≤ L) (hB : B + 2000 < 1000000) (hB2 : 10000 ≤ B) (hJ : JI I J B) (hN : ∀ (I' : Nat → Nat → Int32) (J' : Nat → Nat → Int64) (lw : Nat), JI I' J' (B + 100) → em_wp (L, xs) 40 em_law 1314 [some (.ref 0), some (.ref 1), some (.ref 284), some (.int (nI (6 * c)))] [] (em_SH, I', J', em_RT lw) Q) : em_wp (L, xs) 40 em_law 1179 [some (.ref 0), some (.ref 1), some (.ref 284), some (.int (nI (6 * c)))] [] (em_SH, I, J, em_RT lw) Q := by
  obtain ⟨lp, nx, lv, p, W, u, H, hl, S, T, D, Lt, tp, pc, hC, hM, hH, kc, km⟩ := hJ
  have hb : W.2.1 + 1000 < 1000000 := by have := hH.1; omega
  iterate 1 refine em_next rfl ?_
  iterate 4 refine em_next rfl ?_
  refine em_sal (k := 6 * c + 1) rfl (em_nadd _ 1).symm (by omega) hL ?_
  iterate 4 refine em_next rfl ?_
  refine em_sal (k := 6 * c + 2) rfl (em_nadd _ 2).symm (by omega) hL ?_
  refine em_inv_call rfl (cq_lay (hC.toS hb) (T := T) hC.2.2.2.2.2.2.2.1 (fun I1 a1 a2 => ?_))
  have hM1 := hM.keepC a1.hi
  iterate 1 refine em_next rfl ?_
  iterate 4 refine em_next rfl ?_
  refine em_sal (k := 6 * c + 1) rfl (em_nadd _ 1).symm (by omega) hL ?_
  iterate 4 refine em_next rfl ?_
  refine em_sal (k := 6 * c + 2) rfl (em_nadd _ 2).symm (by omega) hL ?_
  refine em_inv_call rfl (mq_lay (hM1.toS hb) (T := T) hM1.2.2.2.2.2.1 (fun I2 b1 => ?_))
  iterate 1 refine em_next rfl ?_
  refine em_c_eq (fun _ => ?_) (fun z => absurd rfl z)
  exact hN I2 J lw ⟨lp, nx, lv, p, W, u, H, hl, S, T, D, Lt, tp, pc, (hC.keepW a1 a2.2.2.2.1).keepM b1.lo, hM1.keepQ b1, hH.mono (by omega), kc, km⟩
theorem lw_look (hL : L ≤ 3072) (hc : 6 * c + 6 ≤ L) (hB : B + 2000 < 1000000) (hB2 : 10000 ≤ B) (hJ : JI I J B) (hN : ∀ (I' : Nat → Nat → Int32) (J' : Nat → Nat → Int64) (lw : Nat), JI I' J' (B + 100) → em_wp (L, xs) 40 em_law 1314 [some (.ref 0), some (.ref 1), some (.ref 284), some (.int (nI (6 * c)))] [] (em_SH, I', J', em_RT lw) Q) : em_wp (L, xs) 40 em_law 1212 [some (.ref 0), some (.ref 1), some (.ref 284), some (.int (nI (6 * c)))] [] (em_SH, I, J, em_RT lw) Q := by
  obtain ⟨lp, nx, lv, p, W, u, H, hl, S, T, D, Lt, tp, pc, hC, hM, hH, kc, km⟩ := hJ
  have hb : W.2.1 + 1000 < 1000000 := by have := hH.1; omega
  iterate 1 refine em_next rfl ?_
  iterate 4 refine em_next rfl ?_
  refine em_sal (k := 6 * c + 1) rfl (em_nadd _ 1).symm (by omega) hL ?_
  iterate 4 refine em_next rfl ?_
  refine em_sal (k := 6 * c + 2) rfl (em_nadd _ 2).symm (by omega) hL ?_
  refine em_inv_call rfl (cq_look (hC.toS hb) (T := T) hC.2.2.2.2.2.2.2.1 (fun I1 a1 a2 => ?_))
  have hM1 := hM.keepC a1.hi
  iterate 1 refine em_next rfl ?_
  iterate 4 refine em_next rfl ?_
  refine em_sal (k := 6 * c + 1) rfl (em_nadd _ 1).symm (by omega) hL ?_
  iterate 4 refine em_next rfl ?_
  refine em_sal (k := 6 * c + 2) rfl (em_nadd _ 2).symm (by omega) hL ?_
  refine em_inv_call rfl (mq_look (hM1.toS hb) (T := T) hM1.2.2.2.2.2.1 (fun I2 b1 => ?_))
  iterate 1 refine em_next rfl ?_
  refine em_c_eq (fun _ => ?_) (fun z => absurd rfl z)
  exact hN I2 J lw ⟨lp, nx, lv, p, W, u, H, hl, S, T, D, Lt, tp, pc, (hC.keepW a1 a2.2.2.2.1).keepM b1.lo, hM1.keepQ b1, hH.mono (by omega), kc, km⟩
theorem lw_count (hL : L ≤ 3072) (hc : 6 * c + 6 ≤ L) (hB : B + 2000 < 1000000) (hB2 : 10000 ≤ B) (hJ : JI I J B) (hN : ∀ (I' : Nat → Nat → Int32) (J' : Nat → Nat → Int64) (lw : Nat), JI I' J' (B + 100) → em_wp (L, xs) 40 em_law 1314 [some (.ref 0), some (.ref 1), some (.ref 284), some (.int (nI (6 * c)))] [] (em_SH, I', J', em_RT lw) Q) : em_wp (L, xs) 40 em_law 1291 [some (.ref 0), some (.ref 1), some (.ref 284), some (.int (nI (6 * c)))] [] (em_SH, I, J, em_RT lw) Q := by
  obtain ⟨lp, nx, lv, p, W, u, H, hl, S, T, D, Lt, tp, pc, hC, hM, hH, kc, km⟩ := hJ
  have hb : W.2.1 + 1000 < 1000000 := by have := hH.1; omega
  have hn : p.1 ≤ 9 := hC.1.1.1
  have ex14 : ey_sI (fun j => I 314 (36 + j)) 9 = ey_sI (eq_tn W) p.1 := by
    rw [show 9 = p.1 + (9 - p.1) by omega]
    exact sI_eq (fun j hj => (hM.2.2.1.2.1 j hj).2.2.2.2) (fun j j1 j2 => (hM.2.2.1.2.2 j j1 (by omega)).2)
  have ex16 : ey_sI (fun j => I 314 (9 + j)) 9 = ey_sI W.2.2.2.1 p.1 := by
    have g := sI_eq (f := fun j => I 314 (9 + j)) (g := W.2.2.2.1) (n := p.1) (m := 9 - p.1) (fun j hj => (hM.2.2.1.2.1 j hj).2.1) (fun j j1 j2 => (hM.2.2.1.2.2 j j1 (by omega)).1)
    rw [show p.1 + (9 - p.1) = 9 by omega] at g
    exact g
  have cx14 : ey_sI (I 46) p.1 = ey_sI (eq_tn W) p.1 := sI_eq (m := 0) (fun j hj => (hC.2.2.1.2 j hj).2.2.2) (fun j j1 j2 => by omega)
  have cx16 : ey_sI (I 44) p.1 = ey_sI W.2.2.2.1 p.1 := sI_eq (m := 0) (fun j hj => (hC.2.2.1.2 j hj).2.1) (fun j j1 j2 => by omega)
  have ch : I 42 5 - I 24 10 = nI (W.2.1 - p.2.2.2.2.2) := by
    rw [hC.2.2.1.1.2.2.1, hC.2.2.2.2.1.2]
    exact nI_subN hM.2.2.1.1.2.2.2.2
  iterate 1 refine em_next rfl ?_
  iterate 4 refine em_next rfl ?_
  refine em_sal (k := 6 * c + 1) rfl (em_nadd _ 1).symm (by omega) hL ?_
  refine em_inv_call rfl (cq_count (hC.toS hb) (hl := hl) (fun s hs => (hC.2.2.2.2.2.2.1 s hs).1) (ex := fun k => if k = 7 then nI Lt else if k = 8 then nI u else if k = 9 then nI T else if k = 10 then em_bb (hl 0) + em_bb (hl 1) + em_bb (hl 2) else if k = 11 then eq_ch W else if k = 14 then ey_sI (eq_tn W) p.1 else if k = 15 then nI (W.2.1 - p.2.2.2.2.2) else ey_sI W.2.2.2.1 p.1) hC.2.2.2.2.2.2.2.2.1.2.1.symm hC.2.2.2.2.2.1.2.2.2.1.symm hC.2.2.2.2.2.2.2.1.1.2.symm rfl hC.2.2.1.1.2.2.2.symm cx14.symm ch.symm cx16.symm (fun I1 a1 a2 => ?_))
  have hM1 := hM.keepC a1.hi
  iterate 1 refine em_next rfl ?_
  iterate 4 refine em_next rfl ?_
  refine em_sal (k := 6 * c + 1) rfl (em_nadd _ 1).symm (by omega) hL ?_
  refine em_inv_call rfl (mq_count (hM1.toS hb) (hl := hl) (fun s hs => (hM1.2.2.2.2.1 s hs).1) (ex := fun k => if k = 7 then nI Lt else if k = 8 then nI u else if k = 9 then nI T else if k = 10 then em_bb (hl 0) + em_bb (hl 1) + em_bb (hl 2) else if k = 11 then eq_ch W else if k = 14 then ey_sI (eq_tn W) p.1 else if k = 15 then nI (W.2.1 - p.2.2.2.2.2) else ey_sI W.2.2.2.1 p.1) hM1.2.2.2.2.2.2.1.2.1.symm hM1.2.2.2.1.2.1.symm hM1.2.2.2.2.2.1.1.2.symm rfl hM1.2.2.1.1.2.2.1.symm (by rw [a1.hi _ (by decide)]; exact ex14.symm) hM1.2.2.1.1.2.2.2.1.symm (by rw [a1.hi _ (by decide)]; exact ex16.symm) (fun I2 b1 => ?_))
  iterate 1 refine em_next rfl ?_
  refine em_c_eq (fun _ => ?_) (fun z => absurd rfl z)
  exact hN I2 J lw ⟨lp, nx, lv, p, W, u, H, hl, S, T, D, Lt, tp, pc, (hC.keepW a1 a2.2.2.2.1).keepM b1.Q.lo, hM1.keepQ b1.Q, hH.mono (by omega), kc, km⟩
theorem lw_feed (hL : L ≤ 3072) (hc : 6 * c + 6 ≤ L) (hB : B + 2000 < 1000000) (hB2 : 10000 ≤ B) (hJ : JI I J B) (hN : ∀ (I' : Nat → Nat → Int32) (J' : Nat → Nat → Int64) (lw : Nat), JI I' J' (B + 100) → em_wp (L, xs) 40 em_law 1314 [some (.ref 0), some (.ref 1), some (.ref 284), some (.int (nI (6 * c)))] [] (em_SH, I', J', em_RT lw) Q) : em_wp (L, xs) 40 em_law 208 [some (.ref 0), some (.ref 1), some (.ref 284), some (.int (nI (6 * c)))] [] (em_SH, I, J, em_RT lw) Q := by
  obtain ⟨lp, nx, lv, p, W, u, H, hl, S, T, D, Lt, tp, pc, hC, hM, hH, kc, km⟩ := hJ
  have hb : W.2.1 + 1000 < 1000000 := by have := hH.1; omega
  iterate 1 refine em_next rfl ?_
  iterate 4 refine em_next rfl ?_
  refine em_sal (k := 6 * c + 1) rfl (em_nadd _ 1).symm (by omega) hL ?_
  iterate 4 refine em_next rfl ?_
  refine em_sal (k := 6 * c + 2) rfl (em_nadd _ 2).symm (by omega) hL ?_
  iterate 4 refine em_next rfl ?_
  refine em_sal (k := 6 * c + 3) rfl (em_nadd _ 3).symm (by omega) hL ?_
  iterate 4 refine em_next rfl ?_
  refine em_sal (k := 6 * c + 4) rfl (em_nadd _ 4).symm (by omega) hL ?_
  iterate 4 refine em_next rfl ?_
  refine em_sal (k := 6 * c + 5) rfl (em_nadd _ 5).symm (by omega) hL ?_
  refine em_inv_call rfl (ca_feed hC (fun I1 a1 a2 a3 => ?_))
  have hM1 := hM.keepC a1
  iterate 1 refine em_next rfl ?_
  iterate 4 refine em_next rfl ?_
  refine em_sal (k := 6 * c + 1) rfl (em_nadd _ 1).symm (by omega) hL ?_
  iterate 4 refine em_next rfl ?_
  refine em_sal (k := 6 * c + 2) rfl (em_nadd _ 2).symm (by omega) hL ?_
  iterate 4 refine em_next rfl ?_
  refine em_sal (k := 6 * c + 3) rfl (em_nadd _ 3).symm (by omega) hL ?_
  iterate 4 refine em_next rfl ?_
  refine em_sal (k := 6 * c + 4) rfl (em_nadd _ 4).symm (by omega) hL ?_
  iterate 4 refine em_next rfl ?_
  refine em_sal (k := 6 * c + 5) rfl (em_nadd _ 5).symm (by omega) hL ?_
  refine em_inv_call rfl (ma_feed hM1 (fun I2 b1 b2 b3 => ?_))
  iterate 1 refine em_next rfl ?_
  refine em_c_eq (fun _ => ?_) (fun z => absurd rfl z)
  by_cases z : Lt + 20 ≤ 2000
  · exact hN I2 J lw ⟨lp, nx, lv, p, W, u, H, hl, S, T, D, Lt + 20, eb_feed tp Lt (xs (6 * c + 1)) (xs (6 * c + 2)) (xs (6 * c + 3)) (xs (6 * c + 4)) (xs (6 * c + 5)), pc, (a2 z).keepM b1, b2 z, hH.mono (by omega), kc, km⟩
  · exact hN I2 J lw ⟨lp, nx, lv, p, W, u, H, hl, S, T, D, Lt, tp, pc, (a3 z).keepM b1, b3 z, hH.mono (by omega), kc, km⟩
theorem lw_back (hL : L ≤ 3072) (hc : 6 * c + 6 ≤ L) (hB : B + 2000 < 1000000) (hB2 : 10000 ≤ B) (hJ : JI I J B) (hN : ∀ (I' : Nat → Nat → Int32) (J' : Nat → Nat → Int64) (lw : Nat), JI I' J' (B + 100) → em_wp (L, xs) 40 em_law 1314 [some (.ref 0), some (.ref 1), some (.ref 284), some (.int (nI (6 * c)))] [] (em_SH, I', J', em_RT lw) Q) : em_wp (L, xs) 40 em_law 271 [some (.ref 0), some (.ref 1), some (.ref 284), some (.int (nI (6 * c)))] [] (em_SH, I, J, em_RT lw) Q := by
  obtain ⟨lp, nx, lv, p, W, u, H, hl, S, T, D, Lt, tp, pc, hC, hM, hH, kc, km⟩ := hJ
  have hb : W.2.1 + 1000 < 1000000 := by have := hH.1; omega
  iterate 1 refine em_next rfl ?_
  iterate 4 refine em_next rfl ?_
  refine em_sal (k := 6 * c + 1) rfl (em_nadd _ 1).symm (by omega) hL ?_
  refine em_inv_call rfl (ca_back hC (fun I1 a1 a2 a3 => ?_))
  have hM1 := hM.keepC a1
  iterate 1 refine em_next rfl ?_
  iterate 4 refine em_next rfl ?_
  refine em_sal (k := 6 * c + 1) rfl (em_nadd _ 1).symm (by omega) hL ?_
  refine em_inv_call rfl (ma_back hM1 (fun I2 b1 b2 b3 => ?_))
  iterate 1 refine em_next rfl ?_
  refine em_c_eq (fun _ => ?_) (fun z => absurd rfl z)
  by_cases z : ok_bk Lt (xs (6 * c + 1))
  · exact hN I2 J lw ⟨lp, nx, lv, p, W, u, H, hl, S, T, D, Lt - (xs (6 * c + 1)).toNatClampNeg, tp, pc, (a2 z).keepM b1, b2 z, hH.mono (by omega), kc, km⟩
  · exact hN I2 J lw ⟨lp, nx, lv, p, W, u, H, hl, S, T, D, Lt, tp, pc, (a3 z).keepM b1, b3 z, hH.mono (by omega), kc, km⟩
theorem lw_place (hL : L ≤ 3072) (hc : 6 * c + 6 ≤ L) (hB : B + 2000 < 1000000) (hB2 : 10000 ≤ B) (hJ : JI I J B) (hN : ∀ (I' : Nat → Nat → Int32) (J' : Nat → Nat → Int64) (lw : Nat), JI I' J' (B + 100) → em_wp (L, xs) 40 em_law 1314 [some (.ref 0), some (.ref 1), some (.ref 284), some (.int (nI (6 * c)))] [] (em_SH, I', J', em_RT lw) Q) : em_wp (L, xs) 40 em_law 307 [some (.ref 0), some (.ref 1), some (.ref 284), some (.int (nI (6 * c)))] [] (em_SH, I, J, em_RT lw) Q := by
  obtain ⟨lp, nx, lv, p, W, u, H, hl, S, T, D, Lt, tp, pc, hC, hM, hH, kc, km⟩ := hJ
  have hb : W.2.1 + 1000 < 1000000 := by have := hH.1; omega
  iterate 1 refine em_next rfl ?_
  refine em_inv_call rfl (ca_place hC ?_)
  iterate 1 refine em_next rfl ?_
  refine em_inv_call rfl (ma_place hM ?_)
  iterate 1 refine em_next rfl ?_
  refine em_c_eq (fun _ => ?_) (fun z => absurd rfl z)
  exact hN I J lw ⟨lp, nx, lv, p, W, u, H, hl, S, T, D, Lt, tp, pc, hC, hM, hH.mono (by omega), kc, km⟩
theorem lw_turn (hL : L ≤ 3072) (hc : 6 * c + 6 ≤ L) (hB : B + 2000 < 1000000) (hB2 : 10000 ≤ B) (hJ : JI I J B) (hN : ∀ (I' : Nat → Nat → Int32) (J' : Nat → Nat → Int64) (lw : Nat), JI I' J' (B + 100) → em_wp (L, xs) 40 em_law 1314 [some (.ref 0), some (.ref 1), some (.ref 284), some (.int (nI (6 * c)))] [] (em_SH, I', J', em_RT lw) Q) : em_wp (L, xs) 40 em_law 353 [some (.ref 0), some (.ref 1), some (.ref 284), some (.int (nI (6 * c)))] [] (em_SH, I, J, em_RT lw) Q := by
  obtain ⟨lp, nx, lv, p, W, u, H, hl, S, T, D, Lt, tp, pc, hC, hM, hH, kc, km⟩ := hJ
  have hb : W.2.1 + 1000 < 1000000 := by have := hH.1; omega
  iterate 1 refine em_next rfl ?_
  iterate 4 refine em_next rfl ?_
  refine em_sal (k := 6 * c + 1) rfl (em_nadd _ 1).symm (by omega) hL ?_
  refine em_inv_call rfl (ca_turn hC (fun I1 a1 a2 a3 => ?_))
  have hM1 := hM.keepC a1
  iterate 1 refine em_next rfl ?_
  iterate 4 refine em_next rfl ?_
  refine em_sal (k := 6 * c + 1) rfl (em_nadd _ 1).symm (by omega) hL ?_
  refine em_inv_call rfl (ma_turn hM1 (fun I2 b1 b2 b3 => ?_))
  iterate 1 refine em_next rfl ?_
  refine em_c_eq (fun _ => ?_) (fun z => absurd rfl z)
  by_cases z : em_okB (eq_P p W) (xs (6 * c + 1))
  · exact hN I2 J lw ⟨lp, (nx + 1) % 40, lv, p, ew_turn (xs (6 * c + 1)).toNatClampNeg W, eh_u u, eh_H u H W, hl, S, T, D, Lt, tp, pc, (a2 z).keepM b1, b2 z, hH.push (show W.2.1 ≤ B + 100 by have := hH.1; omega) (by omega), kc, km⟩
  · exact hN I2 J lw ⟨lp, nx, lv, p, W, u, H, hl, S, T, D, Lt, tp, pc, (a3 z).keepM b1, b3 z, hH.mono (by omega), kc, km⟩
theorem lw_whistle (hL : L ≤ 3072) (hc : 6 * c + 6 ≤ L) (hB : B + 2000 < 1000000) (hB2 : 10000 ≤ B) (hJ : JI I J B) (hN : ∀ (I' : Nat → Nat → Int32) (J' : Nat → Nat → Int64) (lw : Nat), JI I' J' (B + 100) → em_wp (L, xs) 40 em_law 1314 [some (.ref 0), some (.ref 1), some (.ref 284), some (.int (nI (6 * c)))] [] (em_SH, I', J', em_RT lw) Q) : em_wp (L, xs) 40 em_law 376 [some (.ref 0), some (.ref 1), some (.ref 284), some (.int (nI (6 * c)))] [] (em_SH, I, J, em_RT lw) Q := by
  obtain ⟨lp, nx, lv, p, W, u, H, hl, S, T, D, Lt, tp, pc, hC, hM, hH, kc, km⟩ := hJ
  have hb : W.2.1 + 1000 < 1000000 := by have := hH.1; omega
  iterate 1 refine em_next rfl ?_
  refine em_inv_call rfl (ca_whistle hC (fun I1 a1 a2 a3 => ?_))
  have hM1 := hM.keepC a1
  iterate 1 refine em_next rfl ?_
  refine em_inv_call rfl (ma_whistle hM1 (fun I2 b1 b2 b3 => ?_))
  iterate 1 refine em_next rfl ?_
  refine em_c_eq (fun _ => ?_) (fun z => absurd rfl z)
  by_cases z : ¬ p.1 = 0
  · exact hN I2 J lw ⟨lp, (nx + 1) % 40, lv, p, ew_whistle p.1 W, eh_u u, eh_H u H W, hl, S, T, D, Lt, tp, pc, (a2 z).keepM b1, b2 z, hH.push (show W.2.1 ≤ B + 100 by have := hH.1; omega) (by omega), kc, km⟩
  · exact hN I2 J lw ⟨lp, nx, lv, p, W, u, H, hl, S, T, D, Lt, tp, pc, (a3 (Classical.not_not.mp z)).keepM b1, b3 (Classical.not_not.mp z), hH.mono (by omega), kc, km⟩
theorem lw_change (hL : L ≤ 3072) (hc : 6 * c + 6 ≤ L) (hB : B + 2000 < 1000000) (hB2 : 10000 ≤ B) (hJ : JI I J B) (hN : ∀ (I' : Nat → Nat → Int32) (J' : Nat → Nat → Int64) (lw : Nat), JI I' J' (B + 100) → em_wp (L, xs) 40 em_law 1314 [some (.ref 0), some (.ref 1), some (.ref 284), some (.int (nI (6 * c)))] [] (em_SH, I', J', em_RT lw) Q) : em_wp (L, xs) 40 em_law 389 [some (.ref 0), some (.ref 1), some (.ref 284), some (.int (nI (6 * c)))] [] (em_SH, I, J, em_RT lw) Q := by
  obtain ⟨lp, nx, lv, p, W, u, H, hl, S, T, D, Lt, tp, pc, hC, hM, hH, kc, km⟩ := hJ
  have hb : W.2.1 + 1000 < 1000000 := by have := hH.1; omega
  iterate 1 refine em_next rfl ?_
  iterate 4 refine em_next rfl ?_
  refine em_sal (k := 6 * c + 1) rfl (em_nadd _ 1).symm (by omega) hL ?_
  iterate 4 refine em_next rfl ?_
  refine em_sal (k := 6 * c + 2) rfl (em_nadd _ 2).symm (by omega) hL ?_
  refine em_inv_call rfl (ca_change hC (fun I1 a1 a2 a3 => ?_))
  have hM1 := hM.keepC a1
  iterate 1 refine em_next rfl ?_
  iterate 4 refine em_next rfl ?_
  refine em_sal (k := 6 * c + 1) rfl (em_nadd _ 1).symm (by omega) hL ?_
  iterate 4 refine em_next rfl ?_
  refine em_sal (k := 6 * c + 2) rfl (em_nadd _ 2).symm (by omega) hL ?_
  refine em_inv_call rfl (ma_change hM1 (fun I2 b1 b2 b3 => ?_))
  iterate 1 refine em_next rfl ?_
  refine em_c_eq (fun _ => ?_) (fun z => absurd rfl z)
  by_cases z : ok_ch p W (xs (6 * c + 1)) (xs (6 * c + 2))
  · exact hN I2 J lw ⟨lp, (nx + 1) % 40, lv, p, ew_change (xs (6 * c + 1)).toNatClampNeg (xs (6 * c + 2)).toNatClampNeg W, eh_u u, eh_H u H W, hl, S, T, D, Lt, tp, pc, (a2 z).keepM b1, b2 z, hH.push (show W.2.1 ≤ B + 100 by have := hH.1; omega) (by omega), kc, km⟩
  · exact hN I2 J lw ⟨lp, nx, lv, p, W, u, H, hl, S, T, D, Lt, tp, pc, (a3 z).keepM b1, b3 z, hH.mono (by omega), kc, km⟩
theorem lw_hours (hL : L ≤ 3072) (hc : 6 * c + 6 ≤ L) (hB : B + 2000 < 1000000) (hB2 : 10000 ≤ B) (hJ : JI I J B) (hN : ∀ (I' : Nat → Nat → Int32) (J' : Nat → Nat → Int64) (lw : Nat), JI I' J' (B + 100) → em_wp (L, xs) 40 em_law 1314 [some (.ref 0), some (.ref 1), some (.ref 284), some (.int (nI (6 * c)))] [] (em_SH, I', J', em_RT lw) Q) : em_wp (L, xs) 40 em_law 422 [some (.ref 0), some (.ref 1), some (.ref 284), some (.int (nI (6 * c)))] [] (em_SH, I, J, em_RT lw) Q := by
  obtain ⟨lp, nx, lv, p, W, u, H, hl, S, T, D, Lt, tp, pc, hC, hM, hH, kc, km⟩ := hJ
  have hb : W.2.1 + 1000 < 1000000 := by have := hH.1; omega
  iterate 1 refine em_next rfl ?_
  iterate 4 refine em_next rfl ?_
  refine em_sal (k := 6 * c + 1) rfl (em_nadd _ 1).symm (by omega) hL ?_
  refine em_inv_call rfl (ca_hours hC hb (fun I1 a1 a2 a3 => ?_))
  have hM1 := hM.keepC a1
  iterate 1 refine em_next rfl ?_
  iterate 4 refine em_next rfl ?_
  refine em_sal (k := 6 * c + 1) rfl (em_nadd _ 1).symm (by omega) hL ?_
  refine em_inv_call rfl (ma_hours hM1 hb (fun I2 b1 b2 b3 => ?_))
  iterate 1 refine em_next rfl ?_
  refine em_c_eq (fun _ => ?_) (fun z => absurd rfl z)
  by_cases z : em_ok 0 48 (xs (6 * c + 1)) ∧ ¬ (xs (6 * c + 1)) = 0
  · exact hN I2 J lw ⟨lp, (nx + 1) % 40, lv, p, ew_hours p (xs (6 * c + 1)).toNatClampNeg W, eh_u u, eh_H u H W, hl, S, T, D, Lt, tp, pc, (a2 z).keepM b1, b2 z, hH.push (show (em_it (eq_P p W) false p.2.2.2.2.1 (xs (6 * c + 1)).toNatClampNeg (eq_X W)).2.1 ≤ B + 100 by rw [em_it_h]; have h1 := hH.1; have h2 := ok_le (m := 48) (by decide) z.1; show W.2.1 + (xs (6 * c + 1)).toNatClampNeg ≤ B + 100; omega) (by omega), kc, km⟩
  · exact hN I2 J lw ⟨lp, nx, lv, p, W, u, H, hl, S, T, D, Lt, tp, pc, (a3 z).keepM b1, b3 z, hH.mono (by omega), kc, km⟩
theorem lw_undo (hL : L ≤ 3072) (hc : 6 * c + 6 ≤ L) (hB : B + 2000 < 1000000) (hB2 : 10000 ≤ B) (hJ : JI I J B) (hN : ∀ (I' : Nat → Nat → Int32) (J' : Nat → Nat → Int64) (lw : Nat), JI I' J' (B + 100) → em_wp (L, xs) 40 em_law 1314 [some (.ref 0), some (.ref 1), some (.ref 284), some (.int (nI (6 * c)))] [] (em_SH, I', J', em_RT lw) Q) : em_wp (L, xs) 40 em_law 445 [some (.ref 0), some (.ref 1), some (.ref 284), some (.int (nI (6 * c)))] [] (em_SH, I, J, em_RT lw) Q := by
  obtain ⟨lp, nx, lv, p, W, u, H, hl, S, T, D, Lt, tp, pc, hC, hM, hH, kc, km⟩ := hJ
  have hb : W.2.1 + 1000 < 1000000 := by have := hH.1; omega
  iterate 1 refine em_next rfl ?_
  refine em_inv_call rfl (ca_undo hC (fun I1 nx1 a1 a2 a3 => ?_))
  have hM1 := hM.keepC a1
  iterate 1 refine em_next rfl ?_
  refine em_inv_call rfl (ma_undo hM1 (fun I2 b1 b2 b3 => ?_))
  iterate 1 refine em_next rfl ?_
  refine em_c_eq (fun _ => ?_) (fun z => absurd rfl z)
  by_cases z : ¬ u = 0
  · exact hN I2 J lw ⟨lp, nx1, lv, p, H (u - 1), u - 1, H, hl, S, T, D, Lt, tp, pc, (a2 z).keepM b1, b2 z, ⟨Nat.le_trans (hH.2.1 (u - 1) (by omega)) (by omega), fun i hi => Nat.le_trans (hH.2.1 i (by omega)) (by omega), fun s hs y => Nat.le_trans (hH.2.2 s hs y) (by omega)⟩, kc, km⟩
  · exact hN I2 J lw ⟨lp, nx1, lv, p, W, u, H, hl, S, T, D, Lt, tp, pc, (a3 (Classical.not_not.mp z)).keepM b1, b3 (Classical.not_not.mp z), hH.mono (by omega), kc, km⟩
theorem lw_hold (hL : L ≤ 3072) (hc : 6 * c + 6 ≤ L) (hB : B + 2000 < 1000000) (hB2 : 10000 ≤ B) (hJ : JI I J B) (hN : ∀ (I' : Nat → Nat → Int32) (J' : Nat → Nat → Int64) (lw : Nat), JI I' J' (B + 100) → em_wp (L, xs) 40 em_law 1314 [some (.ref 0), some (.ref 1), some (.ref 284), some (.int (nI (6 * c)))] [] (em_SH, I', J', em_RT lw) Q) : em_wp (L, xs) 40 em_law 1245 [some (.ref 0), some (.ref 1), some (.ref 284), some (.int (nI (6 * c)))] [] (em_SH, I, J, em_RT lw) Q := by
  obtain ⟨lp, nx, lv, p, W, u, H, hl, S, T, D, Lt, tp, pc, hC, hM, hH, kc, km⟩ := hJ
  have hb : W.2.1 + 1000 < 1000000 := by have := hH.1; omega
  iterate 1 refine em_next rfl ?_
  iterate 4 refine em_next rfl ?_
  refine em_sal (k := 6 * c + 1) rfl (em_nadd _ 1).symm (by omega) hL ?_
  refine em_inv_call rfl (ca_hold hC (fun I1 a1 a2 a3 => ?_))
  have hM1 := hM.keepC a1
  iterate 1 refine em_next rfl ?_
  iterate 4 refine em_next rfl ?_
  refine em_sal (k := 6 * c + 1) rfl (em_nadd _ 1).symm (by omega) hL ?_
  refine em_inv_call rfl (ma_hold hM1 (fun I2 b1 b2 b3 => ?_))
  iterate 1 refine em_next rfl ?_
  refine em_c_eq (fun _ => ?_) (fun z => absurd rfl z)
  by_cases z : em_ok 0 2 (xs (6 * c + 1))
  · exact hN I2 J lw ⟨lp, nx, lv, p, W, u, H, eh_l hl (xs (6 * c + 1)).toNatClampNeg, eh_S S W (xs (6 * c + 1)).toNatClampNeg, T, D, Lt, tp, pc, (a2 z).keepM b1, b2 z, ⟨Nat.le_trans hH.1 (by omega), fun i hi => Nat.le_trans (hH.2.1 i hi) (by omega), fun s hs y => by
      unfold eh_S
      unfold eh_l at y
      by_cases e : s = (xs (6 * c + 1)).toNatClampNeg
      · rw [if_pos e]; exact Nat.le_trans hH.1 (by omega)
      · rw [if_neg e] at y ⊢; exact Nat.le_trans (hH.2.2 s hs y) (by omega)⟩, kc, km⟩
  · exact hN I2 J lw ⟨lp, nx, lv, p, W, u, H, hl, S, T, D, Lt, tp, pc, (a3 z).keepM b1, b3 z, hH.mono (by omega), kc, km⟩
theorem lw_restore (hL : L ≤ 3072) (hc : 6 * c + 6 ≤ L) (hB : B + 2000 < 1000000) (hB2 : 10000 ≤ B) (hJ : JI I J B) (hN : ∀ (I' : Nat → Nat → Int32) (J' : Nat → Nat → Int64) (lw : Nat), JI I' J' (B + 100) → em_wp (L, xs) 40 em_law 1314 [some (.ref 0), some (.ref 1), some (.ref 284), some (.int (nI (6 * c)))] [] (em_SH, I', J', em_RT lw) Q) : em_wp (L, xs) 40 em_law 1268 [some (.ref 0), some (.ref 1), some (.ref 284), some (.int (nI (6 * c)))] [] (em_SH, I, J, em_RT lw) Q := by
  obtain ⟨lp, nx, lv, p, W, u, H, hl, S, T, D, Lt, tp, pc, hC, hM, hH, kc, km⟩ := hJ
  have hb : W.2.1 + 1000 < 1000000 := by have := hH.1; omega
  iterate 1 refine em_next rfl ?_
  iterate 4 refine em_next rfl ?_
  refine em_sal (k := 6 * c + 1) rfl (em_nadd _ 1).symm (by omega) hL ?_
  refine em_inv_call rfl (ca_restore hC (fun I1 a1 a2 a3 => ?_))
  have hM1 := hM.keepC a1
  iterate 1 refine em_next rfl ?_
  iterate 4 refine em_next rfl ?_
  refine em_sal (k := 6 * c + 1) rfl (em_nadd _ 1).symm (by omega) hL ?_
  refine em_inv_call rfl (ma_restore hM1 (fun I2 b1 b2 b3 => ?_))
  iterate 1 refine em_next rfl ?_
  refine em_c_eq (fun _ => ?_) (fun z => absurd rfl z)
  by_cases z : ok_rs hl (xs (6 * c + 1))
  · exact hN I2 J lw ⟨lp, nx, lv, p, S (xs (6 * c + 1)).toNatClampNeg, 0, H, hl, S, T, D, Lt, tp, pc, (a2 z).keepM b1, b2 z, ⟨Nat.le_trans (hH.2.2 _ (by have := ok_le (m := 2) (by decide) z.1; omega) z.2) (by omega), fun i hi => absurd hi (Nat.not_lt_zero _), fun s hs y => Nat.le_trans (hH.2.2 s hs y) (by omega)⟩, kc, km⟩
  · exact hN I2 J lw ⟨lp, nx, lv, p, W, u, H, hl, S, T, D, Lt, tp, pc, (a3 z).keepM b1, b3 z, hH.mono (by omega), kc, km⟩
theorem lw_forget (hL : L ≤ 3072) (hc : 6 * c + 6 ≤ L) (hB : B + 2000 < 1000000) (hB2 : 10000 ≤ B) (hJ : JI I J B) (hN : ∀ (I' : Nat → Nat → Int32) (J' : Nat → Nat → Int64) (lw : Nat), JI I' J' (B + 100) → em_wp (L, xs) 40 em_law 1314 [some (.ref 0), some (.ref 1), some (.ref 284), some (.int (nI (6 * c)))] [] (em_SH, I', J', em_RT lw) Q) : em_wp (L, xs) 40 em_law 1166 [some (.ref 0), some (.ref 1), some (.ref 284), some (.int (nI (6 * c)))] [] (em_SH, I, J, em_RT lw) Q := by
  obtain ⟨lp, nx, lv, p, W, u, H, hl, S, T, D, Lt, tp, pc, hC, hM, hH, kc, km⟩ := hJ
  have hb : W.2.1 + 1000 < 1000000 := by have := hH.1; omega
  iterate 1 refine em_next rfl ?_
  refine em_inv_call rfl (ca_forget hC (fun I1 a1 a2 => ?_))
  have hM1 := hM.keepC a1
  iterate 1 refine em_next rfl ?_
  refine em_inv_call rfl (ma_forget hM1 (fun I2 b1 b2 => ?_))
  iterate 1 refine em_next rfl ?_
  refine em_c_eq (fun _ => ?_) (fun z => absurd rfl z)
  exact hN I2 J lw ⟨lp, nx, lv, p, W, u, H, hl, S, 0, D, Lt, tp, pc, a2.keepM b1, b2, hH.mono (by omega), kc, km⟩
theorem lw_tell (hL : L ≤ 3072) (hc : 6 * c + 6 ≤ L) (hB : B + 2000 < 1000000) (hB2 : 10000 ≤ B) (hJ : JI I J B) (hN : ∀ (I' : Nat → Nat → Int32) (J' : Nat → Nat → Int64) (lw : Nat), JI I' J' (B + 100) → em_wp (L, xs) 40 em_law 1314 [some (.ref 0), some (.ref 1), some (.ref 284), some (.int (nI (6 * c)))] [] (em_SH, I', J', em_RT lw) Q) : em_wp (L, xs) 40 em_law 1107 [some (.ref 0), some (.ref 1), some (.ref 284), some (.int (nI (6 * c)))] [] (em_SH, I, J, em_RT lw) Q := by
  obtain ⟨lp, nx, lv, p, W, u, H, hl, S, T, D, Lt, tp, pc, hC, hM, hH, kc, km⟩ := hJ
  have hb : W.2.1 + 1000 < 1000000 := by have := hH.1; omega
  by_cases hz : xs (6 * c + 3) = 0
  · iterate 1 refine em_next rfl ?_
    iterate 4 refine em_next rfl ?_
    refine em_sal (k := 6 * c + 1) rfl (em_nadd _ 1).symm (by omega) hL ?_
    iterate 4 refine em_next rfl ?_
    refine em_sal (k := 6 * c + 2) rfl (em_nadd _ 2).symm (by omega) hL ?_
    iterate 4 refine em_next rfl ?_
    refine em_sal (k := 6 * c + 3) rfl (em_nadd _ 3).symm (by omega) hL ?_
    iterate 1 refine em_next rfl ?_
    refine em_z_eq (fun q => ?_) (fun q => absurd hz q)
    iterate 1 refine em_next rfl ?_
    refine em_inv_call rfl (ca_tell (l := false) hC (fun I1 a1 a2 a3 => ?_))
    have hM1 := hM.keepC a1
    iterate 1 refine em_next rfl ?_
    iterate 4 refine em_next rfl ?_
    refine em_sal (k := 6 * c + 1) rfl (em_nadd _ 1).symm (by omega) hL ?_
    iterate 4 refine em_next rfl ?_
    refine em_sal (k := 6 * c + 2) rfl (em_nadd _ 2).symm (by omega) hL ?_
    iterate 4 refine em_next rfl ?_
    refine em_sal (k := 6 * c + 3) rfl (em_nadd _ 3).symm (by omega) hL ?_
    iterate 1 refine em_next rfl ?_
    refine em_z_eq (fun q => ?_) (fun q => absurd hz q)
    iterate 1 refine em_next rfl ?_
    refine em_inv_call rfl (ma_tell (l := false) hM1 (fun I2 b1 b2 b3 => ?_))
    iterate 1 refine em_next rfl ?_
    refine em_c_eq (fun _ => ?_) (fun z => absurd rfl z)
    by_cases z : ok_tl p W T (xs (6 * c + 1)) (xs (6 * c + 2))
    · exact hN I2 J lw ⟨lp, nx, lv, p, W, u, H, hl, S, T + 1, ed_tl D T (xs (6 * c + 1)).toNatClampNeg (xs (6 * c + 2)).toNatClampNeg false, Lt, tp, pc, (a2 z).keepM b1, b2 z, hH.mono (by omega), kc, km⟩
    · exact hN I2 J lw ⟨lp, nx, lv, p, W, u, H, hl, S, T, D, Lt, tp, pc, (a3 z).keepM b1, b3 z, hH.mono (by omega), kc, km⟩
  · iterate 1 refine em_next rfl ?_
    iterate 4 refine em_next rfl ?_
    refine em_sal (k := 6 * c + 1) rfl (em_nadd _ 1).symm (by omega) hL ?_
    iterate 4 refine em_next rfl ?_
    refine em_sal (k := 6 * c + 2) rfl (em_nadd _ 2).symm (by omega) hL ?_
    iterate 4 refine em_next rfl ?_
    refine em_sal (k := 6 * c + 3) rfl (em_nadd _ 3).symm (by omega) hL ?_
    iterate 1 refine em_next rfl ?_
    refine em_z_eq (fun q => absurd q hz) (fun q => ?_)
    iterate 2 refine em_next rfl ?_
    refine em_inv_call rfl (ca_tell (l := true) hC (fun I1 a1 a2 a3 => ?_))
    have hM1 := hM.keepC a1
    iterate 1 refine em_next rfl ?_
    iterate 4 refine em_next rfl ?_
    refine em_sal (k := 6 * c + 1) rfl (em_nadd _ 1).symm (by omega) hL ?_
    iterate 4 refine em_next rfl ?_
    refine em_sal (k := 6 * c + 2) rfl (em_nadd _ 2).symm (by omega) hL ?_
    iterate 4 refine em_next rfl ?_
    refine em_sal (k := 6 * c + 3) rfl (em_nadd _ 3).symm (by omega) hL ?_
    iterate 1 refine em_next rfl ?_
    refine em_z_eq (fun q => absurd q hz) (fun q => ?_)
    iterate 2 refine em_next rfl ?_
    refine em_inv_call rfl (ma_tell (l := true) hM1 (fun I2 b1 b2 b3 => ?_))
    iterate 1 refine em_next rfl ?_
    refine em_c_eq (fun _ => ?_) (fun z => absurd rfl z)
    by_cases z : ok_tl p W T (xs (6 * c + 1)) (xs (6 * c + 2))
    · exact hN I2 J lw ⟨lp, nx, lv, p, W, u, H, hl, S, T + 1, ed_tl D T (xs (6 * c + 1)).toNatClampNeg (xs (6 * c + 2)).toNatClampNeg true, Lt, tp, pc, (a2 z).keepM b1, b2 z, hH.mono (by omega), kc, km⟩
    · exact hN I2 J lw ⟨lp, nx, lv, p, W, u, H, hl, S, T, D, Lt, tp, pc, (a3 z).keepM b1, b3 z, hH.mono (by omega), kc, km⟩
theorem lw_read (hL : L ≤ 3072) (hc : 6 * c + 6 ≤ L) (hB : B + 2000 < 1000000) (hB2 : 10000 ≤ B) (hJ : JI I J B) (hN : ∀ (I' : Nat → Nat → Int32) (J' : Nat → Nat → Int64) (lw : Nat), JI I' J' (B + 100) → em_wp (L, xs) 40 em_law 1314 [some (.ref 0), some (.ref 1), some (.ref 284), some (.int (nI (6 * c)))] [] (em_SH, I', J', em_RT lw) Q) : em_wp (L, xs) 40 em_law 294 [some (.ref 0), some (.ref 1), some (.ref 284), some (.int (nI (6 * c)))] [] (em_SH, I, J, em_RT lw) Q := by
  obtain ⟨lp, nx, lv, p, W, u, H, hl, S, T, D, Lt, tp, pc, hC, hM, hH, kc, km⟩ := hJ
  have hb : W.2.1 + 1000 < 1000000 := by have := hH.1; omega
  have hlv : lv < 2 := hM.1.1.1
  have he : ∀ e, tl_read (bt tp) Lt = .inl e → 1 ≤ e.1 ∧ e.1 < 9 := fun e hr => by
    have g := ma_read (d := 0) (lw := 0) (Q := fun _ _ => 1 ≤ e.1 ∧ e.1 < 9) hlv hM km (by rw [hr]; exact fun I' J' _ _ _ _ g => g)
    obtain ⟨n, r, M', _, g⟩ := g
    exact g
  have hs : ∀ s, tl_read (bt tp) Lt = .inr s → tl_v s ∧ tl_g s := fun s hr => by
    have g := ma_read (d := 0) (lw := 0) (Q := fun _ _ => tl_v s ∧ tl_g s) hlv hM km (by rw [hr]; exact fun I' J' _ _ _ _ g1 g2 => ⟨g1, g2⟩)
    obtain ⟨n, r, M', _, g⟩ := g
    exact g
  iterate 1 refine em_next rfl ?_
  refine em_inv_call rfl (ca_read (d := 14) hC kc he hs ?_)
  cases hr : tl_read (bt tp) Lt with
  | inl e =>
    intro I1 J1 lw1 a1 a2 a3 a4
    have km1 : mk_J J1 := fun k hk => by rw [a2 _ (by decide)]; exact km k hk
    iterate 1 refine em_next rfl ?_
    refine em_inv_call rfl (ma_read hlv (hM.keepC a1) km1 ?_)
    rw [hr]
    intro I2 J2 b1 b2 b3 b4 b5
    iterate 1 refine em_next rfl ?_
    refine em_c_eq (fun _ => ?_) (fun z => absurd rfl z)
    have kc2 : ck_J J2 := fun k hk => by rw [b2 _ (by decide)]; exact a3 k hk
    exact hN I2 J2 lw1 ⟨lp, nx, lv, p, W, u, H, hl, S, T, D, 0, tp, nI e.2, a4.keepM b1, b4, hH.mono (by omega), kc2, b3⟩
  | inr s =>
    intro I1 J1 lw1 a1 a2 a3 a4
    have km1 : mk_J J1 := fun k hk => by rw [a2 _ (by decide)]; exact km k hk
    have bg := (hs s hr).1.1
    iterate 1 refine em_next rfl ?_
    refine em_inv_call rfl (ma_read hlv (hM.keepC a1) km1 ?_)
    rw [hr]
    intro I2 J2 b1 b2 b3 b4 b5 b6
    iterate 1 refine em_next rfl ?_
    refine em_c_eq (fun _ => ?_) (fun z => absurd rfl z)
    have kc2 : ck_J J2 := fun k hk => by rw [b2 _ (by decide)]; exact a3 k hk
    exact hN I2 J2 lw1 ⟨llp (s.F 0), nx, 1 - lv, rp s, rW s, 0, H, fun _ => false, S, 0, D, 0, tp, -1, a4.keepM b1, b4, ⟨show s.bg ≤ B + 100 by omega, fun i hi => absurd hi (Nat.not_lt_zero _), fun i hi e => absurd (show false = true from e) (by decide)⟩, kc2, b3⟩
theorem and63 (x : Int32) : ∃ v : Nat, v < 64 ∧ x &&& 63 = nI v := by
  refine ⟨(x &&& 63).toBitVec.toNat, ?_, ?_⟩
  · rw [Int32.toBitVec_and]
    show (x.toBitVec &&& 63#32).toNat < 64
    rw [BitVec.toNat_and]
    have : x.toBitVec.toNat &&& (63#32).toNat ≤ 63 := Nat.and_le_right
    omega
  · refine Int32.toBitVec_inj.mp ?_
    show (x &&& 63).toBitVec = BitVec.ofNat 32 (x &&& 63).toBitVec.toNat
    rw [BitVec.ofNat_toNat, BitVec.setWidth_eq]
theorem sub6 : ∀ n, n < 6 → nI n - 6 < 0 := by decide
theorem lw_loop {m : Nat} (hL : L ≤ 3072) (hm : L < 6 * (c + m) + 6) (hcm : c + m ≤ 512) (hJ : JI I J (10000 + 100 * c)) (hQ : ∀ (I' : Nat → Nat → Int32) (J' : Nat → Nat → Int64) (lw : Nat), Q (some (.int 1)) (em_SH, I', J', em_RT lw)) : em_wp (L, xs) 40 em_law 18 [some (.ref 0), some (.ref 1), some (.ref 284), some (.int (nI (6 * c)))] [] (em_SH, I, J, em_RT lw) Q := by
  induction m generalizing c I J lw with
  | zero =>
    iterate 6 refine em_next rfl ?_
    have key : nI L - 6 < nI (6 * c) := by
      by_cases e : L < 6
      · have h1 := sub6 L e
        rw [Int32.lt_iff_toInt_lt] at h1 ⊢
        rw [nI_toInt (by omega)]
        have : (0 : Int32).toInt = 0 := rfl
        omega
      · rw [show (6 : Int32) = nI 6 from rfl, nI_subN (by omega)]
        exact nI_lt (by omega) (by omega)
    refine em_c_gtE (x' := nI (6 * c)) rfl (y' := nI L - 6) rfl (fun _ => ?_) (fun z => absurd key z)
    iterate 1 refine em_next rfl ?_
    exact em_done rfl (hQ I J lw)
  | succ m ih =>
    iterate 6 refine em_next rfl ?_
    by_cases e : L < 6 * c + 6
    · have key : nI L - 6 < nI (6 * c) := by
        by_cases e : L < 6
        · have h1 := sub6 L e
          rw [Int32.lt_iff_toInt_lt] at h1 ⊢
          rw [nI_toInt (by omega)]
          have : (0 : Int32).toInt = 0 := rfl
          omega
        · rw [show (6 : Int32) = nI 6 from rfl, nI_subN (by omega)]
          exact nI_lt (by omega) (by omega)
      refine em_c_gtE (x' := nI (6 * c)) rfl (y' := nI L - 6) rfl (fun _ => ?_) (fun z => absurd key z)
      iterate 1 refine em_next rfl ?_
      exact em_done rfl (hQ I J lw)
    have key : ¬ nI L - 6 < nI (6 * c) := by
      rw [show (6 : Int32) = nI 6 from rfl, nI_subN (by omega)]
      exact nI_nlt (by omega) (by omega)
    refine em_c_gtE (x' := nI (6 * c)) rfl (y' := nI L - 6) rfl (fun z => absurd z key) (fun _ => ?_)
    have hc : 6 * c + 6 ≤ L := by omega
    have hN : ∀ (I' : Nat → Nat → Int32) (J' : Nat → Nat → Int64) (lw : Nat), JI I' J' (10000 + 100 * c + 100) → em_wp (L, xs) 40 em_law 1314 [some (.ref 0), some (.ref 1), some (.ref 284), some (.int (nI (6 * c)))] [] (em_SH, I', J', em_RT lw) Q := fun I' J' lw hj => by
      have g := ih (c := c + 1) (I := I') (J := J') (lw := lw) (by omega) (by omega) (by rw [show 10000 + 100 * (c + 1) = 10000 + 100 * c + 100 by omega]; exact hj)
      have e6 : nI (6 * c) + Int32.ofInt 6 = nI (6 * (c + 1)) := by
        rw [show 6 * (c + 1) = 6 * c + 6 by omega]
        exact (em_nadd (6 * c) 6).symm
      iterate 2 refine em_next rfl ?_
      show em_wp (L, xs) 40 em_law 18 [some (.ref 0), some (.ref 1), some (.ref 284), some (.int (nI (6 * c) + Int32.ofInt 6))] [] _ _
      rw [e6]
      exact g
    have hB : 10000 + 100 * c + 2000 < 1000000 := by omega
    have hB2 : 10000 ≤ 10000 + 100 * c := by omega
    iterate 2 refine em_next rfl ?_
    refine em_sal (k := 6 * c) rfl rfl (by omega) hL ?_
    iterate 2 refine em_next rfl ?_
    obtain ⟨v, hv, ev⟩ := and63 (xs (6 * c))
    refine em_tp (y := nI v) ev ?_
    by_cases h40 : 40 ≤ v
    · refine em_tsd rfl (Or.inr (by rw [nI_toInt (by omega)]; omega)) ?_
      obtain ⟨lp, nx, lv, p, W, u, H, hl, S, T, D, Lt, tp, pc, hC, hM, hH, kc, km⟩ := hJ
      exact hN I J lw ⟨lp, nx, lv, p, W, u, H, hl, S, T, D, Lt, tp, pc, hC, hM, hH.mono (by omega), kc, km⟩
    rcases (show v = 0 ∨ v = 1 ∨ v = 2 ∨ v = 3 ∨ v = 4 ∨ v = 5 ∨ v = 6 ∨ v = 7 ∨ v = 8 ∨ v = 9 ∨ v = 10 ∨ v = 11 ∨ v = 12 ∨ v = 13 ∨ v = 14 ∨ v = 15 ∨ v = 16 ∨ v = 17 ∨ v = 18 ∨ v = 19 ∨ v = 20 ∨ v = 21 ∨ v = 22 ∨ v = 23 ∨ v = 24 ∨ v = 25 ∨ v = 26 ∨ v = 27 ∨ v = 28 ∨ v = 29 ∨ v = 30 ∨ v = 31 ∨ v = 32 ∨ v = 33 ∨ v = 34 ∨ v = 35 ∨ v = 36 ∨ v = 37 ∨ v = 38 ∨ v = 39 by omega) with rfl | rfl | rfl | rfl | rfl | rfl | rfl | rfl | rfl | rfl | rfl | rfl | rfl | rfl | rfl | rfl | rfl | rfl | rfl | rfl | rfl | rfl | rfl | rfl | rfl | rfl | rfl | rfl | rfl | rfl | rfl | rfl | rfl | rfl | rfl | rfl | rfl | rfl | rfl | rfl
    · iterate 1 refine em_next rfl ?_
      exact lw_feed hL hc hB hB2 hJ hN
    · iterate 1 refine em_next rfl ?_
      exact lw_back hL hc hB hB2 hJ hN
    · iterate 1 refine em_next rfl ?_
      exact lw_read hL hc hB hB2 hJ hN
    · iterate 1 refine em_next rfl ?_
      exact lw_place hL hc hB hB2 hJ hN
    · iterate 1 refine em_next rfl ?_
      exact lw_sleeper hL hc hB hB2 hJ hN
    · iterate 1 refine em_next rfl ?_
      exact lw_turn hL hc hB hB2 hJ hN
    · iterate 1 refine em_next rfl ?_
      exact lw_whistle hL hc hB hB2 hJ hN
    · iterate 1 refine em_next rfl ?_
      exact lw_change hL hc hB hB2 hJ hN
    · iterate 1 refine em_next rfl ?_
      exact lw_hours hL hc hB hB2 hJ hN
    · iterate 1 refine em_next rfl ?_
      exact lw_undo hL hc hB hB2 hJ hN
    · iterate 1 refine em_next rfl ?_
      exact lw_after hL hc hB hB2 hJ hN
    · iterate 1 refine em_next rfl ?_
      exact lw_turned hL hc hB hB2 hJ hN
    · iterate 1 refine em_next rfl ?_
      exact lw_soonest hL hc hB hB2 hJ hN
    · iterate 1 refine em_next rfl ?_
      exact lw_spread hL hc hB hB2 hJ hN
    · iterate 1 refine em_next rfl ?_
      exact lw_leads hL hc hB hB2 hJ hN
    · iterate 1 refine em_next rfl ?_
      exact lw_turnTo hL hc hB hB2 hJ hN
    · iterate 1 refine em_next rfl ?_
      exact lw_round hL hc hB hB2 hJ hN
    · iterate 1 refine em_next rfl ?_
      exact lw_rule hL hc hB hB2 hJ hN
    · iterate 1 refine em_next rfl ?_
      exact lw_coldest hL hc hB hB2 hJ hN
    · iterate 1 refine em_next rfl ?_
      exact lw_run hL hc hB hB2 hJ hN
    · iterate 1 refine em_next rfl ?_
      exact lw_unlike hL hc hB hB2 hJ hN
    · iterate 1 refine em_next rfl ?_
      exact lw_eden hL hc hB hB2 hJ hN
    · iterate 1 refine em_next rfl ?_
      exact lw_duel hL hc hB hB2 hJ hN
    · iterate 1 refine em_next rfl ?_
      exact lw_sentry hL hc hB hB2 hJ hN
    · iterate 1 refine em_next rfl ?_
      exact lw_parting hL hc hB hB2 hJ hN
    · iterate 1 refine em_next rfl ?_
      exact lw_shows hL hc hB hB2 hJ hN
    · iterate 1 refine em_next rfl ?_
      exact lw_still hL hc hB hB2 hJ hN
    · iterate 1 refine em_next rfl ?_
      exact lw_again hL hc hB hB2 hJ hN
    · iterate 1 refine em_next rfl ?_
      exact lw_worst hL hc hB hB2 hJ hN
    · iterate 1 refine em_next rfl ?_
      exact lw_changeBest hL hc hB hB2 hJ hN
    · iterate 1 refine em_next rfl ?_
      exact lw_leave hL hc hB hB2 hJ hN
    · iterate 1 refine em_next rfl ?_
      exact lw_then hL hc hB hB2 hJ hN
    · iterate 1 refine em_next rfl ?_
      exact lw_year hL hc hB hB2 hJ hN
    · iterate 1 refine em_next rfl ?_
      exact lw_tell hL hc hB hB2 hJ hN
    · iterate 1 refine em_next rfl ?_
      exact lw_forget hL hc hB hB2 hJ hN
    · iterate 1 refine em_next rfl ?_
      exact lw_lay hL hc hB hB2 hJ hN
    · iterate 1 refine em_next rfl ?_
      exact lw_look hL hc hB hB2 hJ hN
    · iterate 1 refine em_next rfl ?_
      exact lw_hold hL hc hB hB2 hJ hN
    · iterate 1 refine em_next rfl ?_
      exact lw_restore hL hc hB hB2 hJ hN
    · iterate 1 refine em_next rfl ?_
      exact lw_count hL hc hB hB2 hJ hN
end LAW
