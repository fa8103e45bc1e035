/-! the reference: what is done -/
def eh_u (u : Nat) : Nat := if u = 40 then 40 else u + 1
def eh_H (u : Nat) (H : Nat → em_Wt) (W : em_Wt) (i : Nat) : em_Wt := if i + 1 = eh_u u then W else if u = 40 then H (i + 1) else H i
theorem em_idx (i c k : Nat) : nI c * nI i + nI k = nI (c * i + k) := by rw [em_nadd, em_nmul]
section MCH
variable {d lw lv : Nat} {p : em_Pn} {W W' : em_Wt} {u : Nat} {H : Nat → em_Wt} {hl : Nat → Bool} {S : Nat → em_Wt} {T : Nat} {D : em_Td} {L : Nat} {tp : Nat → Int32} {pc : Int32} {I I0 : Nat → Nat → Int32} {J : Nat → Nat → Int64} {Q : Option Value → em_M → Prop} {B : Nat}
theorem em_ialE {sc : Nat × (Nat → Int32)} {ix pc nx : Nat} {lc : em_L} {r : List Value} {S : List (Nat × Nat)} {R : Nat → Nat → Option Nat} {i : Int32} {a n k : Nat} (hi : em_ins ix pc = some (.iaload, nx)) (hs : S[a]? = some (20, n)) (he : i = nI k) (hk : k < n) (hn : n < 2 ^ 31) (kk : em_wp sc d ix nx lc (.int (I a k) :: r) (S, I, J, R) Q) : em_wp sc d ix pc lc (.int i :: .ref a :: r) (S, I, J, R) Q := by
  subst he
  exact em_ialn hi hs hk hn kk
theorem em_iasE {sc : Nat × (Nat → Int32)} {ix pc nx : Nat} {lc : em_L} {r : List Value} {S : List (Nat × Nat)} {R : Nat → Nat → Option Nat} {i x : Int32} {a n k : Nat} (hi : em_ins ix pc = some (.iastore, nx)) (hs : S[a]? = some (20, n)) (he : i = nI k) (hk : k < n) (hn : n < 2 ^ 31) (kk : em_wp sc d ix nx lc r (S, em_u I a k x, J, R) Q) : em_wp sc d ix pc lc (.int x :: .int i :: .ref a :: r) (S, I, J, R) Q := by
  subst he
  exact em_iasn hi hs hk hn kk
theorem em_idxE {i k : Nat} {a : Int32} {c : Nat} (h : a = nI i) : nI c * a + nI k = nI (c * i + k) := by rw [h]; exact em_idx i c k
theorem em_idxF {k : Nat} {c : Nat} : nI c + nI k = nI (c + k) := (em_nadd c k).symm
theorem me_rec_1 {k m : Nat} (hk : k + m = 1872) (h0 : ∀ c, c ≠ 318 → I c = I0 c) (h1 : ∀ j, j < k → I 318 j = I0 318 (j + 48)) (h2 : ∀ j, k ≤ j → I 318 j = I0 318 j) (h : ∀ I' : Nat → Nat → Int32, (∀ c, c ≠ 318 → I' c = I0 c) → (∀ j, j < 1872 → I' 318 j = I0 318 (j + 48)) → em_wp em_sc0 (d + 1) 227 39 [some (.ref 284), some (.int (nI 1872))] [] (em_SH, I', J, em_RT lw) Q) : em_wp em_sc0 (d + 1) 227 11 [some (.ref 284), some (.int (nI k))] [] (em_SH, I, J, em_RT lw) Q := by
  induction m generalizing k I with
  | zero =>
    have e : k = 1872 := by omega
    subst e
    iterate 3 refine em_next rfl ?_
    refine em_c_ge (fun _ => ?_) (fun h1 => absurd (by decide) h1)
    exact h I h0 h1
  | succ m ih =>
    iterate 3 refine em_next rfl ?_
    refine em_c_ge (fun h1 => absurd h1 (nI_ge (b := 1872) (by omega) (by decide))) (fun _ => ?_)
    iterate 8 refine em_next rfl ?_
    refine em_ialE (k := k + 48) rfl rfl (em_nadd k 48).symm (by omega) (by decide) ?_
    refine em_iasn rfl rfl (by omega) (by decide) ?_
    iterate 2 refine em_next rfl ?_
    have g := ih (k := k + 1) (I := em_u I 318 k (I 318 (k + 48))) (by omega) (fun c hc => by rw [em_u_row hc]; exact h0 c hc) (fun j hj => by
      by_cases e : j = k
      · subst e
        rw [em_u_self]
        exact h2 _ (by omega)
      · rw [em_u_ne e]
        exact h1 j (by omega)) (fun j hj => by
      rw [em_u_ne (by omega)]
      exact h2 j (by omega))
    rw [nI_succ] at g
    exact g
theorem me_rec_2 {u1 k m : Nat} (hu : u1 < 40) (hU : I0 284 53 = nI u1) (hk : k + m = 48) (h0 : ∀ c, c ≠ 318 → I c = I0 c) (h1 : ∀ j, j < k → I 318 (48 * u1 + j) = I0 314 j) (h2 : ∀ j, ¬ (48 * u1 ≤ j ∧ j < 48 * u1 + k) → I 318 j = I0 318 j) (h : ∀ I' : Nat → Nat → Int32, (∀ c, c ≠ 318 → I' c = I0 c) → (∀ j, j < 48 → I' 318 (48 * u1 + j) = I0 314 j) → (∀ j, ¬ (48 * u1 ≤ j ∧ j < 48 * u1 + 48) → I' 318 j = I0 318 j) → em_wp em_sc0 (d + 1) 227 83 [some (.ref 284), some (.int (nI 48))] [] (em_SH, I', J, em_RT lw) Q) : em_wp em_sc0 (d + 1) 227 51 [some (.ref 284), some (.int (nI k))] [] (em_SH, I, J, em_RT lw) Q := by
  induction m generalizing k I with
  | zero =>
    have e : k = 48 := by omega
    subst e
    iterate 3 refine em_next rfl ?_
    refine em_c_ge (fun _ => ?_) (fun h1 => absurd (by decide) h1)
    exact h I h0 h1 h2
  | succ m ih =>
    have hU1 : I 284 53 = nI u1 := by rw [h0 _ (by decide)]; exact hU
    iterate 3 refine em_next rfl ?_
    refine em_c_ge (fun h1 => absurd h1 (nI_ge (b := 48) (by omega) (by decide))) (fun _ => ?_)
    iterate 11 refine em_next rfl ?_
    refine em_ialn rfl rfl (by omega) (by decide) ?_
    refine em_iasE (k := 48 * u1 + k) rfl rfl (em_idxE (c := 48) hU1) (by omega) (by decide) ?_
    iterate 2 refine em_next rfl ?_
    have g := ih (k := k + 1) (I := em_u I 318 (48 * u1 + k) (I 314 k)) (by omega) (fun c hc => by rw [em_u_row hc]; exact h0 c hc) (fun j hj => by
      by_cases e : j = k
      · subst e
        rw [em_u_self, h0 _ (by decide)]
      · rw [em_u_ne (by omega)]
        exact h1 j (by omega)) (fun j hj => by
      rw [em_u_ne (by omega)]
      exact h2 j (by omega))
    rw [nI_succ] at g
    exact g
theorem me_rec_3 {u1 : Nat} (hu : u1 < 40) (hU : I 284 53 = nI u1) (h : ∀ I' : Nat → Nat → Int32, (∀ c, c ∉ [284, 318, 314] → I' c = I c) → (∀ j, j ≠ 53 → I' 284 j = I 284 j) → I' 284 53 = nI (u1 + 1) → (∀ j, j < 48 → I' 314 j = I 315 j) → (∀ j, j < 48 → I' 318 (48 * u1 + j) = I 314 j) → (∀ j, ¬ (48 * u1 ≤ j ∧ j < 48 * u1 + 48) → I' 318 j = I 318 j) → Q none (em_SH, I', J, em_RT lw)) : em_wp em_sc0 (d + 1) 227 51 [some (.ref 284), some (.int (0))] [] (em_SH, I, J, em_RT lw) Q := by
  refine me_rec_2 (u1 := u1) (k := 0) (m := 48) (I0 := I) hu hU (by omega) (fun _ _ => rfl) (fun j hj => absurd hj (Nat.not_lt_zero _)) (fun _ _ => rfl) (fun I1 a1 a2 a3 => ?_)
  iterate 7 refine em_next rfl ?_
  show em_wp em_sc0 (d + 1) 227 _ _ _ (em_SH, em_u I1 284 53 (I1 284 53 + 1), J, em_RT lw) Q
  refine em_inv_call rfl (me_keepsRow ?_)
  refine em_done rfl ?_
  refine h _ (fun c hc => ?_) (fun j hj => ?_) ?_ (fun j hj => ?_) (fun j hj => ?_) (fun j hj => ?_)
  · rw [em_cpr_row (fun q => hc (by rw [q]; decide)), em_u_row (fun q => hc (by rw [q]; decide))]
    exact a1 c (fun q => hc (by rw [q]; decide))
  · rw [em_cpr_row (by decide), em_u_ne hj, a1 _ (by decide)]
  · rw [em_cpr_row (by decide), em_u_self, a1 _ (by decide), hU, nI_succ]
  · rw [em_cpr_at hj, em_u_row (by decide), a1 _ (by decide)]
  · rw [em_cpr_row (by decide), em_u_row (by decide)]
    exact a2 j hj
  · rw [em_cpr_row (by decide), em_u_row (by decide)]
    exact a3 j hj
theorem me_records (hu : u ≤ 40) (hU : I 284 53 = nI u) (h : ∀ I' : Nat → Nat → Int32, (∀ c, c ∉ [284, 318, 314] → I' c = I c) → (∀ j, j ≠ 53 → I' 284 j = I 284 j) → I' 284 53 = nI (eh_u u) → (∀ j, j < 48 → I' 314 j = I 315 j) → (∀ i, i < eh_u u → ∀ j, j < 48 → I' 318 (48 * i + j) = if i + 1 = eh_u u then I 314 j else if u = 40 then I 318 (48 * (i + 1) + j) else I 318 (48 * i + j)) → Q none (em_SH, I', J, em_RT lw)) : em_call (d + 1) 227 [.ref 284] (em_SH, I, J, em_RT lw) Q := by
  iterate 4 refine em_next rfl ?_
  refine em_c_neE hU (y' := nI 40) rfl (fun q => ?_) (fun q => ?_)
  · have q2 : ¬ u = 40 := fun e => q (by rw [e])
    have eu : eh_u u = u + 1 := if_neg q2
    rw [eu] at h
    iterate 2 refine em_next rfl ?_
    refine me_rec_3 (u1 := u) (by omega) hU (fun I' b1 b2 b3 b4 b5 b6 => h I' b1 b2 b3 b4 (fun i hi j hj => ?_))
    by_cases e : i = u
    · subst e
      rw [if_pos rfl]
      exact b5 j hj
    · rw [if_neg (by omega), if_neg q2]
      exact b6 _ (by omega)
  · have q2 : u = 40 := (nI_eq (by omega) (by decide)).mp q
    subst q2
    have eu : eh_u 40 = 40 := rfl
    rw [eu] at h
    iterate 2 refine em_next rfl ?_
    refine me_rec_1 (k := 0) (m := 1872) (I0 := I) (by omega) (fun _ _ => rfl) (fun j hj => absurd hj (Nat.not_lt_zero _)) (fun _ _ => rfl) (fun I1 a1 a2 => ?_)
    iterate 8 refine em_next rfl ?_
    show em_wp em_sc0 (d + 1) 227 _ _ _ (em_SH, em_u I1 284 53 (I1 284 53 - 1), J, em_RT lw) Q
    refine me_rec_3 (u1 := 39) (by decide) (by rw [em_u_self, a1 _ (by decide), hU]; rfl) (fun I' b1 b2 b3 b4 b5 b6 => h I' (fun c hc => ?_) (fun j hj => ?_) b3 (fun j hj => ?_) (fun i hi j hj => ?_))
    · rw [b1 c hc, em_u_row (fun q => hc (by rw [q]; decide))]
      exact a1 c (fun q => hc (by rw [q]; decide))
    · rw [b2 j hj, em_u_ne hj, a1 _ (by decide)]
    · rw [b4 j hj, em_u_row (by decide), a1 _ (by decide)]
    · by_cases e : i = 39
      · subst e
        rw [if_pos rfl, b5 j hj, em_u_row (by decide), a1 _ (by decide)]
      · rw [if_neg (by omega), if_pos rfl, b6 _ (by omega), em_u_row (by decide), a2 _ (by omega)]
        congr 1
        omega
theorem ma_records (hM : MI I lv p W u H hl S T D L tp pc) (hr : mr (I 315) p.1 p.2.2.2.2.2 W') (h : ∀ I' : Nat → Nat → Int32, (∀ a, a < 284 → I' a = I a) → MI I' lv p W' (eh_u u) (eh_H u H W) hl S T D L tp pc → Q none (em_SH, I', J, em_RT lw)) : em_call (d + 1) 227 [.ref 284] (em_SH, I, J, em_RT lw) Q := by
  obtain ⟨h1, h2, h3, ⟨h4, h5, h6⟩, h7, h8, h9, h10⟩ := hM
  have hn := h1.1.2.1
  refine me_records h4 h5 (fun I' b1 b2 b3 b4 b5 => h I' (fun a ha => b1 a (by simp; omega)) ⟨h1.keepG (b2 _ (by decide)) (fun a ha => b1 a (by revert a; decide)), by rw [b1 _ (by decide)]; exact h2, hr.keep hn b4, ⟨by unfold eh_u; split <;> omega, b3, fun i hi => ?_⟩, ?_, ?_, ?_, (b2 _ (by decide)).trans h10⟩)
  · unfold eh_H
    by_cases e : i + 1 = eh_u u
    · rw [if_pos e]
      exact h3.keep hn (fun j hj => by rw [b5 i hi j hj, if_pos e])
    · rw [if_neg e]
      by_cases e2 : u = 40
      · rw [if_pos e2]
        have hi2 : i + 1 < u := by unfold eh_u at hi e; rw [if_pos e2] at hi e; omega
        exact (h6 (i + 1) hi2).keep hn (fun j hj => by rw [b5 i hi j hj, if_neg e, if_pos e2])
      · rw [if_neg e2]
        have hi2 : i < u := by unfold eh_u at hi e; rw [if_neg e2] at hi e; omega
        exact (h6 i hi2).keep hn (fun j hj => by rw [b5 i hi j hj, if_neg e, if_neg e2])
  · rw [b1 326 (by decide), b1 327 (by decide)]
    exact h7
  · unfold mo_T
    rw [b1 322 (by decide), b1 323 (by decide), b1 324 (by decide), b2 _ (by decide)]
    exact h8
  · rw [b1 285 (by decide), b2 _ (by decide)]
    exact h9
def ew_turn (b : Nat) (W : em_Wt) : em_Wt := (W.1 ^^^ 2 ^ b, W.2.1, W.2.2.1, W.2.2.2.1, eq_nm W, (fun j => if j = b then eq_tn W j + 1 else eq_tn W j), eq_ch W)
def ew_whistle (n : Nat) (W : em_Wt) : em_Wt := (W.1 ^^^ (2 ^ n - 1), W.2.1, W.2.2.1, W.2.2.2.1, eq_nm W, eq_tn W, eq_ch W)
def ew_change (a b : Nat) (W : em_Wt) : em_Wt := (em_swr W.1 a b, W.2.1, ey_sw W.2.2.1 a b, ey_sw W.2.2.2.1 a b, ey_sw (eq_nm W) a b, ey_sw (eq_tn W) a b, eq_ch W)
def ew_hours (p : em_Pn) (m : Nat) (W : em_Wt) : em_Wt := ((em_it (eq_P p W) false p.2.2.2.2.1 m (eq_X W)).1, (em_it (eq_P p W) false p.2.2.2.2.1 m (eq_X W)).2.1, (em_it (eq_P p W) false p.2.2.2.2.1 m (eq_X W)).2.2, W.2.2.2.1, eq_nm W, eq_tn W, eq_ch W + nI (em_chn (eq_P p W) false p.2.2.2.2.1 m (eq_X W)))
theorem em_bit_flip (r b : Nat) : em_bit (r ^^^ 2 ^ b) b = 1 - em_bit r b := by
  rw [em_bit_bb, em_bit_bb, Nat.testBit_xor, Nat.testBit_two_pow_self]
  cases r.testBit b <;> rfl
theorem em_bit_keep {r b j : Nat} (h : j ≠ b) : em_bit (r ^^^ 2 ^ b) j = em_bit r j := by
  rw [em_bit_bb, em_bit_bb, Nat.testBit_xor, Nat.testBit_two_pow_of_ne (fun e => h e.symm), Bool.xor_false]
theorem em_bit_all {r n j : Nat} (h : j < n) : em_bit (r ^^^ (2 ^ n - 1)) j = 1 - em_bit r j := by
  rw [em_bit_bb, em_bit_bb, Nat.testBit_xor, Nat.testBit_two_pow_sub_one, decide_eq_true h]
  cases r.testBit j <;> rfl
theorem mc_copies (hM : MI I lv p W u H hl S T D L tp pc) (h : ∀ I' : Nat → Nat → Int32, em_fM I I' → MI I' lv p W u H hl S T D L tp pc → mr (I' 315) p.1 p.2.2.2.2.2 W → I' 284 49 = p.2.2.2.2.1 → I' 284 50 = 0 → Q none (em_SH, I', J, em_RT lw)) : em_call d 209 [.ref 284] (em_SH, I, J, em_RT lw) Q := me_copies hM.1 (fun I1 a1 a2 a3 a4 => h I1 a1 (hM.keepQ a1.Q) (hM.2.2.1.keep hM.1.1.2.1 a2) (a3.trans hM.2.1) a4)
theorem em_fM.lo {I I' : Nat → Nat → Int32} (e : em_fM I I') : ∀ a, a < 284 → I' a = I a := em_fQ.lo e.Q
theorem ma_turn (hM : MI I lv p W u H hl S T D L tp pc) {b : Int32} (h : ∀ I' : Nat → Nat → Int32, (∀ a, a < 284 → I' a = I a) → (em_okB (eq_P p W) b → MI I' lv p (ew_turn b.toNatClampNeg W) (eh_u u) (eh_H u H W) hl S T D L tp pc) → (¬ em_okB (eq_P p W) b → MI I' lv p W u H hl S T D L tp pc) → Q (some (.int (em_bo (em_okB (eq_P p W) b)))) (em_SH, I', J, em_RT lw)) : em_call (d + 3) 228 [.ref 284, .int b] (em_SH, I, J, em_RT lw) Q := by
  have hn := hM.1.1.2.1
  iterate 2 refine em_next rfl ?_
  refine em_inv_call rfl (me_isBed hM.1 ?_)
  iterate 1 refine em_next rfl ?_
  refine em_b_ne (fun g => ?_) (fun g => ?_)
  · obtain ⟨s, hs, rfl, es⟩ := em_bedN hn g
    iterate 1 refine em_next rfl ?_
    refine em_inv_call rfl (mc_copies hM (fun I1 a1 a2 a3 _ _ => ?_))
    iterate 7 refine em_next rfl ?_
    refine em_ialn rfl rfl (by omega) (by decide) ?_
    iterate 1 refine em_next rfl ?_
    refine em_iasn rfl rfl (by omega) (by decide) ?_
    iterate 6 refine em_next rfl ?_
    refine em_ialE (k := 36 + s) rfl rfl (em_idxF (c := 36)) (by omega) (by decide) ?_
    iterate 2 refine em_next rfl ?_
    refine em_iasE (k := 36 + s) rfl rfl (em_idxF (c := 36)) (by omega) (by decide) ?_
    have hr1 : ∀ c, c ≠ 315 → em_u (em_u I1 315 s (1 - I1 315 s)) 315 (36 + s) (em_u I1 315 s (1 - I1 315 s) 315 (36 + s) + 1) c = I1 c := fun c hc => by rw [em_u_row hc, em_u_row hc]
    show em_wp em_sc0 (d + 3) 228 _ _ _ (em_SH, em_u (em_u I1 315 s (1 - I1 315 s)) 315 (36 + s) (em_u I1 315 s (1 - I1 315 s) 315 (36 + s) + 1), J, em_RT lw) Q
    iterate 1 refine em_next rfl ?_
    refine em_inv_call rfl (ma_records (W' := ew_turn s W) (a2.keepQ (em_fQ.row (a := 315) (by decide) hr1)) ?_ (fun I' b1 b2 => ?_))
    · obtain ⟨⟨m1, m2, m3, m4, m5⟩, m6, m7⟩ := a3
      have k1 : ∀ j, j ≠ s → j ≠ 36 + s → em_u (em_u I1 315 s (1 - I1 315 s)) 315 (36 + s) (em_u I1 315 s (1 - I1 315 s) 315 (36 + s) + 1) 315 j = I1 315 j := fun j h1 h2 => by rw [em_u_ne h2, em_u_ne h1]
      refine ⟨⟨Nat.xor_lt_two_pow m1 (Nat.pow_lt_pow_right (by decide) hs), by rw [k1 _ (by omega) (by omega)]; exact m2, by rw [k1 _ (by omega) (by omega)]; exact m3, by rw [k1 _ (by omega) (by omega)]; exact m4, m5⟩, fun c hc => ⟨?_, ?_, ?_, ?_, ?_⟩, fun c hc hc2 => ⟨?_, ?_⟩⟩
      · by_cases e : c = s
        · subst e
          rw [em_u_ne (by omega), em_u_self, (m6 c hc).1]
          exact (em_bit_flip _ _).symm
        · rw [k1 _ (by omega) (by omega), (m6 c hc).1]
          exact (em_bit_keep e).symm
      · rw [k1 _ (by omega) (by omega)]; exact (m6 c hc).2.1
      · rw [k1 _ (by omega) (by omega)]; exact (m6 c hc).2.2.1
      · rw [k1 _ (by omega) (by omega)]; exact (m6 c hc).2.2.2.1
      · by_cases e : c = s
        · subst e
          rw [em_u_self, em_u_ne (by omega), (m6 c hc).2.2.2.2]
          show _ = if c = c then eq_tn W c + 1 else eq_tn W c
          rw [if_pos rfl]
        · rw [k1 _ (by omega) (by omega), (m6 c hc).2.2.2.2]
          show _ = if c = s then eq_tn W c + 1 else eq_tn W c
          rw [if_neg e]
      · rw [k1 _ (by omega) (by omega)]; exact (m7 c hc hc2).1
      · rw [k1 _ (by omega) (by omega)]; exact (m7 c hc hc2).2
    iterate 1 refine em_next rfl ?_
    have g2 := h I' (fun a ha => by rw [b1 a ha, hr1 a (by omega), a1.lo a ha]) (fun _ => by rw [es]; exact b2) (fun z => absurd g z)
    rw [em_bo_t g] at g2
    exact em_done rfl g2
  · iterate 1 refine em_next rfl ?_
    have g2 := h I (fun _ _ => rfl) (fun z => absurd z g) (fun _ => hM)
    rw [em_bo_f g] at g2
    exact em_done rfl g2
theorem me_whistle_l (hM : MI I lv p W u H hl S T D L tp pc) {k m : Nat} (hk : k + m = p.1) (h0 : ∀ c, c ≠ 315 → I c = I0 c) (h1 : ∀ j, j < k → I 315 j = 1 - I0 315 j) (h2 : ∀ j, k ≤ j → I 315 j = I0 315 j) (h : ∀ I' : Nat → Nat → Int32, (∀ c, c ≠ 315 → I' c = I0 c) → (∀ j, j < p.1 → I' 315 j = 1 - I0 315 j) → (∀ j, p.1 ≤ j → I' 315 j = I0 315 j) → em_wp em_sc0 (d + 2) 229 43 [some (.ref 284), some (.int (nI p.1))] [] (em_SH, I', J, em_RT lw) Q) : em_wp em_sc0 (d + 2) 229 15 [some (.ref 284), some (.int (nI k))] [] (em_SH, I, J, em_RT lw) Q := by
  have hn := hM.1.1.2.1
  induction m generalizing k I with
  | zero =>
    have e : k = p.1 := by omega
    subst e
    iterate 2 refine em_next rfl ?_
    refine em_inv_call rfl (me_many hM.1 ?_)
    iterate 1 refine em_next rfl ?_
    refine em_c_ge (fun _ => ?_) (fun h1 => absurd (nI_le (Nat.le_refl _) (by omega)) h1)
    exact h I h0 h1 h2
  | succ m ih =>
    iterate 2 refine em_next rfl ?_
    refine em_inv_call rfl (me_many hM.1 ?_)
    iterate 1 refine em_next rfl ?_
    refine em_c_ge (fun h1 => absurd h1 (nI_ge (by omega) (by omega))) (fun _ => ?_)
    iterate 7 refine em_next rfl ?_
    refine em_ialn rfl rfl (by omega) (by decide) ?_
    iterate 1 refine em_next rfl ?_
    refine em_iasn rfl rfl (by omega) (by decide) ?_
    iterate 2 refine em_next rfl ?_
    have g := ih (k := k + 1) (I := em_u I 315 k (1 - I 315 k)) (hM.keepQ (em_fQ.row (a := 315) (by decide) (fun c hc => em_u_row hc))) (by omega) (fun c hc => by rw [em_u_row hc]; exact h0 c hc) (fun j hj => by
      by_cases e : j = k
      · subst e
        rw [em_u_self, h2 j (by omega)]
      · rw [em_u_ne e]
        exact h1 j (by omega)) (fun j hj => by rw [em_u_ne (by omega)]; exact h2 j (by omega))
    rw [nI_succ] at g
    exact g
theorem ma_whistle (hM : MI I lv p W u H hl S T D L tp pc) (h : ∀ I' : Nat → Nat → Int32, (∀ a, a < 284 → I' a = I a) → (¬ p.1 = 0 → MI I' lv p (ew_whistle p.1 W) (eh_u u) (eh_H u H W) hl S T D L tp pc) → (p.1 = 0 → MI I' lv p W u H hl S T D L tp pc) → Q (some (.int (em_bo (¬ p.1 = 0)))) (em_SH, I', J, em_RT lw)) : em_call (d + 3) 229 [.ref 284] (em_SH, I, J, em_RT lw) Q := by
  have hn := hM.1.1.2.1
  iterate 1 refine em_next rfl ?_
  refine em_inv_call rfl (me_many hM.1 ?_)
  iterate 1 refine em_next rfl ?_
  refine em_z_ne (fun g => ?_) (fun g => ?_)
  · have g0 : ¬ p.1 = 0 := fun e => g (by rw [e]; rfl)
    iterate 1 refine em_next rfl ?_
    refine em_inv_call rfl (mc_copies hM (fun I1 a1 a2 a3 _ _ => ?_))
    iterate 2 refine em_next rfl ?_
    refine me_whistle_l (d := d + 1) (k := 0) (m := p.1) (I0 := I1) a2 (by omega) (fun _ _ => rfl) (fun j hj => absurd hj (Nat.not_lt_zero _)) (fun _ _ => rfl) (fun I2 b1 b2 b3 => ?_)
    iterate 1 refine em_next rfl ?_
    refine em_inv_call rfl (ma_records (W' := ew_whistle p.1 W) (a2.keepQ (em_fQ.row (a := 315) (by decide) b1)) ?_ (fun I' c1 c2 => ?_))
    · obtain ⟨⟨m1, m2, m3, m4, m5⟩, m6, m7⟩ := a3
      refine ⟨⟨Nat.xor_lt_two_pow m1 (by have := Nat.two_pow_pos p.1; omega), by rw [b3 _ (by omega)]; exact m2, by rw [b3 _ (by omega)]; exact m3, by rw [b3 _ (by omega)]; exact m4, m5⟩, fun c hc => ⟨?_, ?_, ?_, ?_, ?_⟩, fun c hc hc2 => ⟨?_, ?_⟩⟩
      · rw [b2 c hc, (m6 c hc).1]
        exact (em_bit_all hc).symm
      · rw [b3 _ (by omega)]; exact (m6 c hc).2.1
      · rw [b3 _ (by omega)]; exact (m6 c hc).2.2.1
      · rw [b3 _ (by omega)]; exact (m6 c hc).2.2.2.1
      · rw [b3 _ (by omega)]; exact (m6 c hc).2.2.2.2
      · rw [b3 _ (by omega)]; exact (m7 c hc hc2).1
      · rw [b3 _ (by omega)]; exact (m7 c hc hc2).2
    iterate 1 refine em_next rfl ?_
    have g2 := h I' (fun a ha => by rw [c1 a ha, b1 a (by omega), a1.lo a ha]) (fun _ => c2) (fun z => absurd z g0)
    rw [em_bo_t g0] at g2
    exact em_done rfl g2
  · have g0 : p.1 = 0 := (nI_eq (b := 0) (by omega) (by decide)).mp g
    iterate 1 refine em_next rfl ?_
    have g2 := h I (fun _ _ => rfl) (fun z => absurd g0 z) (fun _ => hM)
    rw [em_bo_f (fun z => z g0)] at g2
    exact em_done rfl g2
end MCH
