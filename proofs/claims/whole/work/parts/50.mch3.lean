/-! the reference: what is done, three: held, fed -/
def fb (w : Int32) (k : Int32) : Int32 := vp_nar .byte ((w >>> (k &&& 31)).toInt8.toInt32)
def eb_put (g : Nat → Int32) (L : Nat) (w : Int32) (j : Nat) : Int32 := if j = L then fb w 24 else if j = L + 1 then fb w 16 else if j = L + 2 then fb w 8 else if j = L + 3 then fb w 0 else g j
def eb_feed (g : Nat → Int32) (L : Nat) (a b c d e : Int32) : Nat → Int32 := eb_put (eb_put (eb_put (eb_put (eb_put g L a) (L + 4) b) (L + 8) c) (L + 12) d) (L + 16) e
section MCH3
variable {d lw lv : Nat} {p : em_Pn} {W W' : em_Wt} {u : Nat} {H : Nat → em_Wt} {hl : Nat → Bool} {S : Nat → em_Wt} {T : Nat} {D : em_Td} {L : Nat} {tp : Nat → Int32} {pc : Int32} {I I0 : Nat → Nat → Int32} {J : Nat → Nat → Int64} {Q : Option Value → em_M → Prop} {B : Nat}
theorem em_bysE {sc : Nat × (Nat → Int32)} {ix pc nx : Nat} {lc : em_L} {r : List Value} {S : List (Nat × Nat)} {R : Nat → Nat → Option Nat} {i x : Int32} {a n k : Nat} (hi : em_ins ix pc = some (.bastore, nx)) (hs : S[a]? = some (21, n)) (he : i = nI k) (hk : k < n) (hn : n < 2 ^ 31) (kk : em_wp sc d ix nx lc r (S, em_u I a k (vp_nar .byte x), J, R) Q) : em_wp sc d ix pc lc (.int x :: .int i :: .ref a :: r) (S, I, J, R) Q := by
  subst he
  have hin := em_in_n hk hn
  have hc := nI_clamp (n := k) (by omega)
  refine em_next ?_ kk
  unfold em_stp
  rw [hi]
  unfold em_do
  dsimp only
  rw [hs]
  dsimp only
  rw [if_pos ⟨Or.inl rfl, hin⟩, if_pos rfl, hc]
  rfl
theorem em_balE {sc : Nat × (Nat → Int32)} {ix pc nx : Nat} {lc : em_L} {r : List Value} {S : List (Nat × Nat)} {R : Nat → Nat → Option Nat} {i : Int32} {a n k kd : Nat} (hi : em_ins ix pc = some (.baload, nx)) (hs : S[a]? = some (kd, n)) (hkd : kd = 21 ∨ kd = 22) (he : i = nI k) (hk : k < n) (hn : n < 2 ^ 31) (kk : em_wp sc d ix nx lc (.int (I a k) :: r) (S, I, J, R) Q) : em_wp sc d ix pc lc (.int i :: .ref a :: r) (S, I, J, R) Q := by
  subst he
  have hin := em_in_n hk hn
  have hc := nI_clamp (n := k) (by omega)
  refine em_next ?_ kk
  unfold em_stp
  rw [hi]
  unfold em_do
  dsimp only
  rw [hs]
  dsimp only
  rw [if_pos ⟨hkd, hin⟩, hc]
theorem me_put {w : Int32} (hL : I 284 2 = nI L) (hl : L + 4 ≤ 2000) (h : ∀ I' : Nat → Nat → Int32, (∀ c, c ≠ 284 → c ≠ 285 → I' c = I c) → (∀ j, j ≠ 2 → I' 284 j = I 284 j) → I' 284 2 = nI (L + 4) → (∀ j, I' 285 j = eb_put (I 285) L w j) → Q none (em_SH, I', J, em_RT lw)) : em_call d 169 [.ref 284, .int w] (em_SH, I, J, em_RT lw) Q := by
  have step : ∀ (I : Nat → Nat → Int32) (k k' : Int32) (L : Nat), ¬ k < 0 → k + Int32.ofInt (-8) = k' → L < 2000 → I 284 2 = nI L → em_wp em_sc0 d 169 3 [some (.ref 284), some (.int (w)), some (.int (k'))] [] (em_SH, em_u (em_u I 285 L (fb w k)) 284 2 (nI (L + 1)), J, em_RT lw) Q → em_wp em_sc0 d 169 3 [some (.ref 284), some (.int (w)), some (.int (k))] [] (em_SH, I, J, em_RT lw) Q := fun I k k' L hk hk' hL hT hn => by
    iterate 2 refine em_next rfl ?_
    refine em_z_lt (fun q => absurd q hk) (fun _ => ?_)
    iterate 8 refine em_next rfl ?_
    refine em_bysE (k := L) rfl rfl hT (by omega) (by decide) ?_
    iterate 5 refine em_next rfl ?_
    refine em_tp (y := nI (L + 1)) ?_ ?_
    · show I 284 2 + 1 = nI (L + 1)
      rw [hT, nI_succ]
    iterate 3 refine em_next rfl ?_
    rw [← hk'] at hn
    exact hn
  iterate 2 refine em_next rfl ?_
  refine step I 24 16 L (by decide) (by decide) (by omega) hL ?_
  refine step _ 16 8 (L + 1) (by decide) (by decide) (by omega) em_u_self ?_
  refine step _ 8 0 (L + 2) (by decide) (by decide) (by omega) em_u_self ?_
  refine step _ 0 (-8) (L + 3) (by decide) (by decide) (by omega) em_u_self ?_
  iterate 2 refine em_next rfl ?_
  refine em_z_lt (fun _ => ?_) (fun q => absurd (by decide) q)
  refine em_done rfl ?_
  refine h _ (fun c h1 h2 => ?_) (fun j hj => ?_) em_u_self (fun j => ?_)
  · rw [em_u_row h1, em_u_row h2, em_u_row h1, em_u_row h2, em_u_row h1, em_u_row h2, em_u_row h1, em_u_row h2]
  · rw [em_u_ne hj, em_u_row (by decide), em_u_ne hj, em_u_row (by decide), em_u_ne hj, em_u_row (by decide), em_u_ne hj, em_u_row (by decide)]
  · unfold eb_put
    rw [em_u_row (by decide)]
    by_cases e3 : j = L + 3
    · subst e3
      rw [em_u_self, if_neg (by omega), if_neg (by omega), if_neg (by omega), if_pos rfl]
    · rw [em_u_ne e3, em_u_row (by decide)]
      by_cases e2 : j = L + 2
      · subst e2
        rw [em_u_self, if_neg (by omega), if_neg (by omega), if_pos rfl]
      · rw [em_u_ne e2, em_u_row (by decide)]
        by_cases e1 : j = L + 1
        · subst e1
          rw [em_u_self, if_neg (by omega), if_pos rfl]
        · rw [em_u_ne e1, em_u_row (by decide)]
          by_cases e0 : j = L
          · subst e0
            rw [em_u_self, if_pos rfl]
          · rw [em_u_ne e0, if_neg e0, if_neg e1, if_neg e2, if_neg e3]
theorem eb_put_lo {g : Nat → Int32} {L j : Nat} {w : Int32} (h : j < L) : eb_put g L w j = g j := by
  unfold eb_put
  rw [if_neg (by omega), if_neg (by omega), if_neg (by omega), if_neg (by omega)]
theorem eb_put_congr {g g' : Nat → Int32} {L : Nat} {w : Int32} (h : ∀ j, j < L → g j = g' j) : ∀ j, j < L + 4 → eb_put g L w j = eb_put g' L w j := fun j hj => by
  unfold eb_put
  split
  · rfl
  · split
    · rfl
    · split
      · rfl
      · split
        · rfl
        · exact h j (by omega)
theorem ma_feed (hM : MI I lv p W u H hl S T D L tp pc) {a b c e f : Int32} (h : ∀ I' : Nat → Nat → Int32, (∀ a, a < 284 → I' a = I a) → (L + 20 ≤ 2000 → MI I' lv p W u H hl S T D (L + 20) (eb_feed tp L a b c e f) pc) → (¬ L + 20 ≤ 2000 → MI I' lv p W u H hl S T D L tp pc) → Q (some (.int (if L + 20 ≤ 2000 then nI (L + 20) else -1))) (em_SH, I', J, em_RT lw)) : em_call (d + 1) 168 [.ref 284, .int a, .int b, .int c, .int e, .int f] (em_SH, I, J, em_RT lw) Q := by
  obtain ⟨h1, h2, h3, ⟨h4, h5, h6⟩, h7, h8, ⟨l1, l2, l3⟩, h10⟩ := id hM
  iterate 6 refine em_next rfl ?_
  refine em_c_leE (x' := nI (L + 20)) (y' := nI 2000) ?_ rfl (fun g => ?_) (fun g => ?_)
  · show I 284 2 + nI 20 = nI (L + 20)
    rw [l2, em_nadd]
  · have g0 : L + 20 ≤ 2000 := (nI_leI (by omega) (by decide)).mp g
    rw [if_pos g0] at h
    iterate 2 refine em_next rfl ?_
    refine em_inv_call rfl (me_put l2 (by omega) (fun I1 a1 a2 a3 a4 => ?_))
    iterate 2 refine em_next rfl ?_
    refine em_inv_call rfl (me_put a3 (by omega) (fun I2 b1 b2 b3 b4 => ?_))
    iterate 2 refine em_next rfl ?_
    refine em_inv_call rfl (me_put b3 (by omega) (fun I3 c1 c2 c3 c4 => ?_))
    iterate 2 refine em_next rfl ?_
    refine em_inv_call rfl (me_put c3 (by omega) (fun I4 d1 d2 d3 d4 => ?_))
    iterate 2 refine em_next rfl ?_
    refine em_inv_call rfl (me_put d3 (by omega) (fun I5 e1 e2 e3 e4 => ?_))
    iterate 2 refine em_next rfl ?_
    refine em_doneE rfl e3 ?_
    have k1 : ∀ c, c ≠ 284 → c ≠ 285 → I5 c = I c := fun c z1 z2 => by rw [e1 c z1 z2, d1 c z1 z2, c1 c z1 z2, b1 c z1 z2, a1 c z1 z2]
    have k2 : ∀ j, j ≠ 2 → I5 284 j = I 284 j := fun j z => by rw [e2 j z, d2 j z, c2 j z, b2 j z, a2 j z]
    refine h I5 (fun a ha => k1 a (by omega) (by omega)) (fun _ => ⟨h1.keepG (k2 _ (by decide)) (fun a ha => k1 a (by revert a; decide) (by revert a; decide)), by rw [k1 _ (by decide) (by decide)]; exact h2, by rw [k1 _ (by decide) (by decide)]; exact h3, ⟨h4, (k2 _ (by decide)).trans h5, by rw [k1 _ (by decide) (by decide)]; exact h6⟩, by rw [k1 326 (by decide) (by decide), k1 327 (by decide) (by decide)]; exact h7, by
      unfold mo_T
      rw [k1 322 (by decide) (by decide), k1 323 (by decide) (by decide), k1 324 (by decide) (by decide), k2 _ (by decide)]
      exact h8, ⟨g0, e3, fun i hi => ?_⟩, (k2 _ (by decide)).trans h10⟩) (fun z => absurd g0 z)
    rw [e4]
    refine eb_put_congr (fun j hj => ?_) i hi
    rw [d4]
    refine eb_put_congr (fun j hj => ?_) j hj
    rw [c4]
    refine eb_put_congr (fun j hj => ?_) j hj
    rw [b4]
    refine eb_put_congr (fun j hj => ?_) j hj
    rw [a4]
    exact eb_put_congr l3 j hj
  · have g0 : ¬ L + 20 ≤ 2000 := fun z => g ((nI_leI (by omega) (by decide)).mpr z)
    rw [if_neg g0] at h
    iterate 1 refine em_next rfl ?_
    exact em_done rfl (h I (fun _ _ => rfl) (fun z => absurd z g0) (fun _ => hM))
abbrev ok_bk (L : Nat) (n : Int32) : Prop := 0 ≤ n ∧ n ≤ nI L
theorem ma_back (hM : MI I lv p W u H hl S T D L tp pc) {n : Int32} (h : ∀ I' : Nat → Nat → Int32, (∀ a, a < 284 → I' a = I a) → (ok_bk L n → MI I' lv p W u H hl S T D (L - n.toNatClampNeg) tp pc) → (¬ ok_bk L n → MI I' lv p W u H hl S T D L tp pc) → Q (some (.int (if ok_bk L n then nI (L - n.toNatClampNeg) else -1))) (em_SH, I', J, em_RT lw)) : em_call d 170 [.ref 284, .int n] (em_SH, I, J, em_RT lw) Q := by
  obtain ⟨h1, h2, h3, ⟨h4, h5, h6⟩, h7, h8, ⟨l1, l2, l3⟩, h10⟩ := id hM
  iterate 2 refine em_next rfl ?_
  refine em_z_lt (fun g => ?_) (fun g => ?_)
  · have g0 : ¬ ok_bk L n := fun z => absurd g (Int32.not_lt.mpr z.1)
    rw [if_neg g0] at h
    iterate 1 refine em_next rfl ?_
    exact em_done rfl (h I (fun _ _ => rfl) (fun z => absurd z g0) (fun _ => hM))
  iterate 4 refine em_next rfl ?_
  refine em_c_leE rfl l2 (fun g2 => ?_) (fun g2 => ?_)
  · have g0 : ok_bk L n := ⟨Int32.not_lt.mp g, g2⟩
    rw [if_pos g0] at h
    obtain ⟨m, hm, rfl, em⟩ := em_nat (m := L) (by omega) g0.1 g0.2
    rw [em] at h
    have es : nI L - nI m = nI (L - m) := by
      have e := em_nadd (L - m) m
      rw [Nat.sub_add_cancel hm] at e
      rw [e, Int32.add_sub_cancel]
    iterate 8 refine em_next rfl ?_
    have k1 : ∀ c, c ≠ 284 → em_u I 284 2 (I 284 2 - nI m) c = I c := fun c hc => em_u_row hc
    have k2 : ∀ j, j ≠ 2 → em_u I 284 2 (I 284 2 - nI m) 284 j = I 284 j := fun j hj => em_u_ne hj
    refine em_doneE rfl (y := nI (L - m)) ?_ ?_
    · show I 284 2 - nI m = nI (L - m)
      rw [l2, es]
    show Q (some (.int (nI (L - m)))) (em_SH, em_u I 284 2 (I 284 2 - nI m), J, em_RT lw)
    exact h _ (fun a ha => k1 a (by omega)) (fun _ => ⟨h1.keepG (k2 _ (by decide)) (fun a ha => k1 a (by revert a; decide)), by rw [k1 _ (by decide)]; exact h2, by rw [k1 _ (by decide)]; exact h3, ⟨h4, (k2 _ (by decide)).trans h5, by rw [k1 _ (by decide)]; exact h6⟩, by rw [k1 326 (by decide), k1 327 (by decide)]; exact h7, by
      unfold mo_T
      rw [k1 322 (by decide), k1 323 (by decide), k1 324 (by decide), k2 _ (by decide)]
      exact h8, ⟨by omega, by rw [em_u_self, l2, es], fun i hi => by rw [k1 _ (by decide)]; exact l3 i (by omega)⟩, (k2 _ (by decide)).trans h10⟩) (fun z => absurd g0 z)
  · have g0 : ¬ ok_bk L n := fun z => g2 z.2
    rw [if_neg g0] at h
    iterate 1 refine em_next rfl ?_
    exact em_done rfl (h I (fun _ _ => rfl) (fun z => absurd z g0) (fun _ => hM))
theorem ma_place (hM : MI I lv p W u H hl S T D L tp pc) (h : Q (some (.int pc)) (em_SH, I, J, em_RT lw)) : em_call d 186 [.ref 284] (em_SH, I, J, em_RT lw) Q := by
  iterate 2 refine em_next rfl ?_
  exact em_doneE rfl hM.2.2.2.2.2.2.2 h
theorem me_hold_l {s k m : Nat} (hs : s < 3) (hk : k + m = 48) (h0 : ∀ c, c ≠ 327 → I c = I0 c) (h1 : ∀ j, j < k → I 327 (48 * s + j) = I0 314 j) (h2 : ∀ j, ¬ (48 * s ≤ j ∧ j < 48 * s + k) → I 327 j = I0 327 j) (h : ∀ I' : Nat → Nat → Int32, (∀ c, c ≠ 327 → I' c = I0 c) → (∀ j, j < 48 → I' 327 (48 * s + j) = I0 314 j) → (∀ j, ¬ (48 * s ≤ j ∧ j < 48 * s + 48) → I' 327 j = I0 327 j) → Q (some (.int 1)) (em_SH, I', J, em_RT lw)) : em_wp em_sc0 d 274 20 [some (.ref 284), some (.int (nI s)), some (.int (nI k))] [] (em_SH, I, J, em_RT lw) Q := by
  induction m generalizing k I with
  | zero =>
    have e : k = 48 := by omega
    subst e
    iterate 3 refine em_next rfl ?_
    refine em_c_ge (fun _ => ?_) (fun h1 => absurd (by decide) h1)
    iterate 1 refine em_next rfl ?_
    exact em_done rfl (h I h0 h1 h2)
  | succ m ih =>
    iterate 3 refine em_next rfl ?_
    refine em_c_ge (fun h1 => absurd h1 (nI_ge (b := 48) (by omega) (by decide))) (fun _ => ?_)
    iterate 10 refine em_next rfl ?_
    refine em_ialn rfl rfl (by omega) (by decide) ?_
    refine em_iasE (k := 48 * s + k) rfl rfl (em_idxE (c := 48) rfl) (by omega) (by decide) ?_
    iterate 2 refine em_next rfl ?_
    have g := ih (k := k + 1) (I := em_u I 327 (48 * s + k) (I 314 k)) (by omega) (fun c hc => by rw [em_u_row hc]; exact h0 c hc) (fun j hj => by
      by_cases e : j = k
      · subst e
        rw [em_u_self, h0 _ (by decide)]
      · rw [em_u_ne (by omega)]
        exact h1 j (by omega)) (fun j hj => by
      rw [em_u_ne (by omega)]
      exact h2 j (by omega))
    rw [nI_succ] at g
    exact g
def eh_l (hl : Nat → Bool) (s i : Nat) : Bool := if i = s then true else hl i
def eh_S (S : Nat → em_Wt) (W : em_Wt) (s i : Nat) : em_Wt := if i = s then W else S i
theorem ma_hold (hM : MI I lv p W u H hl S T D L tp pc) {s : Int32} (h : ∀ I' : Nat → Nat → Int32, (∀ a, a < 284 → I' a = I a) → (em_ok 0 2 s → MI I' lv p W u H (eh_l hl s.toNatClampNeg) (eh_S S W s.toNatClampNeg) T D L tp pc) → (¬ em_ok 0 2 s → MI I' lv p W u H hl S T D L tp pc) → Q (some (.int (em_bo (em_ok 0 2 s)))) (em_SH, I', J, em_RT lw)) : em_call (d + 1) 274 [.ref 284, .int s] (em_SH, I, J, em_RT lw) Q := by
  obtain ⟨h1, h2, h3, ⟨h4, h5, h6⟩, h7, h8, h9, h10⟩ := id hM
  have hn := h1.1.2.1
  iterate 3 refine em_next rfl ?_
  refine em_inv_call rfl (me_inQ (a := 0) (b := 2) ?_)
  iterate 1 refine em_next rfl ?_
  refine em_b_ne (fun g => ?_) (fun g => ?_)
  · rw [em_bo_t g] at h
    obtain ⟨t, ht, rfl, et⟩ := em_nat (m := 2) (by decide) g.1 g.2
    rw [et] at h
    iterate 4 refine em_next rfl ?_
    refine em_basn (y := 1) rfl rfl (by omega) (by decide) rfl ?_
    iterate 2 refine em_next rfl ?_
    refine me_hold_l (s := t) (k := 0) (m := 48) (I0 := em_u I 326 t 1) (by omega) (by omega) (fun _ _ => rfl) (fun j hj => absurd hj (Nat.not_lt_zero _)) (fun _ _ => rfl) (fun I' b1 b2 b3 => ?_)
    have k1 : ∀ c, c ≠ 327 → c ≠ 326 → I' c = I c := fun c z1 z2 => by rw [b1 c z1, em_u_row z2]
    refine h I' (fun a ha => k1 a (by omega) (by omega)) (fun _ => ⟨h1.keepG (by rw [k1 _ (by decide) (by decide)]) (fun a ha => k1 a (by revert a; decide) (by revert a; decide)), by rw [k1 _ (by decide) (by decide)]; exact h2, by rw [k1 _ (by decide) (by decide)]; exact h3, ⟨h4, by rw [k1 _ (by decide) (by decide)]; exact h5, by rw [k1 _ (by decide) (by decide)]; exact h6⟩, fun i hi => ?_, by
      unfold mo_T
      rw [k1 322 (by decide) (by decide), k1 323 (by decide) (by decide), k1 324 (by decide) (by decide), k1 284 (by decide) (by decide)]
      exact h8, by rw [k1 285 (by decide) (by decide), k1 284 (by decide) (by decide)]; exact h9, by rw [k1 284 (by decide) (by decide)]; exact h10⟩) (fun z => absurd g z)
    unfold eh_l eh_S
    by_cases e : i = t
    · subst e
      rw [if_pos rfl, if_pos rfl]
      exact ⟨by rw [b1 _ (by decide), em_u_self]; rfl, fun _ => h3.keep hn (fun j hj => by rw [b2 j hj, em_u_row (by decide)])⟩
    · rw [if_neg e, if_neg e]
      refine ⟨by rw [b1 _ (by decide), em_u_ne e]; exact (h7 i hi).1, fun z => ((h7 i hi).2 z).keep hn (fun j hj => ?_)⟩
      rw [b3 _ (by omega), em_u_row (by decide)]
  · rw [em_bo_f g] at h
    iterate 1 refine em_next rfl ?_
    exact em_done rfl (h I (fun _ _ => rfl) (fun z => absurd z g) (fun _ => hM))
theorem me_rest_l {s k m : Nat} (hs : s < 3) (hk : k + m = 48) (h0 : ∀ c, c ≠ 314 → I c = I0 c) (h1 : ∀ j, j < k → I 314 j = I0 327 (48 * s + j)) (h : ∀ I' : Nat → Nat → Int32, (∀ c, c ≠ 314 → I' c = I0 c) → (∀ j, j < 48 → I' 314 j = I0 327 (48 * s + j)) → em_wp em_sc0 d 275 51 [some (.ref 284), some (.int (nI s)), some (.int (nI 48))] [] (em_SH, I', J, em_RT lw) Q) : em_wp em_sc0 d 275 22 [some (.ref 284), some (.int (nI s)), some (.int (nI k))] [] (em_SH, I, J, em_RT lw) Q := by
  induction m generalizing k I with
  | zero =>
    have e : k = 48 := by omega
    subst e
    iterate 3 refine em_next rfl ?_
    refine em_c_ge (fun _ => ?_) (fun h1 => absurd (by decide) h1)
    exact h I h0 h1
  | succ m ih =>
    iterate 3 refine em_next rfl ?_
    refine em_c_ge (fun h1 => absurd h1 (nI_ge (b := 48) (by omega) (by decide))) (fun _ => ?_)
    iterate 10 refine em_next rfl ?_
    refine em_ialE (k := 48 * s + k) rfl rfl (em_idxE (c := 48) rfl) (by omega) (by decide) ?_
    refine em_iasn rfl rfl (by omega) (by decide) ?_
    iterate 2 refine em_next rfl ?_
    have g := ih (k := k + 1) (I := em_u I 314 k (I 327 (48 * s + k))) (by omega) (fun c hc => by rw [em_u_row hc]; exact h0 c hc) (fun j hj => by
      by_cases e : j = k
      · subst e
        rw [em_u_self, h0 _ (by decide)]
      · rw [em_u_ne e]
        exact h1 j (by omega))
    rw [nI_succ] at g
    exact g
abbrev ok_rs (hl : Nat → Bool) (s : Int32) : Prop := em_ok 0 2 s ∧ hl s.toNatClampNeg = true
theorem ma_restore (hM : MI I lv p W u H hl S T D L tp pc) {s : Int32} (h : ∀ I' : Nat → Nat → Int32, (∀ a, a < 284 → I' a = I a) → (ok_rs hl s → MI I' lv p (S s.toNatClampNeg) 0 H hl S T D L tp pc) → (¬ ok_rs hl s → MI I' lv p W u H hl S T D L tp pc) → Q (some (.int (em_bo (ok_rs hl s)))) (em_SH, I', J, em_RT lw)) : em_call (d + 1) 275 [.ref 284, .int s] (em_SH, I, J, em_RT lw) Q := by
  obtain ⟨h1, h2, h3, ⟨h4, h5, h6⟩, h7, h8, h9, h10⟩ := id hM
  have hn := h1.1.2.1
  have no : ¬ ok_rs hl s → Q (some (.int 0)) (em_SH, I, J, em_RT lw) := fun g => by
    have g2 := h I (fun _ _ => rfl) (fun z => absurd z g) (fun _ => hM)
    rw [em_bo_f g] at g2
    exact g2
  iterate 3 refine em_next rfl ?_
  refine em_inv_call rfl (me_inQ (a := 0) (b := 2) ?_)
  iterate 1 refine em_next rfl ?_
  refine em_b_eq (fun g => ?_) (fun g => ?_)
  · iterate 1 refine em_next rfl ?_
    exact em_done rfl (no (fun z => g z.1))
  have gg : hl s.toNatClampNeg = true → ok_rs hl s := fun z => ⟨g, z⟩
  have gn : ok_rs hl s → hl s.toNatClampNeg = true := fun z => z.2
  obtain ⟨t, ht, rfl, et⟩ := em_nat (m := 2) (by decide) g.1 g.2
  rw [et] at gg gn
  iterate 3 refine em_next rfl ?_
  refine em_baln rfl rfl (by omega) (by decide) ?_
  iterate 1 refine em_next rfl ?_
  refine em_z_neE (h7 t (by omega)).1 (fun q => ?_) (fun q => ?_)
  · have q1 : hl t = true := by
      cases e : hl t
      · rw [e] at q; exact absurd rfl q
      · rfl
    rw [em_bo_t (gg q1)] at h
    iterate 2 refine em_next rfl ?_
    refine me_rest_l (d := d + 1) (s := t) (k := 0) (m := 48) (I0 := I) (by omega) (by omega) (fun _ _ => rfl) (fun j hj => absurd hj (Nat.not_lt_zero _)) (fun I1 b1 b2 => ?_)
    iterate 4 refine em_next rfl ?_
    refine em_done rfl ?_
    show Q (some (.int 1)) (em_SH, em_u I1 284 53 0, J, em_RT lw)
    have k1 : ∀ c, c ∉ [284, 314] → em_u I1 284 53 0 c = I c := fun c hc => by rw [em_u_row (fun q => hc (by rw [q]; decide))]; exact b1 c (fun q => hc (by rw [q]; decide))
    have k2 : ∀ j, j ≠ 53 → em_u I1 284 53 0 284 j = I 284 j := fun j hj => by rw [em_u_ne hj, b1 _ (by decide)]
    refine h _ (fun a ha => k1 a (by simp; omega)) (fun _ => by rw [et]; exact ⟨h1.keepG (k2 _ (by decide)) (fun a ha => k1 a (by revert a; decide)), by rw [k1 _ (by decide)]; exact h2, ((h7 t (by omega)).2 q1).keep hn (fun j hj => by rw [em_u_row (by decide), b2 j hj]), ⟨by omega, em_u_self, fun i hi => absurd hi (Nat.not_lt_zero _)⟩, by rw [k1 326 (by decide), k1 327 (by decide)]; exact h7, by
      unfold mo_T
      rw [k1 322 (by decide), k1 323 (by decide), k1 324 (by decide), k2 _ (by decide)]
      exact h8, by rw [k1 285 (by decide), k2 _ (by decide)]; exact h9, (k2 _ (by decide)).trans h10⟩) (fun z => absurd (gg q1) z)
  · iterate 1 refine em_next rfl ?_
    refine em_done rfl (no (fun z => ?_))
    rw [gn z] at q
    exact absurd q (by decide)
end MCH3
