/-! the reference reads, two -/
def beg (lf hb : Nat → Int32) (k j : Nat) : Int32 := if j < k then lf j else if 9 ≤ j ∧ j < 9 + k then hb (j - 9) else if 18 ≤ j ∧ j < 18 + k then nI (j - 18) else 0
/-- what a text without a fault brings -/
def rp (s : tl_S) : em_Pn := (s.n, decide (s.rg = 1), (fun b => nI (s.co b)), (fun k => lsem k (s.F k)), nI s.sd, s.bg)
def rW (s : tl_S) : em_Wt := (s.rw, s.bg, (fun _ => 0), (fun b => nI (s.hb b)), (fun b => nI b), (fun _ => 0), 0)
section MREAD2
variable {d lw lv : Nat} {p : em_Pn} {W W' : em_Wt} {u : Nat} {H : Nat → em_Wt} {hl : Nat → Bool} {S : Nat → em_Wt} {T : Nat} {D : em_Td} {L : Nat} {tp : Nat → Int32} {pc : Int32} {b : Nat → Nat} {nT sd : Nat} {I I0 I' I'' : Nat → Nat → Int32} {J J0 J' J'' : Nat → Nat → Int64} {M : em_M} {Q : Option Value → em_M → Prop}
theorem me_beg1 {k m : Nat} (hk : k + m = 48) (h0 : ∀ j, j < k → I 315 j = 0) (h : ∀ (I' : Nat → Nat → Int32) (o : Option Value), (∀ a, a ≠ 315 → I' a = I a) → (∀ j, j < 48 → I' 315 j = 0) → em_wp em_sc0 d 207 21 [some (.ref 284), o] [] (em_SH, I', J, em_RT lw) Q) : em_wp em_sc0 d 207 2 [some (.ref 284), some (.int (nI k))] [] (em_SH, I, J, em_RT lw) Q := by
  induction m generalizing k I with
  | zero =>
    have e : k = 48 := by omega
    subst e
    iterate 3 refine em_next rfl ?_
    refine em_c_ge (fun _ => ?_) (fun z => absurd (by decide) z)
    exact h I _ (fun _ _ => rfl) h0
  | succ m ih =>
    iterate 3 refine em_next rfl ?_
    refine em_c_geE rfl (y' := nI 48) rfl (fun z => absurd z (nI_ge (by omega) (by decide))) (fun _ => ?_)
    iterate 4 refine em_next rfl ?_
    refine em_iasE (k := k) rfl rfl rfl (by omega) (by decide) ?_
    have g := ih (k := k + 1) (I := em_u I 315 k 0) (by omega) (fun j hj => ?_) (fun I' o a1 a2 => h I' o (fun a ha => (a1 a ha).trans (em_u_row ha)) a2)
    · rw [nI_succ] at g
      iterate 2 refine em_next rfl ?_
      exact g
    · by_cases e : j = k
      · rw [e, em_u_self]
      · rw [em_u_ne e]; exact h0 j (by omega)
theorem beg_s {lf hb : Nat → Int32} {k j : Nat} (hk : k < 9) : beg lf hb (k + 1) j = if j = k then lf k else if j = 9 + k then hb k else if j = 18 + k then nI k else beg lf hb k j := by
  unfold beg
  by_cases e1 : j = k
  · rw [if_pos (by omega), if_pos e1, e1]
  · rw [if_neg e1]
    by_cases e2 : j = 9 + k
    · rw [if_neg (by omega), if_pos (by omega), if_pos e2, e2]; congr 1; omega
    · rw [if_neg e2]
      by_cases e3 : j = 18 + k
      · rw [if_neg (by omega), if_neg (by omega), if_pos (by omega), if_pos e3, e3]; congr 1; omega
      · rw [if_neg e3]
        by_cases f1 : j < k
        · rw [if_pos (by omega), if_pos f1]
        · rw [if_neg (by omega), if_neg f1]
          by_cases f2 : 9 ≤ j ∧ j < 9 + k
          · rw [if_pos (by omega), if_pos f2]
          · rw [if_neg (by omega), if_neg f2]
            by_cases f3 : 18 ≤ j ∧ j < 18 + k
            · rw [if_pos (by omega), if_pos f3]
            · rw [if_neg (by omega), if_neg f3]
theorem me_beg2 {n : Nat} {rg : Bool} {cold : Nat → Int32} {f : Nat → List Int32 → Int32} {lf hb : Nat → Int32} {k m : Nat} (hP : mo_P I lv n rg cold f) (h1 : ∀ j, j < n → I 294 (9 * lv + j) = lf j) (h2 : ∀ j, j < n → I 295 (9 * lv + j) = hb j) (hk : k + m = n) (h0 : ∀ j, j < 48 → I 315 j = beg lf hb k j) (h : ∀ (I' : Nat → Nat → Int32) (o : Option Value), (∀ a, a ≠ 315 → I' a = I a) → (∀ j, j < 48 → I' 315 j = beg lf hb n j) → em_wp em_sc0 (d + 1) 207 90 [some (.ref 284), o] [] (em_SH, I', J, em_RT lw) Q) : em_wp em_sc0 (d + 1) 207 23 [some (.ref 284), some (.int (nI k))] [] (em_SH, I, J, em_RT lw) Q := by
  have hn := hP.1.2.1
  have hlv := hP.1.1
  have hL := hP.1.2.2.1
  induction m generalizing k I with
  | zero =>
    have e : k = n := by omega
    subst e
    iterate 2 refine em_next rfl ?_
    refine em_inv_call rfl (me_many hP ?_)
    iterate 1 refine em_next rfl ?_
    refine em_c_geE rfl (y' := nI k) rfl (fun _ => ?_) (fun z => absurd (nI_le (Nat.le_refl _) (by omega)) z)
    exact h I _ (fun _ _ => rfl) h0
  | succ m ih =>
    iterate 2 refine em_next rfl ?_
    refine em_inv_call rfl (me_many hP ?_)
    iterate 1 refine em_next rfl ?_
    refine em_c_geE rfl (y' := nI n) rfl (fun z => absurd z (nI_ge (by omega) (by omega))) (fun _ => ?_)
    iterate 11 refine em_next rfl ?_
    refine em_ialE (k := 9 * lv + k) rfl rfl (em_idxE (c := 9) hL) (by omega) (by decide) ?_
    refine em_tp (h1 k (by omega)) ?_
    refine em_iasE (k := k) rfl rfl rfl (by omega) (by decide) ?_
    have l1 : em_u I 315 k (lf k) 284 18 = nI lv := by rw [em_u_row (by decide)]; exact hL
    iterate 13 refine em_next rfl ?_
    refine em_ialE (k := 9 * lv + k) rfl rfl (em_idxE (c := 9) l1) (by omega) (by decide) ?_
    refine em_tp (y := hb k) (by rw [em_u_row (by decide)]; exact h2 k (by omega)) ?_
    refine em_iasE (k := 9 + k) rfl rfl (em_nadd 9 k).symm (by omega) (by decide) ?_
    iterate 6 refine em_next rfl ?_
    refine em_iasE (k := 18 + k) rfl rfl (em_nadd 18 k).symm (by omega) (by decide) ?_
    have q : ∀ a, a ≠ 315 → em_u (em_u (em_u I 315 k (lf k)) 315 (9 + k) (hb k)) 315 (18 + k) (nI k) a = I a := fun a ha => by rw [em_u_row ha, em_u_row ha, em_u_row ha]
    have hr : ∀ a ∈ [293, 299, 296, 302, 303, 304, 305, 306, 307, 308, 309, 310], a ≠ 315 := by decide
    have g := ih (k := k + 1) (I := em_u (em_u (em_u I 315 k (lf k)) 315 (9 + k) (hb k)) 315 (18 + k) (nI k)) (hP.keepG (by rw [q _ (by decide)]) (fun a ha => q a (hr a ha))) (fun j hj => by rw [q _ (by decide)]; exact h1 j hj) (fun j hj => by rw [q _ (by decide)]; exact h2 j hj) (by omega) (fun j hj => ?_) (fun I' o a1 a2 => h I' o (fun a ha => (a1 a ha).trans (q a ha)) a2) (by rw [q _ (by decide)]; exact hL)
    · rw [nI_succ] at g
      iterate 2 refine em_next rfl ?_
      exact g
    · rw [beg_s (by omega)]
      by_cases e3 : j = 18 + k
      · rw [e3, em_u_self, if_neg (by omega), if_neg (by omega), if_pos rfl]
      · rw [em_u_ne e3]
        by_cases e2 : j = 9 + k
        · rw [e2, em_u_self, if_neg (by omega), if_pos rfl]
        · rw [em_u_ne e2]
          by_cases e1 : j = k
          · rw [e1, em_u_self, if_pos rfl]
          · rw [em_u_ne e1, if_neg e1, if_neg e2, if_neg e3]
            exact h0 j hj
theorem me_begins {n bg : Nat} {rg : Bool} {cold : Nat → Int32} {f : Nat → List Int32 → Int32} {lf hb : Nat → Int32} (hP : mo_P I lv n rg cold f) (h1 : ∀ j, j < n → I 294 (9 * lv + j) = lf j) (h2 : ∀ j, j < n → I 295 (9 * lv + j) = hb j) (h3 : I 300 lv = nI bg) (h : ∀ I' : Nat → Nat → Int32, (∀ a, a ≠ 315 → a ≠ 284 → I' a = I a) → (∀ j, j ∉ [49, 50] → I' 284 j = I 284 j) → I' 315 45 = nI bg → (∀ j, j < 48 → j ≠ 45 → I' 315 j = beg lf hb n j) → Q none (em_SH, I', J, em_RT lw)) : em_call (d + 1) 207 [.ref 284] (em_SH, I, J, em_RT lw) Q := by
  have hlv := hP.1.1
  have hL := hP.1.2.2.1
  iterate 2 refine em_next rfl ?_
  refine me_beg1 (k := 0) (m := 48) (by decide) (fun j hj => absurd hj (Nat.not_lt_zero _)) (fun I1 o a1 a2 => ?_)
  have hr : ∀ a ∈ [293, 299, 296, 302, 303, 304, 305, 306, 307, 308, 309, 310], a ≠ 315 := by decide
  iterate 2 refine em_next rfl ?_
  refine me_beg2 (k := 0) (m := n) (lf := lf) (hb := hb) (hP.keepG (by rw [a1 _ (by decide)]) (fun a ha => a1 a (hr a ha))) (fun j hj => by rw [a1 _ (by decide)]; exact h1 j hj) (fun j hj => by rw [a1 _ (by decide)]; exact h2 j hj) (Nat.zero_add _) (fun j hj => ?_) (fun I2 o b1 b2 => ?_)
  · rw [a2 j hj]
    unfold beg
    rw [if_neg (by omega), if_neg (by omega), if_neg (by omega)]
  · have w2 : ∀ a, a ≠ 315 → I2 a = I a := fun a ha => (b1 a ha).trans (a1 a ha)
    have L2 : I2 284 18 = nI lv := by rw [w2 _ (by decide)]; exact hL
    iterate 7 refine em_next rfl ?_
    refine em_ialE (k := lv) rfl rfl L2 hlv (by decide) ?_
    refine em_tp (y := nI bg) (by rw [w2 _ (by decide)]; exact h3) ?_
    refine em_iasE (k := 45) rfl rfl rfl (by decide) (by decide) ?_
    have L3 : em_u I2 315 45 (nI bg) 284 18 = nI lv := by rw [em_u_row (by decide)]; exact L2
    iterate 5 refine em_next rfl ?_
    refine em_ialE (k := lv) rfl rfl L3 hlv (by decide) ?_
    iterate 4 refine em_next rfl ?_
    refine em_done rfl ?_
    show Q none (em_SH, em_u (em_u (em_u I2 315 45 (nI bg)) 284 49 (em_u I2 315 45 (nI bg) 301 lv)) 284 50 0, J, em_RT lw)
    refine h _ (fun a z1 z2 => by rw [em_u_row z2, em_u_row z2, em_u_row z1]; exact w2 a z1) (fun j hj => ?_) ?_ (fun j hj hne => ?_)
    · rw [em_u_ne (fun e => hj (by rw [e]; decide)), em_u_ne (fun e => hj (by rw [e]; decide)), em_u_row (by decide), w2 _ (by decide)]
    · rw [em_u_row (by decide), em_u_row (by decide), em_u_self]
    · rw [em_u_row (by decide), em_u_row (by decide), em_u_ne hne]; exact b2 j hj
/-- the new text is in force -/
theorem me_read_ok {C B t : Nat} {hc : Nat → Bool} {s : tl_S} {o : Option Value} (hlv : lv < 2) (hM : MI I0 lv p W u H hl S T D L tp pc) (f : rdf (1 - lv) I0 I J0 J) (hS : mS0 b L (1 - lv) t s I J C B hc) (ht : t ≤ 400) (hg : tl_g s) (hv : tl_v s) (hla : s.la = none) (hpl : I 284 17 = -1) (h : ∀ I' : Nat → Nat → Int32, (∀ a, a < 284 → I' a = I a) → MI I' (1 - lv) (rp s) (rW s) 0 H (fun _ => false) S 0 D 0 tp (-1) → Q (some (.int 0)) (em_SH, I', J, em_RT lw)) : em_wp em_sc0 (d + 7) 185 215 [some (.ref 284), o] [] (em_SH, I, J, em_RT lw) Q := by
  have sd2 : 1 - lv < 2 := by omega
  obtain ⟨⟨s1, s1'⟩, s2, s3, s4, ⟨k1, k2, k3⟩, k4, k5⟩ := hS
  have f3 := f.2.2.1
  iterate 4 refine em_next rfl ?_
  show em_wp em_sc0 (d + 7) 185 _ _ _ (em_SH, em_u I 284 18 (I 284 19), J, em_RT lw) Q
  rw [s1]
  have q1 : ∀ a, a ≠ 284 → em_u I 284 18 (nI (1 - lv)) a = I a := fun a ha => em_u_row ha
  have q2 : ∀ j, j ≠ 18 → em_u I 284 18 (nI (1 - lv)) 284 j = I 284 j := fun j hj => em_u_ne hj
  have q3 : em_u I 284 18 (nI (1 - lv)) 284 18 = nI (1 - lv) := em_u_self
  generalize em_u I 284 18 (nI (1 - lv)) = K1 at q1 q2 q3 ⊢
  have rg2 : s.rg = 0 ∨ s.rg = 1 := by have := hv.2.1 hla; omega
  have hmr : ∀ a ∈ mrows, a ≠ 284 := by decide
  have hP : mo_P K1 (1 - lv) s.n (decide (s.rg = 1)) (fun b => nI (s.co b)) (fun k => lsem k (s.F k)) := by
    refine ⟨⟨sd2, hg.1, q3, by rw [q1 _ (by decide)]; exact s2.1, ?_⟩, fun b hb => by rw [q1 _ (by decide)]; exact s3.2.2.1 b (by have := hg.1; omega), fun k hk => ?_⟩
    · rw [q1 _ (by decide), s2.2.2.1]
      rcases rg2 with e | e
      · rw [e]; rfl
      · rw [e]; rfl
    · exact ml.law sd2 hk (k3 k hk).2 (((k3 k hk).1.rows (fun a ha => q1 a (hmr a ha))).ml (by omega) (by omega))
  iterate 1 refine em_next rfl ?_
  refine em_inv_call rfl (me_begins (lf := fun j => em_bit s.rw j) (hb := fun j => nI (s.hb j)) (bg := s.bg) hP (fun j hj => by rw [q1 _ (by decide)]; exact s3.2.1 j hj hla) (fun j hj => by rw [q1 _ (by decide)]; exact s3.1 j hj) (by rw [q1 _ (by decide)]; exact s2.2.2.2.1) (fun I2 b1 b2 b3 b4 => ?_))
  iterate 1 refine em_next rfl ?_
  refine em_inv_call rfl (me_keepsRow ?_)
  have c3 : ∀ a, a ≠ 314 → em_cpr I2 315 314 48 a = I2 a := fun a ha => em_cpr_row ha
  have c4 : ∀ j, j < 48 → em_cpr I2 315 314 48 314 j = I2 315 j := fun j hj => em_cpr_at hj
  generalize em_cpr I2 315 314 48 = K3 at c3 c4 ⊢
  iterate 8 refine em_next rfl ?_
  show em_wp em_sc0 (d + 7) 185 _ _ _ (em_SH, em_u (em_u K3 284 53 0) 284 58 0, J, em_RT lw) Q
  iterate 3 refine em_next rfl ?_
  refine em_c_ge (fun z => absurd z (by decide)) (fun _ => ?_)
  iterate 4 refine em_next rfl ?_
  refine em_basE (k := 0) (y := 0) rfl rfl rfl (by decide) (by decide) rfl ?_
  iterate 2 refine em_next rfl ?_
  iterate 3 refine em_next rfl ?_
  refine em_c_ge (fun z => absurd z (by decide)) (fun _ => ?_)
  iterate 4 refine em_next rfl ?_
  refine em_basE (k := 1) (y := 0) rfl rfl rfl (by decide) (by decide) rfl ?_
  iterate 2 refine em_next rfl ?_
  iterate 3 refine em_next rfl ?_
  refine em_c_ge (fun z => absurd z (by decide)) (fun _ => ?_)
  iterate 4 refine em_next rfl ?_
  refine em_basE (k := 2) (y := 0) rfl rfl rfl (by decide) (by decide) rfl ?_
  iterate 2 refine em_next rfl ?_
  iterate 3 refine em_next rfl ?_
  refine em_c_ge (fun _ => ?_) (fun z => absurd (by decide) z)
  iterate 1 refine em_next rfl ?_
  refine em_done rfl ?_
  have e5 : ∀ a, a ≠ 284 → a ≠ 326 → em_u (em_u (em_u (em_u (em_u K3 284 53 0) 284 58 0) 326 0 0) 326 1 0) 326 2 0 a = K3 a := fun a z1 z2 => by rw [em_u_row z2, em_u_row z2, em_u_row z2, em_u_row z1, em_u_row z1]
  have e6 : ∀ j, em_u (em_u (em_u (em_u (em_u K3 284 53 0) 284 58 0) 326 0 0) 326 1 0) 326 2 0 284 j = em_u (em_u K3 284 53 0) 284 58 0 284 j := fun j => by rw [em_u_row (by decide), em_u_row (by decide), em_u_row (by decide)]
  have e7 : ∀ i, i < 3 → em_u (em_u (em_u (em_u (em_u K3 284 53 0) 284 58 0) 326 0 0) 326 1 0) 326 2 0 326 i = 0 := fun i hi => by
    rcases (show i = 0 ∨ i = 1 ∨ i = 2 by omega) with rfl | rfl | rfl
    · rw [em_u_ne (by decide), em_u_ne (by decide), em_u_self]
    · rw [em_u_ne (by decide), em_u_self]
    · exact em_u_self
  have mF : ∀ j, j ∉ [53, 58, 49, 50, 18] → em_u (em_u (em_u (em_u (em_u K3 284 53 0) 284 58 0) 326 0 0) 326 1 0) 326 2 0 284 j = I 284 j := fun j hj => by
    rw [e6 j, em_u_ne (fun e => hj (by rw [e]; decide)), em_u_ne (fun e => hj (by rw [e]; decide)), c3 _ (by decide), b2 j (fun e => hj (by revert e; simp; omega)), q2 j (fun e => hj (by rw [e]; decide))]
  have aF : ∀ a, a ∉ [284, 326, 314, 315] → em_u (em_u (em_u (em_u (em_u K3 284 53 0) 284 58 0) 326 0 0) 326 1 0) 326 2 0 a = I a := fun a ha => by
    rw [e5 a (fun e => ha (by rw [e]; decide)) (fun e => ha (by rw [e]; decide)), c3 a (fun e => ha (by rw [e]; decide)), b1 a (fun e => ha (by rw [e]; decide)) (fun e => ha (by rw [e]; decide)), q1 a (fun e => ha (by rw [e]; decide))]
  have un : em_u (em_u (em_u (em_u (em_u K3 284 53 0) 284 58 0) 326 0 0) 326 1 0) 326 2 0 284 53 = nI 0 := by rw [e6, em_u_ne (by decide), em_u_self]; rfl
  have tn : em_u (em_u (em_u (em_u (em_u K3 284 53 0) 284 58 0) 326 0 0) 326 1 0) 326 2 0 284 58 = nI 0 := by rw [e6, em_u_self]; rfl
  have lv5 : em_u (em_u (em_u (em_u (em_u K3 284 53 0) 284 58 0) 326 0 0) 326 1 0) 326 2 0 284 18 = K1 284 18 := by rw [e6, em_u_ne (by decide), em_u_ne (by decide), c3 _ (by decide), b2 _ (by decide)]
  have nw : ∀ j, j < 48 → em_u (em_u (em_u (em_u (em_u K3 284 53 0) 284 58 0) 326 0 0) 326 1 0) 326 2 0 314 j = I2 315 j := fun j hj => by rw [e5 _ (by decide) (by decide)]; exact c4 j hj
  have hr : ∀ a ∈ [293, 299, 296, 302, 303, 304, 305, 306, 307, 308, 309, 310], a ∉ [284, 326, 314, 315] := by decide
  refine h _ (fun a ha => aF a (by simp; omega)) ⟨hP.keepG lv5 (fun a ha => (aF a (hr a ha)).trans (q1 a (fun e => hr a ha (by rw [e]; decide))).symm), ?_, ?_, ⟨by decide, un, fun i hi => absurd hi (Nat.not_lt_zero _)⟩, fun i hi => ⟨e7 i hi, fun e => absurd (show false = true from e) (by decide)⟩, ⟨⟨by decide, tn⟩, fun i hi => absurd hi (Nat.not_lt_zero _)⟩, ⟨by decide, ?_, fun i hi => absurd hi (Nat.not_lt_zero _)⟩, ?_⟩
  · rw [aF _ (by decide)]; exact s2.2.2.2.2
  · have hn := hg.1
    refine mr.keep (g := fun j => if j = 45 then nI s.bg else beg (fun j => em_bit s.rw j) (fun j => nI (s.hb j)) s.n j) ⟨⟨hg.2.2.2, ?_, ?_, ?_, Nat.le_refl _⟩, fun b hb => ⟨?_, ?_, ?_, ?_, ?_⟩, fun b hb hb9 => ⟨?_, ?_⟩⟩ hn (fun j hj => ?_)
    · exact if_pos rfl
    · show (if (46 : Nat) = 45 then nI s.bg else beg _ _ s.n 46) = 0
      rw [if_neg (by decide)]; unfold beg; rw [if_neg (by omega), if_neg (by omega), if_neg (by omega)]
    · show (if (47 : Nat) = 45 then nI s.bg else beg _ _ s.n 47) = nI (s.bg - s.bg)
      rw [if_neg (by decide), Nat.sub_self]; unfold beg; rw [if_neg (by omega), if_neg (by omega), if_neg (by omega)]; rfl
    · have hb' : b < s.n := hb
      show (if b = 45 then nI s.bg else beg _ _ s.n b) = em_bit s.rw b
      rw [if_neg (by omega)]; unfold beg; rw [if_pos hb']
    · have hb' : b < s.n := hb
      show (if 9 + b = 45 then nI s.bg else beg _ _ s.n (9 + b)) = nI (s.hb b)
      rw [if_neg (by omega)]; unfold beg; rw [if_neg (by omega), if_pos (by omega)]
      show nI (s.hb (9 + b - 9)) = _
      congr 2; omega
    · have hb' : b < s.n := hb
      show (if 18 + b = 45 then nI s.bg else beg _ _ s.n (18 + b)) = nI b
      rw [if_neg (by omega)]; unfold beg; rw [if_neg (by omega), if_neg (by omega), if_pos (by omega)]; congr 1; omega
    · have hb' : b < s.n := hb
      show (if 27 + b = 45 then nI s.bg else beg _ _ s.n (27 + b)) = 0
      rw [if_neg (by omega)]; unfold beg; rw [if_neg (by omega), if_neg (by omega), if_neg (by omega)]
    · have hb' : b < s.n := hb
      show (if 36 + b = 45 then nI s.bg else beg _ _ s.n (36 + b)) = 0
      rw [if_neg (by omega)]; unfold beg; rw [if_neg (by omega), if_neg (by omega), if_neg (by omega)]
    · have hb' : s.n ≤ b := hb
      show (if 9 + b = 45 then nI s.bg else beg _ _ s.n (9 + b)) = 0
      rw [if_neg (by omega)]; unfold beg; rw [if_neg (by omega), if_neg (by omega), if_neg (by omega)]
    · have hb' : s.n ≤ b := hb
      show (if 36 + b = 45 then nI s.bg else beg _ _ s.n (36 + b)) = 0
      rw [if_neg (by omega)]; unfold beg; rw [if_neg (by omega), if_neg (by omega), if_neg (by omega)]
    · rw [nw j hj]
      by_cases e : j = 45
      · rw [if_pos e, e]; exact b3
      · rw [if_neg e]; exact b4 j hj e
  · rw [mF _ (by decide)]; exact f3
  · rw [mF _ (by decide)]; exact hpl
end MREAD2
