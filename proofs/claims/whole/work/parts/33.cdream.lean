/-! the class: a row some hours on -/
def em_w (a b c : Bool) : Nat := (cond a 1 0) + (cond b 2 0) + (cond c 4 0)
theorem em_w_ok : ∀ a b c : Bool, (em_bb a ||| (em_bb b <<< ((1 : Int32) &&& 31))) ||| (em_bb c <<< ((2 : Int32) &&& 31)) = nI (em_w a b c) ∧ em_w a b c < 8 ∧ em_bit (em_w a b c) 0 = em_bb a ∧ em_bit (em_w a b c) 1 = em_bb b ∧ em_bit (em_w a b c) 2 = em_bb c := by decide +kernel
theorem em_bf_bb (n : Nat) (rg : Bool) (r b : Nat) : ∃ x : Bool, em_bf n rg r b = em_bb x := by
  unfold em_bf
  split
  · exact ⟨_, em_bit_bb _ _⟩
  · cases rg
    · exact ⟨false, rfl⟩
    · exact ⟨_, em_bit_bb _ _⟩
theorem em_bh_bb (n : Nat) (rg : Bool) (r b : Nat) : ∃ x : Bool, em_bh n rg r b = em_bb x := by
  unfold em_bh
  split
  · exact ⟨_, em_bit_bb _ _⟩
  · cases rg
    · exact ⟨false, rfl⟩
    · exact ⟨_, em_bit_bb _ _⟩
/-- the rules that are kept are right -/
def cd_R (I : Nat → Nat → Int32) (P : em_Pl) (part : Nat → Int32) : Prop := ∀ t, t < 24 → ∀ b, b < P.1 → I 276 (t * 9 + b) = -1 ∨ I 276 (t * 9 + b) = nI (em_cs P part b (nI t))
/-- the dream: its row and hour, and, if LIES looks at partings, these too -/
def cd_N (I : Nat → Nat → Int32) (lp : Bool) (P : em_Pl) (Y : em_Nt) : Prop := (Y.1 < 2 ^ P.1 ∧ Y.2.1 < 1000000 ∧ I 271 4 = nI Y.1 ∧ I 271 5 = nI Y.2.1) ∧ (lp = true → ∀ b, b < P.1 → I 273 b = P.2.2.2.2 b ∧ I 274 b = Y.2.2 b)
/-- LIES doesn't look at partings, where it says so -/
def em_ind (lp : Bool) (g : List Int32 → Int32) : Prop := lp = false → ∀ v w : List Int32, v.take 8 = w.take 8 → g v = g w
theorem em_ind.ly {lp : Bool} {P : em_Pl} (h : em_ind lp (P.2.2.2.1 0)) (hl : lp = false) (r t : Nat) (p p' : Nat → Int32) (b : Nat) : em_ly P (r, t, p) b = em_ly P (r, t, p') b := by
  show decide (0 < P.2.2.2.1 0 [em_bit r b, em_bf P.1 P.2.1 r b, em_bh P.1 P.2.1 r b, P.2.2.2.2 b, P.2.2.1 b, nI (t % 24), nI b, nI P.1, p b]) = decide (0 < P.2.2.2.1 0 [em_bit r b, em_bf P.1 P.2.1 r b, em_bh P.1 P.2.1 r b, P.2.2.2.2 b, P.2.2.1 b, nI (t % 24), nI b, nI P.1, p' b])
  rw [h hl [em_bit r b, em_bf P.1 P.2.1 r b, em_bh P.1 P.2.1 r b, P.2.2.2.2 b, P.2.2.1 b, nI (t % 24), nI b, nI P.1, p b] [em_bit r b, em_bf P.1 P.2.1 r b, em_bh P.1 P.2.1 r b, P.2.2.2.2 b, P.2.2.1 b, nI (t % 24), nI b, nI P.1, p' b] rfl]
section CD
variable {d lw : Nat} {P : em_Pl} {X Y : em_Nt} {lp : Bool} {part : Nat → Int32} {I I0 : Nat → Nat → Int32} {J : Nat → Nat → Int64} {M : em_M} {Q : Option Value → em_M → Prop} {v : List Int32}
theorem ce_ruleOf (hP : cp_P I P.1 P.2.1 P.2.2.1 P.2.2.2.1) {b t : Nat} (hb : b < P.1) (hx : I 44 b = P.2.2.2.2 b) (hy : I 45 b = part b) (hH : I 271 5 = nI t) (ht : t < 1000000) (hR : cd_R I P part) (h : ∀ I' : Nat → Nat → Int32, (∀ a, a ∉ [29, 39, 276] → I' a = I a) → cd_R I' P part → Q (some (.int (nI (em_cs P part b (nI (t % 24)))))) (em_SH, I', J, em_RT lw)) : em_call (d + 2) 6 [.ref 270, .int (nI b)] (em_SH, I, J, em_RT lw) Q := by
  have hn := hP.1.1
  have h24 : t % 24 < 24 := Nat.mod_lt _ (by decide)
  have e : nI (t % 24) * 9 + nI b = nI (t % 24 * 9 + b) := by rw [em_nadd, em_nmul]; rfl
  iterate 2 refine em_next rfl ?_
  refine em_inv_call rfl (ce_hourOfDay_dnight hH ht ?_)
  iterate 4 refine em_next rfl ?_
  show em_wp em_sc0 (d + 2) 6 12 _ [.int (nI (t % 24) * 9 + nI b)] _ _
  rw [e]
  iterate 3 refine em_next rfl ?_
  refine em_z_lt (fun q => absurd q (nI_pos (by omega))) (fun _ => ?_)
  iterate 3 refine em_next rfl ?_
  refine em_c_lt (fun _ => ?_) (fun q => absurd (nI_lt (b := 216) (by omega) (by decide)) q)
  iterate 3 refine em_next rfl ?_
  refine em_ialn (k := t % 24 * 9 + b) rfl rfl (by omega) (by decide) ?_
  iterate 2 refine em_next rfl ?_
  refine em_c_ne (fun q => ?_) (fun q => ?_)
  · iterate 3 refine em_next rfl ?_
    refine em_ialn (k := t % 24 * 9 + b) rfl rfl (by omega) (by decide) ?_
    refine em_done rfl ?_
    rcases hR (t % 24) h24 b hb with g | g
    · exact absurd g q
    · rw [g]
      exact h I (fun _ _ => rfl) hR
  · iterate 10 refine em_next rfl ?_
    refine em_inv_call rfl (ce_hourOfDay_dnight hH ht ?_)
    refine em_inv_call rfl (ce_cases (hab := P.2.2.2.2) (part := part) hP hb hx hy (fun I1 g => ?_))
    refine em_iasn (k := t % 24 * 9 + b) rfl rfl (by omega) (by decide) ?_
    iterate 3 refine em_next rfl ?_
    refine em_ialn (k := t % 24 * 9 + b) rfl rfl (by omega) (by decide) ?_
    refine em_done rfl ?_
    rw [em_u_self]
    refine h _ (fun a ha => ?_) (fun t2 ht2 b2 hb2 => ?_)
    · rw [em_u_row (fun q => ha (by rw [q]; decide)), g a (fun q => ha (by rw [q]; decide)) (fun q => ha (by rw [q]; decide))]
    · by_cases hq : t2 * 9 + b2 = t % 24 * 9 + b
      · have e1 : t2 = t % 24 := by omega
        have e2 : b2 = b := by omega
        subst e2
        rw [e1, em_u_self]
        exact Or.inr rfl
      · rw [em_u_ne hq, g _ (by decide) (by decide)]
        exact hR t2 ht2 b2 hb2
theorem ce_prh_l (hP : cp_P I0 P.1 P.2.1 P.2.2.1 P.2.2.2.1) (hw : ∀ b, b < P.1 → I0 44 b = P.2.2.2.2 b ∧ I0 45 b = part b) {r t : Nat} (hr : r < 2 ^ P.1) (ht : t + 1 < 1000000) (h1 : I0 271 4 = nI r) (h2 : I0 271 5 = nI t) {k m : Nat} (hk : k + m = P.1) (h0 : ∀ a, a ∉ [29, 39, 276] → I a = I0 a) (hR : cd_R I P part) {o : Option Value}
    (h : ∀ I' : Nat → Nat → Int32, (∀ a, a ∉ [29, 39, 276, 271] → I' a = I0 a) → cd_R I' P part → I' 271 4 = nI (em_or P.1 (em_ly P (r, t, part))) → I' 271 5 = nI (t + 1) → Q none (em_SH, I', J, em_RT lw)) :
    em_wp em_sc0 (d + 3) 5 60 [some (.ref 270), some (.int (em_rB P.1 P.2.1 r)), some (.int (em_rH P.1 P.2.1 r)), some (.int (nI (em_or k (em_ly P (r, t, part))))), some (.int (nI k)), o] [] (em_SH, I, J, em_RT lw) Q := by
  have hn := hP.1.1
  have hp9 := em_pow9 hn
  have hPk : ∀ I2 : Nat → Nat → Int32, (∀ a, a ∉ [29, 39, 276] → I2 a = I0 a) → cp_P I2 P.1 P.2.1 P.2.2.1 P.2.2.2.1 := fun I2 g => hP.keep (fun a ha => g a (by revert a; decide))
  induction m generalizing k I o with
  | zero =>
    have e : k = P.1 := by omega
    subst e
    iterate 4 refine em_next rfl ?_
    show em_wp em_sc0 (d + 3) 5 69 _ [.int (I 24 7), .int (nI P.1)] _ _
    rw [(hPk I h0).1.2.1]
    iterate 1 refine em_next rfl ?_
    refine em_c_ge (fun _ => ?_) (fun h1 => absurd (nI_le (Nat.le_refl _) (by omega)) h1)
    iterate 11 refine em_next rfl ?_
    refine em_done rfl ?_
    show Q none (em_SH, em_u (em_u I 271 4 (nI (em_or P.1 (em_ly P (r, t, part))))) 271 5 (I 271 5 + 1), J, em_RT lw)
    refine h _ (fun a ha => ?_) (fun t2 ht2 b2 hb2 => ?_) ?_ ?_
    · have hq : a ≠ 271 := fun q => ha (by rw [q]; decide)
      rw [em_u_row hq, em_u_row hq]
      exact h0 a (fun q => ha (by revert q; simp; rintro (rfl | rfl | rfl) <;> simp))
    · rw [em_u_row (by decide), em_u_row (by decide)]
      exact hR t2 ht2 b2 hb2
    · rw [em_u_ne (by decide), em_u_self]
    · rw [em_u_self, h0 _ (by decide), h2, nI_succ]
  | succ m ih =>
    iterate 4 refine em_next rfl ?_
    show em_wp em_sc0 (d + 3) 5 69 _ [.int (I 24 7), .int (nI k)] _ _
    rw [(hPk I h0).1.2.1]
    iterate 1 refine em_next rfl ?_
    refine em_c_ge (fun h1 => absurd h1 (nI_ge (by omega) (by omega))) (fun _ => ?_)
    iterate 23 refine em_next rfl ?_
    obtain ⟨x2, e2⟩ := em_bf_bb P.1 P.2.1 r k
    obtain ⟨x3, e3⟩ := em_bh_bb P.1 P.2.1 r k
    have ww := em_w_ok (r.testBit k) x2 x3
    show em_wp em_sc0 (d + 3) 5 102 _ [.int ((((I 271 4 >>> (nI k &&& 31)) &&& 1) ||| (((em_rB P.1 P.2.1 r >>> (nI k &&& 31)) &&& 1) <<< ((1 : Int32) &&& 31))) ||| (((em_rH P.1 P.2.1 r >>> (nI k &&& 31)) &&& 1) <<< ((2 : Int32) &&& 31)))] _ _
    rw [h0 271 (by decide), h1, em_bitC r (by omega) k (by omega), em_rB_ok P.1 (by omega) r hr k (by omega), em_rH_ok P.1 (by omega) r hr k (by omega), em_bit_bb, e2, e3, ww.1]
    iterate 4 refine em_next rfl ?_
    refine em_inv_call rfl (ce_ruleOf (part := part) (hPk I h0) (b := k) (t := t) (by omega) (by rw [h0 _ (by decide)]; exact (hw k (by omega)).1) (by rw [h0 _ (by decide)]; exact (hw k (by omega)).2) (by rw [h0 _ (by decide)]; exact h2) (by omega) hR (fun I1 g1 g2 => ?_))
    have i1 : ∀ a, a ∉ [29, 39, 276] → I1 a = I0 a := fun a ha => (g1 a ha).trans (h0 a ha)
    iterate 4 refine em_next rfl ?_
    have hlt : em_cs P part k (nI (t % 24)) < 256 := em_or_lt 8 _
    have ev : em_bit (em_cs P part k (nI (t % 24))) (em_w (r.testBit k) x2 x3) = em_bb (em_ly P (r, t, part) k) := by
      rw [em_bit_bb]
      congr 1
      unfold em_cs
      rw [em_or_bit ww.2.1]
      unfold em_ly em_face em_vr em_fc
      rw [ww.2.2.1, ww.2.2.2.1, ww.2.2.2.2, ← e2, ← e3, em_bit_bb]
    show em_wp em_sc0 (d + 3) 5 116 _ [.int ((nI (em_cs P part k (nI (t % 24))) >>> (nI (em_w (r.testBit k) x2 x3) &&& 31)) &&& 1), .int (nI (em_or k (em_ly P (r, t, part))))] _ _
    rw [em_bitC _ (by omega) _ (by omega), ev]
    iterate 5 refine em_next rfl ?_
    have hj := em_join1 k (by omega) (em_or k (em_ly P (r, t, part))) (em_or_lt _ _)
    have nx := ih (k := k + 1) (I := I1) (o := some (.int (nI (em_w (r.testBit k) x2 x3)))) (by omega) i1 g2
    rw [nI_succ, show em_or (k + 1) (em_ly P (r, t, part)) = em_or k (em_ly P (r, t, part)) + (if em_ly P (r, t, part) k then 2 ^ k else 0) from rfl] at nx
    iterate 1 refine em_next rfl ?_
    cases hq : em_ly P (r, t, part) k with
    | true =>
      rw [hq, if_pos rfl, ← hj.1] at nx
      exact nx
    | false =>
      rw [hq, if_neg (by decide), show em_or k (em_ly P (r, t, part)) + 0 = em_or k (em_ly P (r, t, part)) from rfl, ← hj.2] at nx
      exact nx
end CD
