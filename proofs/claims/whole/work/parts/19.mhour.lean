/-! the reference: rows copied and laid, an hour -/
/-- a set by its members -/
def em_or : Nat → (Nat → Bool) → Nat
  | 0, _ => 0
  | n + 1, p => em_or n p + (if p n then 2 ^ n else 0)
def em_ct : Nat → (Nat → Bool) → Nat
  | 0, _ => 0
  | n + 1, p => em_ct n p + (if p n then 1 else 0)
theorem em_or_lt (n : Nat) (p : Nat → Bool) : em_or n p < 2 ^ n := by
  induction n with
  | zero => exact Nat.one_pos
  | succ n ih =>
    unfold em_or
    rw [Nat.pow_succ]
    split <;> omega
theorem em_ct_le (n : Nat) (p : Nat → Bool) : em_ct n p ≤ n := by
  induction n with
  | zero => exact Nat.le_refl _
  | succ n ih =>
    unfold em_ct
    split <;> omega
theorem em_or_bit {n : Nat} {p : Nat → Bool} {b : Nat} (h : b < n) : (em_or n p).testBit b = p b := by
  induction n with
  | zero => omega
  | succ n ih =>
    unfold em_or
    rcases Nat.lt_or_ge b n with h1 | h1
    · split
      · rw [Nat.add_comm, Nat.testBit_two_pow_add_gt h1]
        exact ih h1
      · exact ih h1
    · have e : b = n := by omega
      subst e
      have h2 : (em_or b p).testBit b = false := Nat.testBit_lt_two_pow (em_or_lt b p)
      split
      · rename_i hp
        rw [Nat.add_comm, Nat.testBit_two_pow_add_eq, h2, hp]
        rfl
      · rename_i hp
        rw [Nat.add_zero, h2]
        simpa using hp
theorem em_or_self {n r : Nat} (h : r < 2 ^ n) : em_or n (fun b => r.testBit b) = r := by
  apply Nat.eq_of_testBit_eq
  intro i
  rcases Nat.lt_or_ge i n with h1 | h1
  · exact em_or_bit h1
  · rw [Nat.testBit_lt_two_pow (Nat.lt_of_lt_of_le (em_or_lt n _) (Nat.pow_le_pow_right (by decide) h1)), Nat.testBit_lt_two_pow (Nat.lt_of_lt_of_le h (Nat.pow_le_pow_right (by decide) h1))]
theorem em_or_congr {n : Nat} {p q : Nat → Bool} (h : ∀ b, b < n → p b = q b) : em_or n p = em_or n q := by
  induction n with
  | zero => rfl
  | succ n ih =>
    unfold em_or
    rw [ih (fun b hb => h b (by omega)), h n (by omega)]
theorem em_ct_congr {n : Nat} {p q : Nat → Bool} (h : ∀ b, b < n → p b = q b) : em_ct n p = em_ct n q := by
  induction n with
  | zero => rfl
  | succ n ih =>
    unfold em_ct
    rw [ih (fun b hb => h b (by omega)), h n (by omega)]
theorem em_join1 : ∀ b, b < 9 → ∀ s, s < 2 ^ b → nI s ||| (1 <<< (nI b &&& 31)) = nI (s + 2 ^ b) ∧ nI s ||| (0 <<< (nI b &&& 31)) = nI s := by decide +kernel
theorem em_pow9 {n : Nat} (h : n ≤ 9) : 2 ^ n ≤ 512 := Nat.pow_le_pow_right (by decide) h
/-- how the reference's night now lies -/
def mo_W (I : Nat → Nat → Int32) (n r h : Nat) (hab part : Nat → Int32) : Prop := (r < 2 ^ n ∧ h < 1000000 ∧ I 314 45 = nI h) ∧ ∀ b, b < n → I 314 b = em_bit r b ∧ I 314 (9 + b) = hab b ∧ I 314 (27 + b) = part b
section MH
variable {d lw lv n r hh : Nat} {rg : Bool} {cold hab part : Nat → Int32} {f : Nat → List Int32 → Int32} {I : Nat → Nat → Int32} {J : Nat → Nat → Int64} {M : em_M} {Q : Option Value → em_M → Prop}
theorem me_copies_l (hP : mo_P I lv n rg cold f) {k m : Nat} (hk : k + m = 48) (h : ∀ I' : Nat → Nat → Int32, em_fM I I' → (∀ j, j < 48 → I' 315 j = I 314 j) → I' 284 49 = I 301 lv → I' 284 50 = 0 → Q none (em_SH, I', J, em_RT lw)) : em_wp em_sc0 d 209 2 [some (.ref 284), some (.int (nI k))] [] (em_SH, em_cpr I 314 315 k, J, em_RT lw) Q := by
  obtain ⟨p1, p2, p3, p4, p5⟩ := hP.1
  induction m generalizing k with
  | zero =>
    have e : k = 48 := by omega
    subst e
    iterate 3 refine em_next rfl ?_
    refine em_c_ge (fun _ => ?_) (fun h1 => absurd (by decide) h1)
    iterate 5 refine em_next rfl ?_
    refine em_ialk (i := I 284 18) (k := lv) rfl rfl (by rw [p3]; exact em_in_n p1 (by decide)) (by rw [p3]; exact nI_clamp (by omega)) ?_
    iterate 4 refine em_next rfl ?_
    refine em_done rfl ?_
    refine h _ (fun a j g1 g2 => ?_) (fun j hj => ?_) rfl rfl
    · show (if a = 284 ∧ j = 50 then _ else if a = 284 ∧ j = 49 then _ else if a = 315 ∧ j < 48 then _ else I a j) = _
      rw [if_neg (fun q => g2 ⟨q.1, by rw [q.2]; decide⟩), if_neg (fun q => g2 ⟨q.1, by rw [q.2]; decide⟩), if_neg (fun q => g1 (by rw [q.1]; decide))]
    · show em_cpr I 314 315 48 315 j = _
      unfold em_cpr
      rw [if_pos ⟨rfl, hj⟩]
  | succ m ih =>
    iterate 3 refine em_next rfl ?_
    refine em_c_ge (fun h1 => absurd h1 (nI_ge (b := 48) (by omega) (by decide))) (fun _ => ?_)
    iterate 6 refine em_next rfl ?_
    refine em_iald rfl rfl (em_in_n (by omega) (by decide)) ?_
    refine em_iast rfl rfl (em_in_n (by omega) (by decide)) ?_
    rw [nI_clamp (by omega)]
    show em_wp _ _ _ _ _ _ (em_putI (em_SH, em_cpr I 314 315 k, J, em_RT lw) 315 k (em_cpr I 314 315 k 314 k)) _
    rw [em_cpr_s]
    iterate 2 refine em_next rfl ?_
    have g := ih (k := k + 1) (by omega)
    rw [nI_succ] at g
    exact g
theorem me_copies (hP : mo_P I lv n rg cold f) (h : ∀ I' : Nat → Nat → Int32, em_fM I I' → (∀ j, j < 48 → I' 315 j = I 314 j) → I' 284 49 = I 301 lv → I' 284 50 = 0 → Q none (em_SH, I', J, em_RT lw)) : em_call d 209 [.ref 284] (em_SH, I, J, em_RT lw) Q := by
  iterate 2 refine em_next rfl ?_
  have g := me_copies_l (k := 0) (m := 48) (d := d) hP (by omega) h
  rw [em_cpr_0] at g
  exact g
theorem me_copiesStill (hP : mo_P I lv n rg cold f) (h : ∀ I' : Nat → Nat → Int32, em_fM I I' → (∀ j, j < 48 → I' 315 j = I 314 j) → I' 284 50 = 1 → Q none (em_SH, I', J, em_RT lw)) : em_call (d + 1) 210 [.ref 284] (em_SH, I, J, em_RT lw) Q := by
  iterate 1 refine em_next rfl ?_
  refine em_inv_call rfl (me_copies hP (fun I1 g1 g2 _ _ => ?_))
  iterate 3 refine em_next rfl ?_
  refine em_done rfl ?_
  refine h (em_u I1 284 50 1) (fun a j q1 q2 => ?_) (fun j hj => ?_) em_u_self
  · rw [← g1 a j q1 q2]
    exact if_neg (fun q => q2 ⟨q.1, by rw [q.2]; decide⟩)
  · rw [em_u_row (by decide)]
    exact g2 j hj
theorem mo_W.row {I' : Nat → Nat → Int32} (hW : mo_W I n r hh hab part) (hn : n ≤ 9) (h : ∀ j, j < 48 → I' 315 j = I 314 j) : mo_N I' n r hh hab part := by
  obtain ⟨⟨h1, h2, h3⟩, h4⟩ := hW
  exact ⟨⟨h1, h2, (h 45 (by decide)).trans h3⟩, fun b hb => ⟨(h _ (by omega)).trans (h4 b hb).1, (h _ (by omega)).trans (h4 b hb).2.1, (h _ (by omega)).trans (h4 b hb).2.2⟩⟩
theorem mo_W.keep {I' : Nat → Nat → Int32} (hW : mo_W I n r hh hab part) (he : em_fM I I') : mo_W I' n r hh hab part := by
  have e : I' 314 = I 314 := by
    funext j
    exact he _ _ (by decide) (fun q => absurd q.1 (by decide))
  unfold mo_W
  rw [e]
  exact hW
theorem me_rowBits_l (hP : mo_P I lv n rg cold f) (hN : mo_N I n r hh hab part) {k m : Nat} (hk : k + m = n) (h : Q (some (.int (nI r))) (em_SH, I, J, em_RT lw)) : em_wp em_sc0 (d + 1) 220 4 [some (.ref 284), some (.int (nI (em_or k (fun b => r.testBit b)))), some (.int (nI k))] [] (em_SH, I, J, em_RT lw) Q := by
  obtain ⟨p1, p2, p3, p4, p5⟩ := hP.1
  induction m generalizing k with
  | zero =>
    have e : k = n := by omega
    subst e
    iterate 2 refine em_next rfl ?_
    refine em_inv_call rfl (me_many hP ?_)
    iterate 1 refine em_next rfl ?_
    refine em_c_ge (fun _ => ?_) (fun h1 => absurd (nI_le (Nat.le_refl _) (by omega)) h1)
    iterate 1 refine em_next rfl ?_
    refine em_done rfl ?_
    rw [em_or_self hN.1.1]
    exact h
  | succ m ih =>
    iterate 2 refine em_next rfl ?_
    refine em_inv_call rfl (me_many hP ?_)
    iterate 1 refine em_next rfl ?_
    refine em_c_ge (fun h1 => absurd h1 (nI_ge (by omega) (by omega))) (fun _ => ?_)
    iterate 4 refine em_next rfl ?_
    refine em_ialn (k := k) rfl rfl (by omega) (by decide) ?_
    iterate 6 refine em_next rfl ?_
    have g := ih (k := k + 1) (by omega)
    rw [nI_succ] at g
    unfold em_or at g
    rw [(hN.2 k (by omega)).1]
    have hj := em_join1 k (by omega) (em_or k (fun b => r.testBit b)) (em_or_lt _ _)
    unfold em_bit
    split at g
    · rename_i hb
      rw [if_pos hb]
      rw [← hj.1] at g
      exact g
    · rename_i hb
      rw [if_neg hb]
      rw [Nat.add_zero] at g
      have g2 : em_wp em_sc0 (d + 1) 220 4 [some (.ref 284), some (.int (nI (em_or k (fun b => r.testBit b)) ||| (0 <<< (nI k &&& 31)))), some (.int (nI k + 1))] [] (em_SH, I, J, em_RT lw) Q := by rw [hj.2]; exact g
      exact g2
theorem me_rowBits (hP : mo_P I lv n rg cold f) (hN : mo_N I n r hh hab part) (h : Q (some (.int (nI r))) (em_SH, I, J, em_RT lw)) : em_call (d + 1) 220 [.ref 284] (em_SH, I, J, em_RT lw) Q := by
  iterate 4 refine em_next rfl ?_
  exact me_rowBits_l (k := 0) (m := n) hP hN (by omega) h
theorem me_rowNow_l (hP : mo_P I lv n rg cold f) (hN : mo_W I n r hh hab part) {k m : Nat} (hk : k + m = n) (h : Q (some (.int (nI r))) (em_SH, I, J, em_RT lw)) : em_wp em_sc0 (d + 1) 225 4 [some (.ref 284), some (.int (nI (em_or k (fun b => r.testBit b)))), some (.int (nI k))] [] (em_SH, I, J, em_RT lw) Q := by
  obtain ⟨p1, p2, p3, p4, p5⟩ := hP.1
  induction m generalizing k with
  | zero =>
    have e : k = n := by omega
    subst e
    iterate 2 refine em_next rfl ?_
    refine em_inv_call rfl (me_many hP ?_)
    iterate 1 refine em_next rfl ?_
    refine em_c_ge (fun _ => ?_) (fun h1 => absurd (nI_le (Nat.le_refl _) (by omega)) h1)
    iterate 1 refine em_next rfl ?_
    refine em_done rfl ?_
    rw [em_or_self hN.1.1]
    exact h
  | succ m ih =>
    iterate 2 refine em_next rfl ?_
    refine em_inv_call rfl (me_many hP ?_)
    iterate 1 refine em_next rfl ?_
    refine em_c_ge (fun h1 => absurd h1 (nI_ge (by omega) (by omega))) (fun _ => ?_)
    iterate 4 refine em_next rfl ?_
    refine em_ialn (k := k) rfl rfl (by omega) (by decide) ?_
    iterate 6 refine em_next rfl ?_
    have g := ih (k := k + 1) (by omega)
    rw [nI_succ] at g
    unfold em_or at g
    rw [(hN.2 k (by omega)).1]
    have hj := em_join1 k (by omega) (em_or k (fun b => r.testBit b)) (em_or_lt _ _)
    unfold em_bit
    split at g
    · rename_i hb
      rw [if_pos hb]
      rw [← hj.1] at g
      exact g
    · rename_i hb
      rw [if_neg hb]
      rw [Nat.add_zero] at g
      have g2 : em_wp em_sc0 (d + 1) 225 4 [some (.ref 284), some (.int (nI (em_or k (fun b => r.testBit b)) ||| (0 <<< (nI k &&& 31)))), some (.int (nI k + 1))] [] (em_SH, I, J, em_RT lw) Q := by rw [hj.2]; exact g
      exact g2
theorem me_rowNow (hP : mo_P I lv n rg cold f) (hN : mo_W I n r hh hab part) (h : Q (some (.int (nI r))) (em_SH, I, J, em_RT lw)) : em_call (d + 1) 225 [.ref 284] (em_SH, I, J, em_RT lw) Q := by
  iterate 4 refine em_next rfl ?_
  exact me_rowNow_l (k := 0) (m := n) hP hN (by omega) h
theorem me_laysRow_l (hP : mo_P I lv n rg cold f) {s : Nat} (hs : s < 2 ^ n) {k m : Nat} (hk : k + m = n) {I0 : Nat → Nat → Int32} (h0 : ∀ c, c ≠ 315 → I c = I0 c) (h1 : ∀ b, b < k → I 315 b = em_bit s b) (h2 : ∀ j, k ≤ j → I 315 j = I0 315 j)
    (h : ∀ I' : Nat → Nat → Int32, (∀ c, c ≠ 315 → I' c = I0 c) → (∀ b, b < n → I' 315 b = em_bit s b) → (∀ j, n ≤ j → I' 315 j = I0 315 j) → Q none (em_SH, I', J, em_RT lw)) : em_wp em_sc0 (d + 1) 221 2 [some (.ref 284), some (.int (nI s)), some (.int (nI k))] [] (em_SH, I, J, em_RT lw) Q := by
  have p2 := hP.1.2.1
  have hs9 := em_pow9 p2
  induction m generalizing k I with
  | zero =>
    have e : k = n := by omega
    subst e
    iterate 2 refine em_next rfl ?_
    refine em_inv_call rfl (me_many hP ?_)
    iterate 1 refine em_next rfl ?_
    refine em_c_ge (fun _ => ?_) (fun h1 => absurd (nI_le (Nat.le_refl _) (by omega)) h1)
    exact em_done rfl (h I h0 h1 h2)
  | succ m ih =>
    iterate 2 refine em_next rfl ?_
    refine em_inv_call rfl (me_many hP ?_)
    iterate 1 refine em_next rfl ?_
    refine em_c_ge (fun h1 => absurd h1 (nI_ge (by omega) (by omega))) (fun _ => ?_)
    iterate 8 refine em_next rfl ?_
    refine em_iasn (k := k) rfl rfl (by omega) (by decide) ?_
    iterate 2 refine em_next rfl ?_
    have g := ih (k := k + 1) (I := em_u I 315 k ((nI s >>> (nI k &&& 31)) &&& 1)) (hP.keep (em_fM.row (a := 315) (by decide) (fun c hc => em_u_row hc))) (by omega) (fun c hc => by rw [em_u_row hc]; exact h0 c hc) (fun b hb => ?_) (fun j hj => ?_)
    · rw [nI_succ] at g
      exact g
    · by_cases hbk : b = k
      · subst hbk
        rw [em_u_self]
        exact em_bitC s (by omega) b (by omega)
      · rw [em_u_ne hbk]
        exact h1 b (by omega)
    · rw [em_u_ne (by omega)]
      exact h2 j (by omega)
theorem me_laysRow (hP : mo_P I lv n rg cold f) {s : Nat} (hs : s < 2 ^ n) (h : ∀ I' : Nat → Nat → Int32, (∀ c, c ≠ 315 → I' c = I c) → (∀ b, b < n → I' 315 b = em_bit s b) → (∀ j, n ≤ j → I' 315 j = I 315 j) → Q none (em_SH, I', J, em_RT lw)) : em_call (d + 1) 221 [.ref 284, .int (nI s)] (em_SH, I, J, em_RT lw) Q := by
  iterate 2 refine em_next rfl ?_
  exact me_laysRow_l (k := 0) (m := n) hP hs (by omega) (fun _ _ => rfl) (fun b hb => by omega) (fun _ _ => rfl) h
end MH
