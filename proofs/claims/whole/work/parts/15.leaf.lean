/-! numbers, and leaves: methods that only compute -/
theorem em_in_n {k n : Nat} (h : k < n) (hn : n < 2 ^ 31) : em_in (nI k) n = true := em_in_of (nI_pos' (by omega)) (by rw [nI_clamp (by omega)]; exact h)
/-- how one lies, by a set of bits -/
def em_bit (r b : Nat) : Int32 := if r.testBit b then 1 else 0
theorem em_bit_01 (r b : Nat) : em_bit r b = 0 ∨ em_bit r b = 1 := by unfold em_bit; split <;> simp
theorem em_bitC : ∀ r, r < 512 → ∀ b, b < 9 → (nI r >>> (nI b &&& 31)) &&& 1 = em_bit r b := by decide +kernel
theorem em_all1 : ∀ n, n < 10 → (1 <<< (nI n &&& 31)) - 1 = nI (2 ^ n - 1) := by decide +kernel
theorem em_one1 : ∀ b, b < 10 → (1 <<< (nI b &&& 31) : Int32) = nI (2 ^ b) := by decide +kernel
theorem em_nI_sub1 : ∀ n, n < 10 → nI n - 1 = Int32.ofInt ((n : Int) - 1) := by decide +kernel
section LEAF
variable {d lw : Nat} {I : Nat → Nat → Int32} {J : Nat → Nat → Int64} {M : em_M} {Q : Option Value → em_M → Prop}
theorem me_in {v a b : Int32} (h : Q (some (.int (em_bo (a ≤ v ∧ v ≤ b)))) M) : em_call d 200 [.int v, .int a, .int b] M Q := by
  iterate 3 refine em_next rfl ?_
  refine em_c_lt (fun h1 => ?_) (fun h1 => ?_)
  · iterate 1 refine em_next rfl ?_
    refine em_done rfl ?_
    rw [em_bo_f (fun q => Int32.not_lt.mpr q.1 h1)] at h
    exact h
  · iterate 3 refine em_next rfl ?_
    refine em_c_gt (fun h2 => ?_) (fun h2 => ?_)
    · iterate 1 refine em_next rfl ?_
      refine em_done rfl ?_
      rw [em_bo_f (fun q => Int32.not_lt.mpr q.2 h2)] at h
      exact h
    · iterate 2 refine em_next rfl ?_
      refine em_done rfl ?_
      rw [em_bo_t ⟨Int32.not_lt.mp h1, Int32.not_lt.mp h2⟩] at h
      exact h
/-- held to bounds -/
def em_cl (x a b : Int32) : Int32 := if x < a then a else if b < x then b else x
theorem me_within {v a b : Int32} (h : Q (some (.int (em_cl v a b))) M) : em_call d 201 [.int v, .int a, .int b] M Q := by
  unfold em_cl at h
  iterate 3 refine em_next rfl ?_
  refine em_c_ge (fun h2 => ?_) (fun h2 => ?_)
  · rw [if_neg (Int32.not_lt.mpr h2)] at h
    iterate 3 refine em_next rfl ?_
    refine em_c_le (fun h3 => ?_) (fun h3 => ?_)
    · rw [if_neg (Int32.not_lt.mpr h3)] at h
      iterate 1 refine em_next rfl ?_
      exact em_done rfl h
    · rw [if_pos (Int32.not_le.mp h3)] at h
      iterate 2 refine em_next rfl ?_
      exact em_done rfl h
  · rw [if_pos (Int32.not_le.mp h2)] at h
    iterate 2 refine em_next rfl ?_
    exact em_done rfl h
def em_mix (x y : Int32) : Int32 := ((x ^^^ y) * (1103515245 : Int32) + 12345) ^^^ ((((x ^^^ y) * (1103515245 : Int32) + 12345).toUInt32 >>> ((15 : Int32).toUInt32 &&& Int32.toUInt32 31)).toInt32)
theorem me_mixed {x y : Int32} (h : Q (some (.int (em_mix x y))) M) : em_call d 211 [.int x, .int y] M Q := by
  iterate 13 refine em_next rfl ?_
  exact em_done rfl h
theorem ce_stirred {x y : Int32} (h : Q (some (.int (em_mix x y))) M) : em_call d 51 [.int x, .int y] M Q := by
  iterate 13 refine em_next rfl ?_
  exact em_done rfl h
theorem ce_within {v a b : Int32} (h : Q (some (.int (em_bo (a ≤ v ∧ v ≤ b)))) M) : em_call d 164 [.int v, .int a, .int b] M Q := by
  iterate 3 refine em_next rfl ?_
  refine em_c_lt (fun h1 => ?_) (fun h1 => ?_)
  · iterate 1 refine em_next rfl ?_
    refine em_done rfl ?_
    rw [em_bo_f (fun q => Int32.not_lt.mpr q.1 h1)] at h
    exact h
  · iterate 3 refine em_next rfl ?_
    refine em_c_gt (fun h2 => ?_) (fun h2 => ?_)
    · iterate 1 refine em_next rfl ?_
      refine em_done rfl ?_
      rw [em_bo_f (fun q => Int32.not_lt.mpr q.2 h2)] at h
      exact h
    · iterate 2 refine em_next rfl ?_
      refine em_done rfl ?_
      rw [em_bo_t ⟨Int32.not_lt.mp h1, Int32.not_lt.mp h2⟩] at h
      exact h
theorem ce_heldTo {v a b : Int32} (h : Q (some (.int (em_cl v a b))) M) : em_call d 165 [.int v, .int a, .int b] M Q := by
  unfold em_cl at h
  iterate 3 refine em_next rfl ?_
  refine em_c_ge (fun h2 => ?_) (fun h2 => ?_)
  · rw [if_neg (Int32.not_lt.mpr h2)] at h
    iterate 3 refine em_next rfl ?_
    refine em_c_le (fun h3 => ?_) (fun h3 => ?_)
    · rw [if_neg (Int32.not_lt.mpr h3)] at h
      iterate 1 refine em_next rfl ?_
      exact em_done rfl h
    · rw [if_pos (Int32.not_le.mp h3)] at h
      iterate 2 refine em_next rfl ?_
      exact em_done rfl h
  · rw [if_pos (Int32.not_le.mp h2)] at h
    iterate 1 refine em_next rfl ?_
    exact em_done rfl h
theorem ce_pair {v : Int32} (h : Q (some (.int (em_bo (0 ≤ v ∧ v ≤ 1)))) M) : em_call d 163 [.int v] M Q := by
  iterate 2 refine em_next rfl ?_
  refine em_z_eq (fun h1 => ?_) (fun h1 => ?_)
  · subst h1
    iterate 2 refine em_next rfl ?_
    refine em_done rfl ?_
    rw [em_bo_t (by decide)] at h
    exact h
  · iterate 3 refine em_next rfl ?_
    refine em_c_ne (fun h2 => ?_) (fun h2 => ?_)
    · iterate 1 refine em_next rfl ?_
      refine em_done rfl ?_
      rw [em_bo_f] at h
      · exact h
      · intro q
        rw [Int32.le_iff_toInt_le, Int32.le_iff_toInt_le] at q
        have e0 : (0 : Int32).toInt = 0 := rfl
        have e1 : (1 : Int32).toInt = 1 := rfl
        rw [e0, e1] at q
        have : v.toInt = 0 ∨ v.toInt = 1 := by omega
        rcases this with g | g
        · exact h1 (Int32.toInt_inj.mp (g.trans e0.symm))
        · exact h2 (Int32.toInt_inj.mp (g.trans e1.symm))
    · subst h2
      iterate 2 refine em_next rfl ?_
      refine em_done rfl ?_
      rw [em_bo_t (by decide)] at h
      exact h
/-- the lot of a seed -/
def em_lot (sd w : Int32) : Int32 := (((em_mix (em_mix sd 139) w).toUInt32 >>> ((1 : Int32).toUInt32 &&& Int32.toUInt32 31)).toInt32) - (((em_mix (em_mix sd 139) w).toUInt32 >>> ((1 : Int32).toUInt32 &&& Int32.toUInt32 31)).toInt32) / 100 * 100
theorem ce_lot {sd w : Int32} (h : Q (some (.int (em_lot sd w))) M) : em_call (d + 1) 50 [.int sd, .int w] M Q := by
  iterate 2 refine em_next rfl ?_
  refine em_inv_call rfl (ce_stirred ?_)
  iterate 1 refine em_next rfl ?_
  refine em_inv_call rfl (ce_stirred ?_)
  iterate 6 refine em_next rfl ?_
  exact em_done rfl h
theorem me_lotOf {w : Int32} (h : Q (some (.int (em_lot (I 284 49) w))) (em_SH, I, J, em_RT lw)) : em_call (d + 1) 212 [.ref 284, .int w] (em_SH, I, J, em_RT lw) Q := by
  iterate 3 refine em_next rfl ?_
  refine em_inv_call rfl (me_mixed ?_)
  iterate 1 refine em_next rfl ?_
  refine em_inv_call rfl (me_mixed ?_)
  iterate 4 refine em_next rfl ?_
  exact em_done rfl h
end LEAF
