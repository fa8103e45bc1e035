/-! walking the pure machine -/
/-- a boolean as the machine has it -/
def em_bo (p : Prop) [Decidable p] : Int32 := if p then 1 else 0
theorem em_bo_t {p : Prop} [Decidable p] (h : p) : em_bo p = 1 := if_pos h
theorem em_bo_f {p : Prop} [Decidable p] (h : ¬ p) : em_bo p = 0 := if_neg h
theorem em_bo_01 {p : Prop} [Decidable p] : em_bo p = 0 ∨ em_bo p = 1 := by
  by_cases h : p
  · exact Or.inr (em_bo_t h)
  · exact Or.inl (em_bo_f h)
section EMP
variable {sc : Nat × (Nat → Int32)} {d ix pc nx : Nat} {lc : em_L} {st r : List Value} {M : em_M} {Q : Option Value → em_M → Prop}
theorem em_cnd {b : Bool} {t : Nat} (h1 : b = true → em_wp sc d ix t lc st M Q) (h2 : b = false → em_wp sc d ix nx lc st M Q) : em_wp sc d ix (cond b t nx) lc st M Q := by
  cases b
  · exact h2 rfl
  · exact h1 rfl
theorem em_iald {i : Int32} {a n : Nat} (hi : em_ins ix pc = some (.iaload, nx)) (hs : M.1[a]? = some (20, n)) (hin : em_in i n = true) (k : em_wp sc d ix nx lc (.int (M.2.1 a i.toNatClampNeg) :: r) M Q) : em_wp sc d ix pc lc (.int i :: .ref a :: r) M Q := by
  refine em_next ?_ k
  unfold em_stp
  rw [hi]
  unfold em_do
  dsimp only
  rw [hs]
  dsimp only
  rw [if_pos ⟨rfl, hin⟩]
theorem em_iast {i x : Int32} {a n : Nat} (hi : em_ins ix pc = some (.iastore, nx)) (hs : M.1[a]? = some (20, n)) (hin : em_in i n = true) (k : em_wp sc d ix nx lc r (em_putI M a i.toNatClampNeg x) Q) : em_wp sc d ix pc lc (.int x :: .int i :: .ref a :: r) M Q := by
  refine em_next ?_ k
  unfold em_stp
  rw [hi]
  unfold em_do
  dsimp only
  rw [hs]
  dsimp only
  rw [if_pos ⟨rfl, hin⟩]
theorem em_z_eq {x : Int32} {t : Nat} (h1 : x = 0 → em_wp sc d ix t lc st M Q) (h2 : ¬ x = 0 → em_wp sc d ix nx lc st M Q) : em_wp sc d ix (cond (em_cz .eq x) t nx) lc st M Q := em_cnd (fun h => h1 (of_decide_eq_true h)) (fun h => h2 (of_decide_eq_false h))
theorem em_z_ne {x : Int32} {t : Nat} (h1 : ¬ x = 0 → em_wp sc d ix t lc st M Q) (h2 : x = 0 → em_wp sc d ix nx lc st M Q) : em_wp sc d ix (cond (em_cz .ne x) t nx) lc st M Q := em_cnd (fun h => h1 (of_decide_eq_true h)) (fun h => h2 (Classical.not_not.mp (of_decide_eq_false h)))
theorem em_z_lt {x : Int32} {t : Nat} (h1 : x < 0 → em_wp sc d ix t lc st M Q) (h2 : ¬ x < 0 → em_wp sc d ix nx lc st M Q) : em_wp sc d ix (cond (em_cz .lt x) t nx) lc st M Q := em_cnd (fun h => h1 (of_decide_eq_true h)) (fun h => h2 (of_decide_eq_false h))
theorem em_z_ge {x : Int32} {t : Nat} (h1 : 0 ≤ x → em_wp sc d ix t lc st M Q) (h2 : ¬ 0 ≤ x → em_wp sc d ix nx lc st M Q) : em_wp sc d ix (cond (em_cz .ge x) t nx) lc st M Q := em_cnd (fun h => h1 (of_decide_eq_true h)) (fun h => h2 (of_decide_eq_false h))
theorem em_z_gt {x : Int32} {t : Nat} (h1 : 0 < x → em_wp sc d ix t lc st M Q) (h2 : ¬ 0 < x → em_wp sc d ix nx lc st M Q) : em_wp sc d ix (cond (em_cz .gt x) t nx) lc st M Q := em_cnd (fun h => h1 (of_decide_eq_true h)) (fun h => h2 (of_decide_eq_false h))
theorem em_z_le {x : Int32} {t : Nat} (h1 : x ≤ 0 → em_wp sc d ix t lc st M Q) (h2 : ¬ x ≤ 0 → em_wp sc d ix nx lc st M Q) : em_wp sc d ix (cond (em_cz .le x) t nx) lc st M Q := em_cnd (fun h => h1 (of_decide_eq_true h)) (fun h => h2 (of_decide_eq_false h))
theorem em_c_eq {x y : Int32} {t : Nat} (h1 : x = y → em_wp sc d ix t lc st M Q) (h2 : ¬ x = y → em_wp sc d ix nx lc st M Q) : em_wp sc d ix (cond (em_cc .eq x y) t nx) lc st M Q := em_cnd (fun h => h1 (of_decide_eq_true h)) (fun h => h2 (of_decide_eq_false h))
theorem em_c_ne {x y : Int32} {t : Nat} (h1 : ¬ x = y → em_wp sc d ix t lc st M Q) (h2 : x = y → em_wp sc d ix nx lc st M Q) : em_wp sc d ix (cond (em_cc .ne x y) t nx) lc st M Q := em_cnd (fun h => h1 (of_decide_eq_true h)) (fun h => h2 (Classical.not_not.mp (of_decide_eq_false h)))
theorem em_c_lt {x y : Int32} {t : Nat} (h1 : x < y → em_wp sc d ix t lc st M Q) (h2 : ¬ x < y → em_wp sc d ix nx lc st M Q) : em_wp sc d ix (cond (em_cc .lt x y) t nx) lc st M Q := em_cnd (fun h => h1 (of_decide_eq_true h)) (fun h => h2 (of_decide_eq_false h))
theorem em_c_ge {x y : Int32} {t : Nat} (h1 : y ≤ x → em_wp sc d ix t lc st M Q) (h2 : ¬ y ≤ x → em_wp sc d ix nx lc st M Q) : em_wp sc d ix (cond (em_cc .ge x y) t nx) lc st M Q := em_cnd (fun h => h1 (of_decide_eq_true h)) (fun h => h2 (of_decide_eq_false h))
theorem em_c_gt {x y : Int32} {t : Nat} (h1 : y < x → em_wp sc d ix t lc st M Q) (h2 : ¬ y < x → em_wp sc d ix nx lc st M Q) : em_wp sc d ix (cond (em_cc .gt x y) t nx) lc st M Q := em_cnd (fun h => h1 (of_decide_eq_true h)) (fun h => h2 (of_decide_eq_false h))
theorem em_c_le {x y : Int32} {t : Nat} (h1 : x ≤ y → em_wp sc d ix t lc st M Q) (h2 : ¬ x ≤ y → em_wp sc d ix nx lc st M Q) : em_wp sc d ix (cond (em_cc .le x y) t nx) lc st M Q := em_cnd (fun h => h1 (of_decide_eq_true h)) (fun h => h2 (of_decide_eq_false h))
theorem em_b_eq {p : Prop} [Decidable p] {t : Nat} (h1 : ¬ p → em_wp sc d ix t lc st M Q) (h2 : p → em_wp sc d ix nx lc st M Q) : em_wp sc d ix (cond (em_cz .eq (em_bo p)) t nx) lc st M Q := em_z_eq (fun h => h1 fun q => by rw [em_bo_t q] at h; exact absurd h (by decide)) (fun h => h2 (Classical.byContradiction fun q => h (em_bo_f q)))
theorem em_b_ne {p : Prop} [Decidable p] {t : Nat} (h1 : p → em_wp sc d ix t lc st M Q) (h2 : ¬ p → em_wp sc d ix nx lc st M Q) : em_wp sc d ix (cond (em_cz .ne (em_bo p)) t nx) lc st M Q := em_z_ne (fun h => h1 (Classical.byContradiction fun q => h (em_bo_f q))) (fun h => h2 fun q => by rw [em_bo_t q] at h; exact absurd h (by decide))
end EMP
theorem em_in_of {i : Int32} {n : Nat} (h1 : 0 ≤ i) (h2 : i.toNatClampNeg < n) : em_in i n = true := by
  unfold em_in
  have e1 : ¬ i < 0 := by
    rw [Int32.lt_iff_toInt_lt]
    rw [Int32.le_iff_toInt_le] at h1
    omega
  have e2 : ¬ n ≤ i.toNatClampNeg := by omega
  simp [e1, e2]
