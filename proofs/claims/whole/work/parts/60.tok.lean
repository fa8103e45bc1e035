/-! a text as tokens -/
def tk_e (q : Nat → Bool) (L : Nat) : Nat → Nat → Nat
  | 0, i => i
  | f + 1, i => if i < L ∧ q i = true then tk_e q L f (i + 1) else i
def tk_end (q : Nat → Bool) (L i : Nat) : Nat := tk_e q L (L - i) i
theorem tk_end_eq {q : Nat → Bool} {L i k : Nat} (h1 : i ≤ k) (h2 : ∀ m, i ≤ m → m < k → m < L ∧ q m = true) (h3 : ¬ (k < L ∧ q k = true)) : tk_end q L i = k := by
  have key : ∀ f i, i ≤ k → k ≤ i + f → (∀ m, i ≤ m → m < k → m < L ∧ q m = true) → tk_e q L f i = k := by
    intro f
    induction f with
    | zero => intro i a b _; rw [tk_e]; omega
    | succ f ih =>
      intro i a b c
      rw [tk_e]
      by_cases e : i = k
      · subst e
        rw [if_neg h3]
      · rw [if_pos (c i (Nat.le_refl _) (by omega))]
        exact ih (i + 1) (by omega) (by omega) (fun m m1 m2 => c m (by omega) m2)
  refine key _ i h1 ?_ h2
  by_cases e : k = i
  · omega
  · have := (h2 (k - 1) (by omega) (by omega)).1
    omega
theorem tk_e_ge (q : Nat → Bool) (L f i : Nat) : i ≤ tk_e q L f i := by
  induction f generalizing i with
  | zero => exact Nat.le_refl _
  | succ f ih =>
    rw [tk_e]
    split
    · have := ih (i + 1); omega
    · exact Nat.le_refl _
theorem tk_end_ge (q : Nat → Bool) (L i : Nat) : i ≤ tk_end q L i := tk_e_ge q L _ i
def tk_b (c : Nat) : Bool := decide (c = 9 ∨ c = 10 ∨ c = 13 ∨ c = 32)
def tk_l (c : Nat) : Bool := decide (97 ≤ c ∧ c ≤ 122)
def tk_d (c : Nat) : Bool := decide (48 ≤ c ∧ c ≤ 57)
def tk_sg (c : Nat) : Nat := if c = 59 then 4 else if c = 61 then 5 else if c = 40 then 6 else if c = 41 then 7 else if c = 43 then 8 else if c = 45 then 9 else if c = 42 then 10 else if c = 47 then 15 else if c = 60 then 13 else 3
def tk_en (m : Nat) (b : Nat → Nat) (i : Nat) : Nat → Nat
  | 0 => 0
  | n + 1 => m * tk_en m b i n + (b (i + n) - 96)
def tk_nv (b : Nat → Nat) (i : Nat) : Nat → Nat
  | 0 => 0
  | n + 1 => 10 * tk_nv b i n + (b (i + n) - 48)
def tk_kw : List Nat := [20809171122, 114052, 402611, 16829075, 109359507, 3657363, 599495, 72590803, 627876, 294, 663726, 176741, 16110, 72564293, 72623556, 8423732, 4785364, 278194, 2212, 427481, 538529956]
def tk_wi (m : Nat) : Nat := tk_kw.idxOf m
def tk_pl (b : Nat → Nat) (L i : Nat) : Nat := tk_end (fun j => tk_b (b j)) L i
def tk_le (b : Nat → Nat) (L p : Nat) : Nat := tk_end (fun j => tk_l (b j)) L p
def tk_de (b : Nat → Nat) (L p : Nat) : Nat := tk_end (fun j => tk_d (b j)) L p
/-- the token at a place -/
def tk_Kp (b : Nat → Nat) (L p : Nat) : Nat := if L ≤ p then 0 else if tk_l (b p) then (if 8 < tk_le b L p - p then 3 else if tk_wi (tk_en 32 b p (tk_le b L p - p)) < 21 then 20 + tk_wi (tk_en 32 b p (tk_le b L p - p)) else 1) else if tk_d (b p) then (if 4 < tk_de b L p - p then 3 else 2) else tk_sg (b p)
def tk_np (b : Nat → Nat) (L p : Nat) : Nat := if L ≤ p then p else if tk_l (b p) then tk_le b L p else if tk_d (b p) then tk_de b L p else p + 1
def tk_x (b : Nat → Nat) (L : Nat) : Nat → Nat
  | 0 => 0
  | t + 1 => tk_np b L (tk_pl b L (tk_x b L t))
def tk_P (b : Nat → Nat) (L t : Nat) : Nat := tk_pl b L (tk_x b L t)
def tk_K (b : Nat → Nat) (L t : Nat) : Nat := tk_Kp b L (tk_P b L t)
def tk_V (b : Nat → Nat) (L t : Nat) : Nat := tk_nv b (tk_P b L t) (tk_de b L (tk_P b L t) - tk_P b L t)
def tk_N (b : Nat → Nat) (L t : Nat) : Nat := tk_en 32 b (tk_P b L t) (tk_le b L (tk_P b L t) - tk_P b L t)
/-- base 32 to base 27 -/
def tk_tr : Nat → Nat → Nat
  | 0, _ => 0
  | f + 1, m => 27 * tk_tr f (m / 32) + m % 32
def tk_vd : Nat → Nat → Prop
  | 0, m => m = 0
  | f + 1, m => m = 0 ∨ (1 ≤ m % 32 ∧ m % 32 ≤ 26 ∧ tk_vd f (m / 32))
theorem tk_tr_0 (f : Nat) : tk_tr f 0 = 0 := by
  induction f with
  | zero => rfl
  | succ f ih => rw [tk_tr, ih]
theorem tk_vd_0 (f : Nat) : tk_vd f 0 := by
  cases f with
  | zero => rfl
  | succ f => exact Or.inl rfl
theorem tk_tr_inj {f m m' : Nat} (h : tk_vd f m) (h' : tk_vd f m') (e : tk_tr f m = tk_tr f m') : m = m' := by
  induction f generalizing m m' with
  | zero => exact h.trans h'.symm
  | succ f ih =>
    rw [tk_tr, tk_tr] at e
    rcases h with h | ⟨h1, h2, h3⟩
    · subst h
      rcases h' with h' | ⟨h4, h5, h6⟩
      · exact h'.symm
      · rw [tk_tr_0] at e; omega
    · rcases h' with h' | ⟨h4, h5, h6⟩
      · subst h'
        rw [tk_tr_0] at e; omega
      · have := ih h3 h6 (by omega)
        omega
theorem tk_en_vd {b : Nat → Nat} {i n : Nat} (h : ∀ k, k < n → tk_l (b (i + k)) = true) : tk_vd n (tk_en 32 b i n) ∧ tk_tr n (tk_en 32 b i n) = tk_en 27 b i n := by
  induction n with
  | zero => exact ⟨rfl, rfl⟩
  | succ n ih =>
    have g := ih (fun k hk => h k (by omega))
    have hl := h n (by omega)
    unfold tk_l at hl
    have hl2 := of_decide_eq_true hl
    have e1 : (32 * tk_en 32 b i n + (b (i + n) - 96)) % 32 = b (i + n) - 96 := by omega
    have e2 : (32 * tk_en 32 b i n + (b (i + n) - 96)) / 32 = tk_en 32 b i n := by omega
    rw [tk_en, tk_en]
    refine ⟨Or.inr ⟨by omega, by omega, by rw [e2]; exact g.1⟩, ?_⟩
    rw [tk_tr, e1, e2, g.2]
theorem tk_vd_s {f m : Nat} (h : tk_vd f m) : tk_vd (f + 1) m ∧ tk_tr (f + 1) m = tk_tr f m := by
  induction f generalizing m with
  | zero =>
    have : m = 0 := h
    subst this
    exact ⟨Or.inl rfl, rfl⟩
  | succ f ih =>
    rcases h with h | ⟨h1, h2, h3⟩
    · subst h
      exact ⟨Or.inl rfl, by rw [tk_tr_0, tk_tr_0]⟩
    · have := ih h3
      exact ⟨Or.inr ⟨h1, h2, this.1⟩, by rw [tk_tr, this.2, tk_tr]⟩
theorem tk_vd_le {f g m : Nat} (h : tk_vd f m) (hg : f ≤ g) : tk_vd g m ∧ tk_tr g m = tk_tr f m := by
  induction hg with
  | refl => exact ⟨h, rfl⟩
  | step _ ih =>
    have := tk_vd_s ih.1
    exact ⟨this.1, this.2.trans ih.2⟩
theorem tk_en8 {b : Nat → Nat} {i n : Nat} (hn : n ≤ 8) (h : ∀ k, k < n → tk_l (b (i + k)) = true) : tk_vd 8 (tk_en 32 b i n) ∧ tk_tr 8 (tk_en 32 b i n) = tk_en 27 b i n := by
  have g := tk_en_vd h
  have g2 := tk_vd_le g.1 hn
  exact ⟨g2.1, g2.2.trans g.2⟩
theorem tk_vd_lt {f m : Nat} (h : tk_vd f m) : m < 32 ^ f ∧ tk_tr f m < 27 ^ f := by
  induction f generalizing m with
  | zero =>
    have : m = 0 := h
    subst this
    exact ⟨by decide, by decide⟩
  | succ f ih =>
    rcases h with h | ⟨h1, h2, h3⟩
    · subst h
      exact ⟨Nat.pow_pos (by decide), by rw [tk_tr_0]; exact Nat.pow_pos (by decide)⟩
    · have := ih h3
      rw [tk_tr, Nat.pow_succ, Nat.pow_succ]
      omega
theorem tk_kw_vd : ∀ i, i < 21 → tk_vd 8 (tk_kw.getD i 0) := by
  have key : ∀ i, i < 21 → (fun m => decide (tk_tr 8 m % 27 = m % 32)) (tk_kw.getD i 0) = true := by decide
  intro i hi
  have h8 : ∀ m ∈ tk_kw, tk_vd 8 m := by
    intro m hm
    simp only [tk_kw, List.mem_cons, List.not_mem_nil, or_false] at hm
    rcases hm with rfl | rfl | rfl | rfl | rfl | rfl | rfl | rfl | rfl | rfl | rfl | rfl | rfl | rfl | rfl | rfl | rfl | rfl | rfl | rfl | rfl <;> simp [tk_vd]
  have hl : tk_kw.length = 21 := rfl
  rw [List.getD_eq_getElem?_getD, List.getElem?_eq_getElem (by omega)]
  exact h8 _ (List.getElem_mem _)
