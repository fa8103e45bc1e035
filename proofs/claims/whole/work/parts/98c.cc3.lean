/-! closed runs in stages -/
theorem cc_li_no {l : List (Nat × Int32)} {j : Nat} (h : ∀ q ∈ l, ¬ j = q.1) : cc_li l j = 0 := by
  induction l with
  | nil => rfl
  | cons q l ih =>
    rw [cc_li, beq_if, if_neg (h q List.mem_cons_self)]
    exact ih (fun x hx => h x (List.mem_cons_of_mem _ hx))
theorem cc_lj_no {l : List (Nat × Int64)} {j : Nat} (h : ∀ q ∈ l, ¬ j = q.1) : cc_lj l j = 0 := by
  induction l with
  | nil => rfl
  | cons q l ih =>
    rw [cc_lj, beq_if, if_neg (h q List.mem_cons_self)]
    exact ih (fun x hx => h x (List.mem_cons_of_mem _ hx))
theorem cc_lr_no {l : List (Nat × Nat)} {j : Nat} (h : ∀ q ∈ l, ¬ j = q.1) : cc_lr l j = none := by
  induction l with
  | nil => rfl
  | cons q l ih =>
    rw [cc_lr, beq_if, if_neg (h q List.mem_cons_self)]
    exact ih (fun x hx => h x (List.mem_cons_of_mem _ hx))
def cc_eq (c e : cc_C) : Bool := (Nat.beq c.1 e.1 && Nat.beq c.2.1 e.2.1) && ((c.2.2.1.all (fun q => decide (cc_li c.2.2.1 q.1 = cc_li e.2.2.1 q.1)) && e.2.2.1.all (fun q => decide (cc_li c.2.2.1 q.1 = cc_li e.2.2.1 q.1))) && ((c.2.2.2.1.all (fun q => decide (cc_lj c.2.2.2.1 q.1 = cc_lj e.2.2.2.1 q.1)) && e.2.2.2.1.all (fun q => decide (cc_lj c.2.2.2.1 q.1 = cc_lj e.2.2.2.1 q.1))) && (c.2.2.2.2.all (fun q => decide (cc_lr c.2.2.2.2 q.1 = cc_lr e.2.2.2.2 q.1)) && e.2.2.2.2.all (fun q => decide (cc_lr c.2.2.2.2 q.1 = cc_lr e.2.2.2.2 q.1)))))
def cc_eqv : cc_M → cc_M → Bool
  | [], [] => true
  | c :: C, e :: E => cc_eq c e && cc_eqv C E
  | _, _ => false
theorem cc_eq_ok {c e : cc_C} (h : cc_eq c e = true) : (c.1 = e.1 ∧ c.2.1 = e.2.1) ∧ (∀ j, cc_li c.2.2.1 j = cc_li e.2.2.1 j) ∧ (∀ j, cc_lj c.2.2.2.1 j = cc_lj e.2.2.2.1 j) ∧ ∀ j, cc_lr c.2.2.2.2 j = cc_lr e.2.2.2.2 j := by
  unfold cc_eq at h
  simp only [Bool.and_eq_true, List.all_eq_true, decide_eq_true_eq] at h
  obtain ⟨⟨h1, h2⟩, ⟨h3, h4⟩, ⟨h5, h6⟩, h7, h8⟩ := h
  refine ⟨⟨Nat.eq_of_beq_eq_true h1, Nat.eq_of_beq_eq_true h2⟩, fun j => ?_, fun j => ?_, fun j => ?_⟩
  · by_cases a : ∃ q ∈ c.2.2.1, j = q.1
    · obtain ⟨q, q1, q2⟩ := a
      rw [q2]; exact h3 q q1
    · by_cases b : ∃ q ∈ e.2.2.1, j = q.1
      · obtain ⟨q, q1, q2⟩ := b
        rw [q2]; exact h4 q q1
      · rw [cc_li_no (fun q hq z => a ⟨q, hq, z⟩), cc_li_no (fun q hq z => b ⟨q, hq, z⟩)]
  · by_cases a : ∃ q ∈ c.2.2.2.1, j = q.1
    · obtain ⟨q, q1, q2⟩ := a
      rw [q2]; exact h5 q q1
    · by_cases b : ∃ q ∈ e.2.2.2.1, j = q.1
      · obtain ⟨q, q1, q2⟩ := b
        rw [q2]; exact h6 q q1
      · rw [cc_lj_no (fun q hq z => a ⟨q, hq, z⟩), cc_lj_no (fun q hq z => b ⟨q, hq, z⟩)]
  · by_cases a : ∃ q ∈ c.2.2.2.2, j = q.1
    · obtain ⟨q, q1, q2⟩ := a
      rw [q2]; exact h7 q q1
    · by_cases b : ∃ q ∈ e.2.2.2.2, j = q.1
      · obtain ⟨q, q1, q2⟩ := b
        rw [q2]; exact h8 q q1
      · rw [cc_lr_no (fun q hq z => a ⟨q, hq, z⟩), cc_lr_no (fun q hq z => b ⟨q, hq, z⟩)]
theorem cc_eqv_ok {C E : cc_M} (h : cc_eqv C E = true) : C.map (fun c => (c.1, c.2.1)) = E.map (fun c => (c.1, c.2.1)) ∧ ∀ a j : Nat, cc_oi C[a]? j = cc_oi E[a]? j ∧ cc_oj C[a]? j = cc_oj E[a]? j ∧ cc_or C[a]? j = cc_or E[a]? j := by
  induction C generalizing E with
  | nil =>
    cases E with
    | nil => exact ⟨rfl, fun a j => ⟨rfl, rfl, rfl⟩⟩
    | cons e E => exact Bool.noConfusion h
  | cons c C ih =>
    cases E with
    | nil => exact Bool.noConfusion h
    | cons e E =>
      rw [cc_eqv, Bool.and_eq_true] at h
      have g := cc_eq_ok h.1
      have k := ih h.2
      refine ⟨by rw [List.map_cons, List.map_cons, k.1, g.1.1, g.1.2], fun a j => ?_⟩
      cases a with
      | zero =>
        rw [List.getElem?_cons_zero, List.getElem?_cons_zero]
        exact ⟨g.2.1 j, g.2.2.1 j, g.2.2.2 j⟩
      | succ a =>
        rw [List.getElem?_cons_succ, List.getElem?_cons_succ]
        exact k.2 a j
theorem cc_eqv_den {C E : cc_M} (h : cc_eqv C E = true) : den C = den E := by
  have g := cc_eqv_ok h
  refine Prod.ext g.1 (Prod.ext ?_ (Prod.ext ?_ ?_))
  · funext a j; exact (g.2 a j).1
  · funext a j; exact (g.2 a j).2.1
  · funext a j; exact (g.2 a j).2.2
/-- up to a place of the same method -/
def cc_go : Nat → Nat → Nat → Nat → Nat → em_L → List Value → cc_M → Option (em_L × List Value × cc_M)
  | 0, _, _, _, _, _, _, _ => none
  | n + 1, d, ix, stop, pc, lc, st, C => cond (Nat.beq pc stop) (some (lc, st, C)) (match em_ins ix pc with
    | none => none
    | some (i, nx) => match cc_do ix i nx lc st C with
      | none => none
      | some (.inl (pc', lc', st', C')) => cc_go n d ix stop pc' lc' st' C'
      | some (.inr (.inl (y, nx, as, rest))) => match d with
        | 0 => none
        | d' + 1 => match cc_run n d' y 0 (em_loc y as) [] C with
          | none => none
          | some (r, C') => cc_go n (d' + 1) ix stop nx lc (r.toList ++ rest) C'
      | some (.inr (.inr _)) => none)
theorem cc_go_ok {n d ix stop pc : Nat} {lc lc' : em_L} {st st' : List Value} {C C' : cc_M} {Q : Option Value → em_M → Prop} (h : cc_go n d ix stop pc lc st C = some (lc', st', C')) (hQ : em_wp em_sc0 d ix stop lc' st' (den C') Q) : em_wp em_sc0 d ix pc lc st (den C) Q := by
  induction n generalizing pc lc st C with
  | zero => cases h
  | succ n ih =>
    rw [cc_go] at h
    cases hb : Nat.beq pc stop with
    | true =>
      rw [hb] at h
      cases h
      rw [Nat.eq_of_beq_eq_true hb]
      exact hQ
    | false =>
      rw [hb] at h
      dsimp only [cond] at h
      cases he : em_ins ix pc with
      | none => rw [he] at h; cases h
      | some q =>
        obtain ⟨i, nx⟩ := q
        rw [he] at h
        dsimp only at h
        cases hd : cc_do ix i nx lc st C with
        | none => rw [hd] at h; cases h
        | some x =>
          rw [hd] at h
          have hs : em_stp em_sc0 ix pc lc st (den C) = some (cc_dx x) := by
            unfold em_stp
            rw [he]
            exact cc_do_ok hd
          match x, h, hs with
          | .inl (pc', lc1, st1, C1), h, hs => exact em_next hs (ih h)
          | .inr (.inl (y, nx', as, rest)), h, hs =>
            cases d with
            | zero => cases h
            | succ d' =>
              dsimp only at h
              cases hc : cc_run n d' y 0 (em_loc y as) [] C with
              | none => rw [hc] at h; cases h
              | some q =>
                obtain ⟨r1, C1⟩ := q
                rw [hc] at h
                exact em_inv_call hs (cc_call hc (ih h))
          | .inr (.inr r1), h, _ => cases h
def cc_stg (n d ix stop pc a : Nat) (S E : cc_M) : Bool := match cc_go n d ix stop pc [some (.ref a)] [] S with
  | some ([some (.ref b)], [], C) => Nat.beq b a && cc_eqv C E
  | _ => false
theorem cc_stg_ok {n d ix stop pc a : Nat} {S E : cc_M} {Q : Option Value → em_M → Prop} (h : cc_stg n d ix stop pc a S E = true) (hQ : em_wp em_sc0 d ix stop [some (.ref a)] [] (den E) Q) : em_wp em_sc0 d ix pc [some (.ref a)] [] (den S) Q := by
  unfold cc_stg at h
  split at h
  · rename_i b C he
    rw [Bool.and_eq_true] at h
    have e := Nat.eq_of_beq_eq_true h.1
    subst e
    refine cc_go_ok he ?_
    rw [cc_eqv_den h.2]
    exact hQ
  · cases h
