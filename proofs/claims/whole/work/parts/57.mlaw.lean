/-! the reference's laws -/
section MLAW
variable {d lw lv : Nat} {I I0 : Nat → Nat → Int32} {J : Nat → Nat → Int64} {Q : Option Value → em_M → Prop}
theorem em_pred2 {n : Nat} (h : 1 ≤ n) : nI n + Int32.ofInt (-1) = nI (n - 1) := by
  obtain ⟨m, rfl⟩ : ∃ m, n = m + 1 := ⟨n - 1, by omega⟩
  rw [nI_succ, Int32.add_assoc, show (1 : Int32) + Int32.ofInt (-1) = 0 from rfl, Int32.add_zero, Nat.add_sub_cancel]
theorem em_eoE : ∀ k, k < 6 → 2 ≤ k → True := fun _ _ _ => trivial
theorem me_term_l {hi : Nat} {c : ek_cd} {a n k : Nat} {x1 : Int32} {g : Nat → Int32} {o1 o2 o3 : Option Value} (hc : mcd I a c) (hw : ek_wd 400 c n 1) (hb : a + c.length = hi) (hhi : hi ≤ 840) (hg : ∀ i, i < n → I 313 i = g i) (hn : n ≤ 400) (ho : ∀ w, o3 = some w → w.category = 1) (ho2 : ∀ w, o2 = some w → w.category = 1) (ho1 : ∀ w, o1 = some w → w.category = 1)
    (h1 : ∀ (I' : Nat → Nat → Int32) (r : Nat → Int32), ek_ev (I 312) c n g = some r → (∀ x, x ≠ 313 → I' x = I x) → Q (some (.int (r 0))) (em_SH, I', J, em_RT lw))
    (h2 : ∀ I' : Nat → Nat → Int32, ek_ev (I 312) c n g = none → (∀ x, x ≠ 313 → x ≠ 284 → I' x = I x) → I' 284 46 = 1 → (∀ j, j ≠ 46 → I' 284 j = I 284 j) → Q (some (.int 0)) (em_SH, I', J, em_RT lw)) :
    em_wp em_sc0 d 199 5 [some (.ref 284), some (.int (x1)), some (.int (nI hi)), some (.int (nI n)), some (.int (nI a)), o1, o2, o3] [] (em_SH, I, J, em_RT lw) Q := by
  induction c generalizing a n g I o1 o2 o3 with
  | nil =>
    have e : a = hi := by rw [List.length_nil] at hb; omega
    subst e
    have hn1 : n = 1 := hw
    iterate 3 refine em_next rfl ?_
    refine em_c_ge (fun _ => ?_) (fun h1 => absurd (nI_le (Nat.le_refl _) (by omega)) h1)
    iterate 3 refine em_next rfl ?_
    refine em_ialE (k := 0) rfl rfl rfl (by decide) (by decide) ?_
    refine em_doneE rfl (hg 0 (by omega)) ?_
    exact h1 I g rfl (fun _ _ => rfl)
  | cons q c ih =>
    obtain ⟨c1, c2, c3⟩ := hc
    rw [List.length_cons] at hb
    rw [ek_wd] at hw
    have hq : q.1 < 2 ^ 31 := by
      by_cases z : q.1 < 2
      · omega
      · rw [if_neg z] at hw; omega
    iterate 3 refine em_next rfl ?_
    refine em_c_ge (fun h1 => absurd h1 (nI_ge (by omega) (by omega))) (fun _ => ?_)
    iterate 3 refine em_next rfl ?_
    refine em_ialn rfl rfl (by omega) (by decide) ?_
    refine em_tp c1 ?_
    iterate 4 refine em_next rfl ?_
    refine em_c_geE (x' := nI q.1) rfl (y' := nI 2) rfl (fun z => ?_) (fun z => ?_)
    · have z2 : ¬ q.1 < 2 := Nat.not_lt.mpr ((nI_leI (by decide) hq).mp z)
      rw [if_neg z2] at hw
      obtain ⟨w1, w2, w3⟩ := hw
      have en := ek_ev (I 312) (q :: c) n g
      rw [ek_ev, if_neg z2] at h1 h2
      iterate 1 refine em_next rfl ?_
      iterate 5 refine em_next rfl ?_
      refine em_ialE (k := n - 2) rfl rfl ?_ (by omega) (by decide) ?_
      · show nI n + Int32.ofInt (-1) - 1 = nI (n - 2)
        rw [em_pred2 (by omega), em_pred (by omega)]
        congr 1
      refine em_tp (hg (n - 2) (by omega)) ?_
      iterate 4 refine em_next rfl ?_
      refine em_ialE (k := n - 1) rfl rfl (em_pred2 (by omega)) (by omega) (by decide) ?_
      refine em_tp (hg (n - 1) (by omega)) ?_
      have fin : ¬ (q.1 = 5 ∧ g (n - 1) = 0) → em_wp em_sc0 d 199 104 [some (.ref 284), some (.int (x1)), some (.int (nI hi)), some (.int (nI n + Int32.ofInt (-1))), some (.int (nI a)), some (.int (nI q.1)), some (.int (g (n - 2))), some (.int (g (n - 1)))] [] (em_SH, I, J, em_RT lw) Q := fun zz => by
        rw [if_neg zz] at h1 h2
        have fin2 : em_wp em_sc0 d 199 158 [some (.ref 284), some (.int (x1)), some (.int (nI hi)), some (.int (nI n + Int32.ofInt (-1))), some (.int (nI a)), some (.int (nI q.1)), some (.int (g (n - 2))), some (.int (g (n - 1)))] [.int (ek_eo q.1 (g (n - 2)) (g (n - 1))), .int (nI n + Int32.ofInt (-1) - 1), .ref 313] (em_SH, I, J, em_RT lw) Q := by
          refine em_iasE (k := n - 2) rfl rfl ?_ (by omega) (by decide) ?_
          · rw [em_pred2 (by omega), em_pred (by omega)]
            congr 1
          have hr1 : ∀ x, x ≠ 313 → em_u I 313 (n - 2) (ek_eo q.1 (g (n - 2)) (g (n - 1))) x = I x := fun x hx => em_u_row hx
          have g2 := ih (a := a + 1) (n := n - 1) (I := em_u I 313 (n - 2) (ek_eo q.1 (g (n - 2)) (g (n - 1)))) (g := ek_eu g (n - 2) (ek_eo q.1 (g (n - 2)) (g (n - 1)))) (o1 := some (.int (nI q.1))) (o2 := some (.int (g (n - 2)))) (o3 := some (.int (g (n - 1)))) (c3.keep (lo := 0) (hi := hi) (by omega) (by omega) (fun j _ _ => ⟨by rw [hr1 _ (by decide)], by rw [hr1 _ (by decide)]⟩)) w3 (by omega) (fun i hi => by
            by_cases e : i = n - 2
            · subst e; rw [em_u_self, ek_eus]
            · rw [em_u_ne e, ek_eun e]; exact hg i (by omega)) (by omega) (fun w e => by cases e; rfl) (fun w e => by cases e; rfl) (fun w e => by cases e; rfl) (fun I' r e f => h1 I' r (by rw [hr1 _ (by decide)] at e; exact e) (fun x hx => (f x hx).trans (hr1 x hx))) (fun I' e f f2 f3 => h2 I' (by rw [hr1 _ (by decide)] at e; exact e) (fun x hx hx2 => (f x hx hx2).trans (hr1 x hx)) f2 (fun j hj => (f3 j hj).trans (by rw [hr1 _ (by decide)])))
          rw [em_pred2 (by omega)]
          rw [nI_succ] at g2
          iterate 2 refine em_next rfl ?_
          exact g2
        unfold ek_eo at fin2
        iterate 8 refine em_next rfl ?_
        refine em_c_neE rfl (y' := nI 2) rfl (fun y => ?_) (fun y => ?_)
        · have y2 : ¬ q.1 = 2 := fun e => y (by rw [e])
          rw [if_neg y2] at fin2
          iterate 3 refine em_next rfl ?_
          refine em_c_neE rfl (y' := nI 3) rfl (fun y => ?_) (fun y => ?_)
          · have y3 : ¬ q.1 = 3 := fun e => y (by rw [e])
            rw [if_neg y3] at fin2
            iterate 3 refine em_next rfl ?_
            refine em_c_neE rfl (y' := nI 4) rfl (fun y => ?_) (fun y => ?_)
            · have y4 : ¬ q.1 = 4 := fun e => y (by rw [e])
              rw [if_neg y4] at fin2
              have y5 : q.1 = 5 := by omega
              have y6 : ¬ g (n - 1) = 0 := fun e => zz ⟨y5, e⟩
              iterate 2 refine em_next rfl ?_
              refine em_next ?_ fin2
              unfold em_stp
              rw [show em_ins 199 157 = some (.idiv, 158) from rfl]
              unfold em_do
              dsimp only
              rw [if_neg y6]
              rfl
            · rw [if_pos ((nI_eq hq (by decide)).mp y)] at fin2
              iterate 4 refine em_next rfl ?_
              exact fin2
          · rw [if_pos ((nI_eq hq (by decide)).mp y)] at fin2
            iterate 4 refine em_next rfl ?_
            exact fin2
        · rw [if_pos ((nI_eq hq (by decide)).mp y)] at fin2
          iterate 4 refine em_next rfl ?_
          exact fin2
      iterate 4 refine em_next rfl ?_
      refine em_c_neE rfl (y' := nI 5) rfl (fun y => ?_) (fun y => ?_)
      · exact fin (fun e => y (by rw [e.1]))
      · have y5 : q.1 = 5 := (nI_eq hq (by decide)).mp y
        iterate 2 refine em_next rfl ?_
        refine em_z_ne (fun y => ?_) (fun y => ?_)
        · exact fin (fun e => y e.2)
        · rw [if_pos ⟨y5, y⟩] at h2
          iterate 4 refine em_next rfl ?_
          refine em_done rfl ?_
          show Q (some (.int 0)) (em_SH, em_u I 284 46 1, J, em_RT lw)
          exact h2 _ rfl (fun x _ hx => em_u_row hx) em_u_self (fun j hj => em_u_ne hj)
    · have z2 : q.1 < 2 := Nat.not_le.mp (fun e => z ((nI_leI (by decide) hq).mpr e))
      rw [if_pos z2] at hw
      obtain ⟨w1, w2, w3, w4⟩ := hw
      rw [ek_ev, if_pos z2] at h1 h2
      have fin : ∀ x : Int32, x = (if q.1 = 0 then nI q.2 else I 312 q.2) → em_wp em_sc0 d 199 58 [some (.ref 284), some (.int (x1)), some (.int (nI hi)), some (.int (nI n)), some (.int (nI a)), some (.int (nI q.1)), o2, o3] [.int x, .int (nI n), .ref 313] (em_SH, I, J, em_RT lw) Q := fun x ek_ex => by
        subst ek_ex
        refine em_iasn rfl rfl (by omega) (by decide) ?_
        have hr1 : ∀ y, y ≠ 313 → em_u I 313 n (if q.1 = 0 then nI q.2 else I 312 q.2) y = I y := fun y hy => em_u_row hy
        have g2 := ih (a := a + 1) (n := n + 1) (I := em_u I 313 n (if q.1 = 0 then nI q.2 else I 312 q.2)) (g := ek_eu g n (if q.1 = 0 then nI q.2 else I 312 q.2)) (o1 := some (.int (nI q.1))) (o2 := o2) (o3 := o3) (c3.keep (lo := 0) (hi := hi) (by omega) (by omega) (fun j _ _ => ⟨by rw [hr1 _ (by decide)], by rw [hr1 _ (by decide)]⟩)) w4 (by omega) (fun i hi => by
          by_cases e : i = n
          · subst e; rw [em_u_self, ek_eus]
          · rw [em_u_ne e, ek_eun e]; exact hg i (by omega)) (by omega) ho ho2 (fun w e => by cases e; rfl) (fun I' r e f => h1 I' r (by rw [hr1 _ (by decide)] at e; exact e) (fun x hx => (f x hx).trans (hr1 x hx))) (fun I' e f f2 f3 => h2 I' (by rw [hr1 _ (by decide)] at e; exact e) (fun x hx hx2 => (f x hx hx2).trans (hr1 x hx)) f2 (fun j hj => (f3 j hj).trans (by rw [hr1 _ (by decide)])))
        rw [nI_succ, nI_succ] at g2
        iterate 2 refine em_next rfl ?_
        iterate 2 refine em_next rfl ?_
        exact g2
      iterate 5 refine em_next rfl ?_
      refine em_z_ne (fun y => ?_) (fun y => ?_)
      · have y2 : ¬ q.1 = 0 := fun e => y (by rw [e]; rfl)
        have hx := w1 (by omega)
        iterate 5 refine em_next rfl ?_
        refine em_ialn rfl rfl (by omega) (by decide) ?_
        refine em_ialE (k := q.2) rfl rfl c2 (by omega) (by decide) ?_
        exact fin _ (by rw [if_neg y2])
      · have y2 : q.1 = 0 := (nI_eq (b := 0) hq (by decide)).mp y
        iterate 3 refine em_next rfl ?_
        refine em_ialn rfl rfl (by omega) (by decide) ?_
        iterate 1 refine em_next rfl ?_
        exact fin _ (by rw [if_pos y2]; exact c2)
end MLAW
