/-! the class's laws -/
def cst (q : Nat × Nat) : Int32 := if q.1 = 0 then nI q.2 else if q.1 = 1 then -1 - nI q.2 else if q.1 = 2 then -10 else if q.1 = 3 then -11 else if q.1 = 4 then -12 else -13
def cfl : List ek_br → ek_cd → List Int32
  | [], t => t.map cst ++ [-15]
  | q :: bs, t => q.1.map cst ++ (q.2.1.map cst ++ (-14 :: nI (q.2.2.length + 1) :: (q.2.2.map cst ++ (-15 :: cfl bs t))))
def dk (k : Nat) : ek_cd := if k = 0 then [(1, 0)] else if k = 2 then [(0, 0)] else [(0, 1)]
def lsome (k : Nat) : ek_lw → List ek_br × ek_cd
  | none => ([], dk k)
  | some q => q
def csq (g : Nat → Int32) : Nat → List Int32 → Prop
  | _, [] => True
  | a, x :: s => g a = x ∧ csq g (a + 1) s
theorem csq_app {g : Nat → Int32} {a : Nat} {s t : List Int32} : csq g a (s ++ t) ↔ csq g a s ∧ csq g (a + s.length) t := by
  induction s generalizing a with
  | nil => exact ⟨fun h => ⟨trivial, h⟩, fun h => h.2⟩
  | cons x s ih =>
    rw [List.cons_append, csq, csq, ih, List.length_cons, show a + 1 + s.length = a + (s.length + 1) by omega, and_assoc]
theorem csq.keep {g g' : Nat → Int32} {a hi : Nat} {s : List Int32} (h : csq g a s) (hb : a + s.length ≤ hi) (he : ∀ j, j < hi → g' j = g j) : csq g' a s := by
  induction s generalizing a with
  | nil => trivial
  | cons x s ih =>
    rw [List.length_cons] at hb
    exact ⟨(he a (by omega)).trans h.1, ih h.2 (by omega)⟩
theorem cst_gt : ∀ x, x < 9 → -10 < -1 - nI x ∧ -1 - nI x < 0 ∧ -1 - (-1 - nI x) = nI x := by decide +kernel
theorem cst_op : ∀ k, 2 ≤ k → k ≤ 5 → cst (k, 0) ≤ -10 ∧ ¬ cst (k, 0) = -15 ∧ (cst (k, 0) = -13 ↔ k = 5) := by
  intro k h1 h2
  rcases (show k = 2 ∨ k = 3 ∨ k = 4 ∨ k = 5 by omega) with rfl | rfl | rfl | rfl <;> decide
theorem cst_op0 {q : Nat × Nat} (h : 2 ≤ q.1) : cst q = cst (q.1, 0) := by
  unfold cst
  dsimp only
  simp only [if_neg (show ¬ q.1 = 0 by omega), if_neg (show ¬ q.1 = 1 by omega)]
section CLAW
variable {d lw : Nat} {I I0 : Nat → Nat → Int32} {J : Nat → Nat → Int64} {Q : Option Value → em_M → Prop}
theorem em_z_ltE {sc : Nat × (Nat → Int32)} {ix nx : Nat} {lc : em_L} {st : List Value} {M : em_M} {x x' : Int32} {t : Nat} (ek_ex : x = x') (h1 : x' < 0 → em_wp sc d ix t lc st M Q) (h2 : ¬ x' < 0 → em_wp sc d ix nx lc st M Q) : em_wp sc d ix (cond (em_cz .lt x) t nx) lc st M Q := by
  rw [ek_ex]
  exact em_z_lt h1 h2
theorem ce_seg_plan_lies {c : ek_cd} {a n m len : Nat} {g : Nat → Int32} {o1 o2 o3 : Option Value} (hs : csq (I 28) a (c.map cst)) (hw : ek_wd 16 c n m) (hb : a + c.length ≤ len) (hlen : len ≤ 400) (hL : I 27 2 = nI len) (hg : ∀ i, i < n → I 29 i = g i) (hn : n ≤ 16)
    (h1 : ∀ (I' : Nat → Nat → Int32) (r : Nat → Int32) (o1 o2 o3 : Option Value), ek_ev (I 39) c n g = some r → (∀ x, x ≠ 29 → I' x = I x) → (∀ i, i < m → I' 29 i = r i) → em_wp em_sc0 d 15 4 [some (.ref 27), some (.ref 39), some (.int (nI m)), some (.int (nI (a + c.length))), o1, o2, o3] [] (em_SH, I', J, em_RT lw) Q)
    (h2 : ∀ I' : Nat → Nat → Int32, ek_ev (I 39) c n g = none → (∀ x, x ≠ 29 → I' x = I x) → Q (some (.int 0)) (em_SH, I', J, em_RT lw)) :
    em_wp em_sc0 d 15 4 [some (.ref 27), some (.ref 39), some (.int (nI n)), some (.int (nI a)), o1, o2, o3] [] (em_SH, I, J, em_RT lw) Q := by
  induction c generalizing a n g I o1 o2 o3 with
  | nil =>
    have hn1 : n = m := hw
    subst hn1
    exact h1 I g o1 o2 o3 rfl (fun _ _ => rfl) hg
  | cons q c ih =>
    rw [List.map_cons, csq] at hs
    rw [List.length_cons] at hb
    rw [ek_wd] at hw
    iterate 4 refine em_next rfl ?_
    refine em_c_geE rfl hL (fun h1 => absurd h1 (nI_ge (by omega) (by omega))) (fun _ => ?_)
    iterate 3 refine em_next rfl ?_
    refine em_ialn rfl rfl (by omega) (by decide) ?_
    refine em_tp hs.1 ?_
    iterate 4 refine em_next rfl ?_
    by_cases z2 : q.1 < 2
    · rw [if_pos z2] at hw
      obtain ⟨w1, w2, w3, w4⟩ := hw
      rw [ek_ev, if_pos z2] at h1 h2
      have hgt : -10 < cst q := by
        unfold cst
        by_cases y : q.1 = 0
        · rw [if_pos y]
          exact Int32.lt_of_lt_of_le (by decide) (nI_pos' (by omega))
        · rw [if_neg y, if_pos (by omega)]
          exact (cst_gt _ (w1 (by omega))).1
      refine em_c_leE (x' := cst q) rfl (y' := -10) rfl (fun z => absurd hgt (Int32.not_lt.mpr z)) (fun _ => ?_)
      iterate 3 refine em_next rfl ?_
      refine em_c_ltE rfl (y' := nI 16) rfl (fun _ => ?_) (fun z => absurd (nI_lt (by omega) (by decide)) z)
      have fin : em_wp em_sc0 d 15 56 [some (.ref 27), some (.ref 39), some (.int (nI n)), some (.int (nI a)), some (.int (cst q)), o2, o3] [.int (if q.1 = 0 then nI q.2 else I 39 q.2), .int (nI n), .ref 29] (em_SH, I, J, em_RT lw) Q := by
        refine em_iasn rfl rfl (by omega) (by decide) ?_
        have hr1 : ∀ y, y ≠ 29 → em_u I 29 n (if q.1 = 0 then nI q.2 else I 39 q.2) y = I y := fun y hy => em_u_row hy
        have g2 := ih (a := a + 1) (n := n + 1) (I := em_u I 29 n (if q.1 = 0 then nI q.2 else I 39 q.2)) (g := ek_eu g n (if q.1 = 0 then nI q.2 else I 39 q.2)) (o1 := some (.int (cst q))) (o2 := o2) (o3 := o3) (by rw [hr1 _ (by decide)]; exact hs.2) w4 (by omega) (by rw [hr1 _ (by decide)]; exact hL) (fun i hi => by
          by_cases e : i = n
          · subst e; rw [em_u_self, ek_eus]
          · rw [em_u_ne e, ek_eun e]; exact hg i (by omega)) (by omega) (fun I' r o1 o2 o3 e f f2 => by
            have := h1 I' r o1 o2 o3 (by rw [hr1 _ (by decide)] at e; exact e) (fun x hx => (f x hx).trans (hr1 x hx)) f2
            rw [List.length_cons, show a + (c.length + 1) = a + 1 + c.length by omega] at this
            exact this) (fun I' e f => h2 I' (by rw [hr1 _ (by decide)] at e; exact e) (fun x hx => (f x hx).trans (hr1 x hx)))
        rw [nI_succ, nI_succ] at g2
        iterate 2 refine em_next rfl ?_
        iterate 2 refine em_next rfl ?_
        exact g2
      iterate 5 refine em_next rfl ?_
      by_cases y : q.1 = 0
      · rw [if_pos y] at fin
        have ec : cst q = nI q.2 := if_pos y
        refine em_z_ltE (x' := nI q.2) ec (fun z => absurd z (nI_pos (by omega))) (fun _ => ?_)
        iterate 1 refine em_next rfl ?_
        refine em_tp ec ?_
        iterate 1 refine em_next rfl ?_
        exact fin
      · rw [if_neg y] at fin
        have hx := w1 (by omega)
        have ec : cst q = -1 - nI q.2 := by unfold cst; rw [if_neg y, if_pos (by omega)]
        refine em_z_ltE (x' := -1 - nI q.2) ec (fun _ => ?_) (fun z => absurd (cst_gt _ hx).2.1 z)
        iterate 4 refine em_next rfl ?_
        refine em_ialE (k := q.2) rfl rfl ?_ (by omega) (by decide) ?_
        · show -1 - cst q = nI q.2
          rw [ec]
          exact (cst_gt _ hx).2.2
        exact fin
    · rw [if_neg z2] at hw
      obtain ⟨w1, w2, w3⟩ := hw
      rw [ek_ev, if_neg z2] at h1 h2
      have hc0 := cst_op0 (q := q) (by omega)
      have hco := cst_op q.1 (by omega) w1
      rw [← hc0] at hco
      refine em_c_leE (x' := cst q) rfl (y' := -10) rfl (fun _ => ?_) (fun z => absurd hco.1 z)
      iterate 3 refine em_next rfl ?_
      refine em_c_eqE (x' := cst q) rfl (y' := -15) rfl (fun z => absurd z hco.2.1) (fun _ => ?_)
      iterate 3 refine em_next rfl ?_
      refine em_c_geE rfl (y' := nI 2) rfl (fun _ => ?_) (fun z => absurd (nI_le w2 (by omega)) z)
      iterate 6 refine em_next rfl ?_
      refine em_ialE (k := n - 2) rfl rfl ?_ (by omega) (by decide) ?_
      · show nI n + Int32.ofInt (-1) - 1 = nI (n - 2)
        rw [em_pred2 (by omega), em_pred (by omega)]
        congr 1
      refine em_tp (hg (n - 2) (by omega)) ?_
      iterate 4 refine em_next rfl ?_
      refine em_ialE (k := n - 1) rfl rfl (em_pred2 (by omega)) (by omega) (by decide) ?_
      refine em_tp (hg (n - 1) (by omega)) ?_
      have fin2 : ¬ (q.1 = 5 ∧ g (n - 1) = 0) → ∀ (pc : Nat), em_ins 15 pc = some (.iastore, pc + 1) → em_ins 15 (pc + 1) = some (.goto 260, pc + 4) → em_wp em_sc0 d 15 pc [some (.ref 27), some (.ref 39), some (.int (nI n + Int32.ofInt (-1))), some (.int (nI a)), some (.int (cst q)), some (.int (g (n - 2))), some (.int (g (n - 1)))] [.int (ek_eo q.1 (g (n - 2)) (g (n - 1))), .int (nI n + Int32.ofInt (-1) - 1), .ref 29] (em_SH, I, J, em_RT lw) Q := fun zz pc hp1 hp2 => by
        rw [if_neg zz] at h1 h2
        refine em_iasE (k := n - 2) hp1 rfl ?_ (by omega) (by decide) ?_
        · rw [em_pred2 (by omega), em_pred (by omega)]
          congr 1
        have hr1 : ∀ x, x ≠ 29 → em_u I 29 (n - 2) (ek_eo q.1 (g (n - 2)) (g (n - 1))) x = I x := fun x hx => em_u_row hx
        have g2 := ih (a := a + 1) (n := n - 1) (I := em_u I 29 (n - 2) (ek_eo q.1 (g (n - 2)) (g (n - 1)))) (g := ek_eu g (n - 2) (ek_eo q.1 (g (n - 2)) (g (n - 1)))) (o1 := some (.int (cst q))) (o2 := some (.int (g (n - 2)))) (o3 := some (.int (g (n - 1)))) (by rw [hr1 _ (by decide)]; exact hs.2) w3 (by omega) (by rw [hr1 _ (by decide)]; exact hL) (fun i hi => by
          by_cases e : i = n - 2
          · subst e; rw [em_u_self, ek_eus]
          · rw [em_u_ne e, ek_eun e]; exact hg i (by omega)) (by omega) (fun I' r o1 o2 o3 e f f2 => by
            have := h1 I' r o1 o2 o3 (by rw [hr1 _ (by decide)] at e; exact e) (fun x hx => (f x hx).trans (hr1 x hx)) f2
            rw [List.length_cons, show a + (c.length + 1) = a + 1 + c.length by omega] at this
            exact this) (fun I' e f => h2 I' (by rw [hr1 _ (by decide)] at e; exact e) (fun x hx => (f x hx).trans (hr1 x hx)))
        rw [em_pred2 (by omega)]
        rw [nI_succ] at g2
        refine em_next (pc' := 260) (lc' := [some (.ref 27), some (.ref 39), some (.int (nI (n - 1))), some (.int (nI a)), some (.int (cst q)), some (.int (g (n - 2))), some (.int (g (n - 1)))]) (st' := []) (M' := (em_SH, em_u I 29 (n - 2) (ek_eo q.1 (g (n - 2)) (g (n - 1))), J, em_RT lw)) ?_ ?_
        · unfold em_stp
          rw [hp2]
          rfl
        iterate 2 refine em_next rfl ?_
        exact g2
      have fin : ¬ (q.1 = 5 ∧ g (n - 1) = 0) → em_wp em_sc0 d 15 126 [some (.ref 27), some (.ref 39), some (.int (nI n + Int32.ofInt (-1))), some (.int (nI a)), some (.int (cst q)), some (.int (g (n - 2))), some (.int (g (n - 1)))] [] (em_SH, I, J, em_RT lw) Q := fun zz => by
        have fz := fin2 zz
        unfold ek_eo at fz
        rcases (show q.1 = 2 ∨ q.1 = 3 ∨ q.1 = 4 ∨ q.1 = 5 by omega) with y | y | y | y
        · rw [if_pos y] at fz
          rw [hc0, y]
          rw [hc0, y] at fz
          iterate 10 refine em_next rfl ?_
          exact fz 172 rfl rfl
        · rw [if_neg (by omega), if_pos y] at fz
          rw [hc0, y]
          rw [hc0, y] at fz
          iterate 10 refine em_next rfl ?_
          exact fz 188 rfl rfl
        · rw [if_neg (by omega), if_neg (by omega), if_pos y] at fz
          rw [hc0, y]
          rw [hc0, y] at fz
          iterate 10 refine em_next rfl ?_
          exact fz 204 rfl rfl
        · rw [if_neg (by omega), if_neg (by omega), if_neg (by omega)] at fz
          have y6 : ¬ g (n - 1) = 0 := fun e => zz ⟨y, e⟩
          rw [hc0, y]
          rw [hc0, y] at fz
          iterate 9 refine em_next rfl ?_
          refine em_next ?_ (fz 220 rfl rfl)
          unfold em_stp
          rw [show em_ins 15 219 = some (.idiv, 220) from rfl]
          unfold em_do
          dsimp only
          rw [if_neg y6]
          rfl
      iterate 4 refine em_next rfl ?_
      refine em_c_neE (x' := cst q) rfl (y' := -13) rfl (fun y => ?_) (fun y => ?_)
      · exact fin (fun e => y (hco.2.2.mpr e.1))
      · have y5 : q.1 = 5 := hco.2.2.mp y
        iterate 2 refine em_next rfl ?_
        refine em_z_ne (fun y => ?_) (fun y => ?_)
        · exact fin (fun e => y e.2)
        · rw [if_pos ⟨y5, y⟩] at h2
          iterate 1 refine em_next rfl ?_
          exact em_done rfl (h2 I rfl (fun _ _ => rfl))
theorem ce_lessB_plan_lies {a len sk : Nat} {x2 l r : Int32} {o1 : Option Value} (ha : a + 1 < len) (hlen : len ≤ 400) (hL : I 27 2 = nI len) (hs : I 28 (a + 1) = nI sk) (hsk : sk ≤ 400)
    (h1 : l < r → em_wp em_sc0 d 15 4 [some (.ref 27), some (.ref 39), some (.int (0)), some (.int (nI (a + 2))), o1, some (.int (l)), some (.int (r))] [] (em_SH, I, J, em_RT lw) Q)
    (h2 : ¬ l < r → em_wp em_sc0 d 15 4 [some (.ref 27), some (.ref 39), some (.int (0)), some (.int (nI (a + 2 + sk))), o1, some (.int (l)), some (.int (r))] [] (em_SH, I, J, em_RT lw) Q) :
    em_wp em_sc0 d 15 224 [some (.ref 27), some (.ref 39), some (.int (x2)), some (.int (nI a)), o1, some (.int (l)), some (.int (r))] [] (em_SH, I, J, em_RT lw) Q := by
  iterate 6 refine em_next rfl ?_
  refine em_c_lt (fun z => ?_) (fun z => ?_)
  · have g := h1 z
    rw [show a + 2 = (a + 1) + 1 by omega, nI_succ] at g
    iterate 3 refine em_next rfl ?_
    refine em_tp (y := nI (a + 1)) (by rw [nI_succ]; rfl) ?_
    iterate 3 refine em_next rfl ?_
    exact g
  · have g := h2 z
    rw [show a + 2 + sk = (a + (1 + sk)) + 1 by omega, nI_succ] at g
    iterate 6 refine em_next rfl ?_
    refine em_c_ltE (x' := nI (a + 1)) (by rw [nI_succ]; rfl) hL (fun _ => ?_) (fun z => absurd (nI_lt ha (by omega)) z)
    iterate 6 refine em_next rfl ?_
    refine em_ialE (k := a + 1) rfl rfl (by rw [nI_succ]; rfl) (by omega) (by decide) ?_
    refine em_tp hs ?_
    iterate 1 refine em_next rfl ?_
    refine em_tp (y := nI (1 + sk)) (em_nadd 1 sk).symm ?_
    iterate 1 refine em_next rfl ?_
    refine em_tp (y := nI (a + (1 + sk))) (em_nadd _ _).symm ?_
    iterate 3 refine em_next rfl ?_
    exact g
theorem ce_less_plan_lies {a len sk : Nat} {l r : Int32} {o1 o2 o3 : Option Value} (ha : a + 1 < len) (hlen : len ≤ 400) (hL : I 27 2 = nI len) (h0 : I 28 a = -14) (hs : I 28 (a + 1) = nI sk) (hsk : sk ≤ 400) (hl : I 29 0 = l) (hr : I 29 1 = r)
    (h1 : l < r → ∀ o1 o2 o3 : Option Value, em_wp em_sc0 d 15 4 [some (.ref 27), some (.ref 39), some (.int (0)), some (.int (nI (a + 2))), o1, o2, o3] [] (em_SH, I, J, em_RT lw) Q)
    (h2 : ¬ l < r → ∀ o1 o2 o3 : Option Value, em_wp em_sc0 d 15 4 [some (.ref 27), some (.ref 39), some (.int (0)), some (.int (nI (a + 2 + sk))), o1, o2, o3] [] (em_SH, I, J, em_RT lw) Q) :
    em_wp em_sc0 d 15 4 [some (.ref 27), some (.ref 39), some (.int (nI 2)), some (.int (nI a)), o1, o2, o3] [] (em_SH, I, J, em_RT lw) Q := by
  iterate 4 refine em_next rfl ?_
  refine em_c_geE rfl hL (fun z => absurd z (nI_ge (by omega) (by omega))) (fun _ => ?_)
  iterate 3 refine em_next rfl ?_
  refine em_ialn rfl rfl (by omega) (by decide) ?_
  refine em_tp h0 ?_
  iterate 4 refine em_next rfl ?_
  refine em_c_le (fun _ => ?_) (fun z => absurd (by decide) z)
  iterate 3 refine em_next rfl ?_
  refine em_c_eq (fun z => absurd z (by decide)) (fun _ => ?_)
  iterate 3 refine em_next rfl ?_
  refine em_c_ge (fun _ => ?_) (fun z => absurd (by decide) z)
  iterate 6 refine em_next rfl ?_
  refine em_ialE (k := 0) rfl rfl rfl (by decide) (by decide) ?_
  refine em_tp hl ?_
  iterate 4 refine em_next rfl ?_
  refine em_ialE (k := 1) rfl rfl rfl (by decide) (by decide) ?_
  refine em_tp hr ?_
  iterate 4 refine em_next rfl ?_
  refine em_c_ne (fun _ => ?_) (fun z => absurd z (by decide))
  iterate 1 refine em_next rfl ?_
  refine em_tsd rfl (Or.inl (by decide)) ?_
  exact ce_lessB_plan_lies ha hlen hL hs hsk (fun z => h1 z _ _ _) (fun z => h2 z _ _ _)
theorem ce_val_l_plan_lies {bs : List ek_br} {t : ek_cd} {a len : Nat} {o1 o2 o3 : Option Value} (hw : ek_wl (some (bs, t))) (hs : csq (I 28) a (cfl bs t)) (hb : a + (cfl bs t).length = len) (hlen : len ≤ 400) (hL : I 27 2 = nI len)
    (h : ∀ I' : Nat → Nat → Int32, (∀ x, x ≠ 29 → I' x = I x) → Q (some (.int (lbr (I 39) bs t))) (em_SH, I', J, em_RT lw)) :
    em_wp em_sc0 d 15 4 [some (.ref 27), some (.ref 39), some (.int (0)), some (.int (nI a)), o1, o2, o3] [] (em_SH, I, J, em_RT lw) Q := by
  have last : ∀ (K : Nat → Nat → Int32) (o1 o2 o3 : Option Value) (c : ek_cd) (a : Nat), ek_wx c → (∀ x, x ≠ 29 → K x = I x) → csq (I 28) a (c.map cst) → I 28 (a + c.length) = -15 → a + c.length < len → (∀ I' : Nat → Nat → Int32, (∀ x, x ≠ 29 → I' x = I x) → Q (some (.int ((ek_ex (I 39) c).getD 0))) (em_SH, I', J, em_RT lw)) → em_wp em_sc0 d 15 4 [some (.ref 27), some (.ref 39), some (.int (0)), some (.int (nI a)), o1, o2, o3] [] (em_SH, K, J, em_RT lw) Q := fun K o1 o2 o3 c a hwc hK hc hd ha hq => by
    have eK : K 39 = I 39 := hK _ (by decide)
    unfold ek_ex at hq
    refine ce_seg_plan_lies (n := 0) (m := 1) (g := fun _ => 0) (len := len) (by rw [hK _ (by decide)]; exact hc) (wd_mono (by decide) hwc) (by omega) hlen (by rw [hK _ (by decide)]; exact hL) (fun i hi => absurd hi (Nat.not_lt_zero _)) (by decide) (fun I1 r p1 p2 p3 a1 a2 a3 => ?_) (fun I1 a1 a2 => ?_)
    · rw [eK] at a1
      rw [a1] at hq
      have k1 : ∀ x, x ≠ 29 → I1 x = I x := fun x hx => (a2 x hx).trans (hK x hx)
      iterate 4 refine em_next rfl ?_
      refine em_c_geE rfl (y' := nI len) (by show I1 27 2 = _; rw [k1 _ (by decide)]; exact hL) (fun z => absurd z (nI_ge ha (by omega))) (fun _ => ?_)
      iterate 3 refine em_next rfl ?_
      refine em_ialn rfl rfl (by omega) (by decide) ?_
      refine em_tp (y := -15) (by rw [k1 _ (by decide)]; exact hd) ?_
      iterate 4 refine em_next rfl ?_
      refine em_c_le (fun _ => ?_) (fun z => absurd (by decide) z)
      iterate 3 refine em_next rfl ?_
      refine em_c_eq (fun _ => ?_) (fun z => absurd rfl z)
      iterate 3 refine em_next rfl ?_
      refine em_c_ne (fun z => absurd rfl z) (fun _ => ?_)
      iterate 3 refine em_next rfl ?_
      refine em_ialE (k := 0) rfl rfl rfl (by decide) (by decide) ?_
      refine em_tp (a3 0 (by decide)) ?_
      iterate 1 refine em_next rfl ?_
      exact em_done rfl (hq I1 k1)
    · rw [eK] at a1
      rw [a1] at hq
      exact hq I1 (fun x hx => (a2 x hx).trans (hK x hx))
  induction bs generalizing a o1 o2 o3 I with
  | nil =>
    rw [cfl, csq_app] at hs
    rw [cfl, List.length_append, List.length_map] at hb
    rw [List.length_map] at hs
    exact last I o1 o2 o3 t a hw.2 (fun _ _ => rfl) hs.1 hs.2.1 (by simp at hb; omega) h
  | cons q bs ih =>
    have hq := hw.1 q List.mem_cons_self
    rw [cfl, csq_app, csq_app, List.length_map, List.length_map, csq, csq, csq_app, List.length_map, csq] at hs
    obtain ⟨s1, s2, s3, s4, s5, s6, s7⟩ := hs
    rw [cfl, List.length_append, List.length_append, List.length_cons, List.length_cons, List.length_append, List.length_cons, List.length_map, List.length_map, List.length_map] at hb
    have hz : ek_ex (I 39) q.1 = none ∨ ek_ex (I 39) q.2.1 = none → lbr (I 39) (q :: bs) t = 0 := fun z => by
      rw [lbr]
      rcases z with z | z
      · rw [z]
      · rw [z]
        cases ek_ex (I 39) q.1 <;> rfl
    refine ce_seg_plan_lies (n := 0) (m := 1) (g := fun _ => 0) (len := len) s1 (wd_mono (by decide) hq.1) (by omega) hlen hL (fun i hi => absurd hi (Nat.not_lt_zero _)) (by decide) (fun I1 r p1 p2 p3 a1 a2 a3 => ?_) (fun I1 a1 a2 => ?_)
    · have ex1 : ek_ex (I 39) q.1 = some (r 0) := by unfold ek_ex; rw [a1]; rfl
      have eK : I1 39 = I 39 := a2 _ (by decide)
      have sh := ev_sh (v := I 39) (k := 1) hq.2.1 (g := r) (g' := fun _ => 0) (fun i hi => absurd hi (Nat.not_lt_zero _))
      refine ce_seg_plan_lies (n := 1) (m := 2) (g := r) (len := len) (by rw [a2 _ (by decide)]; exact s2) (wd_sh (k := 1) hq.2.1) (by omega) hlen (by rw [a2 _ (by decide)]; exact hL) a3 (by decide) (fun I2 r2 p1 p2 p3 b1 b2 b3 => ?_) (fun I2 b1 b2 => ?_)
      · rw [eK] at b1
        have k2 : ∀ x, x ≠ 29 → I2 x = I x := fun x hx => (b2 x hx).trans (a2 x hx)
        obtain ⟨y, ey, hr0, hr1⟩ : ∃ y, ek_ex (I 39) q.2.1 = some y ∧ r2 0 = r 0 ∧ r2 1 = y := by
          cases e : ek_ev (I 39) q.2.1 0 (fun _ => 0) with
          | none =>
            have := sh.1 e
            rw [Nat.zero_add, b1] at this
            cases this
          | some g' =>
            obtain ⟨r3, u1, u2, u3⟩ := sh.2 g' e
            rw [Nat.zero_add, b1] at u1
            cases u1
            exact ⟨g' 0, by unfold ek_ex; rw [e]; rfl, u3 0 (by decide), u2 0 (by decide)⟩
        rw [lbr, ex1, ey] at h
        dsimp only at h
        refine ce_less_plan_lies (a := a + q.1.length + q.2.1.length) (len := len) (sk := q.2.2.length + 1) (by omega) hlen (by rw [k2 _ (by decide)]; exact hL) (by rw [k2 _ (by decide)]; exact s3) (by rw [k2 _ (by decide)]; exact s4) (by omega) ((b3 0 (by decide)).trans hr0) ((b3 1 (by decide)).trans hr1) (fun z p1 p2 p3 => ?_) (fun z p1 p2 p3 => ?_)
        · rw [if_pos z] at h
          exact last I2 p1 p2 p3 q.2.2 (a + q.1.length + q.2.1.length + 1 + 1) hq.2.2 k2 s5 s6 (by omega) h
        · rw [if_neg z] at h
          exact ih (a := a + q.1.length + q.2.1.length + 2 + (q.2.2.length + 1)) (I := I2) (o1 := p1) (o2 := p2) (o3 := p3) ⟨fun x hx => hw.1 x (List.mem_cons_of_mem _ hx), hw.2⟩ (by
            rw [k2 _ (by decide)]
            rw [show a + q.1.length + q.2.1.length + 2 + (q.2.2.length + 1) = a + q.1.length + q.2.1.length + 1 + 1 + q.2.2.length + 1 by omega]
            exact s7) (by omega) (by rw [k2 _ (by decide)]; exact hL) (fun I' f => by
            rw [k2 _ (by decide)]
            exact h I' (fun x hx => (f x hx).trans (k2 x hx))) (fun K o1 o2 o3 c a w1 w2 w3 w4 w5 w6 => last K o1 o2 o3 c a w1 (fun x hx => (w2 x hx).trans (k2 x hx)) (by rw [k2 _ (by decide)] at w3; exact w3) (by rw [k2 _ (by decide)] at w4; exact w4) w5 (fun I' f => by
            have := w6 I' (fun x hx => (f x hx).trans (k2 x hx).symm)
            rw [k2 _ (by decide)] at this
            exact this))
      · rw [eK] at b1
        rw [hz (Or.inr (by
          cases e : ek_ev (I 39) q.2.1 0 (fun _ => 0) with
          | none => unfold ek_ex; rw [e]; rfl
          | some g' =>
            obtain ⟨r3, u1, u2, u3⟩ := sh.2 g' e
            rw [Nat.zero_add, b1] at u1
            cases u1))] at h
        exact h I2 (fun x hx => (b2 x hx).trans (a2 x hx))
    · rw [hz (Or.inl (by unfold ek_ex; rw [a1]; rfl))] at h
      exact h I1 a2
theorem cp_law_plan_lies {k : Nat} {l : ek_lw} (hk : k < 4) (hw : ek_wl l) (hL : I 27 2 = nI (cfl (lsome k l).1 (lsome k l).2).length) (hb : (cfl (lsome k l).1 (lsome k l).2).length ≤ 400) (hs : csq (I 28) 0 (cfl (lsome k l).1 (lsome k l).2)) : cp_law I 27 (lsem k l) := by
  intro I' J lw d Q e1 e2 hq
  have hw2 : ek_wl (some (lsome k l)) := by
    cases l with
    | none =>
      refine ⟨fun b hb => absurd hb (List.not_mem_nil), ?_⟩
      rcases (show k = 0 ∨ k = 1 ∨ k = 2 ∨ k = 3 by omega) with rfl | rfl | rfl | rfl <;> simp [lsome, dk, ek_wx, ek_wd]
    | some q => exact hw
  have ep : lsem k l (em_v9 (I' 39)) = lbr (I' 39) (lsome k l).1 (lsome k l).2 := by
    cases l with
    | none =>
      have e0 : lsem k none (em_v9 (I' 39)) = em_pl k (I' 39) := by
        unfold lsem em_pl
        dsimp only
        rw [v9_get (by decide)]
      rw [e0]
      rcases (show k = 0 ∨ k = 1 ∨ k = 2 ∨ k = 3 by omega) with rfl | rfl | rfl | rfl <;> rfl
    | some q => exact lbr_v hw (fun x hx => v9_get hx)
  rw [ep] at hq
  iterate 4 refine em_next rfl ?_
  exact ce_val_l_plan_lies (a := 0) (len := (cfl (lsome k l).1 (lsome k l).2).length) hw2 (by rw [e2]; exact hs) (Nat.zero_add _) hb (by rw [e1]; exact hL) (fun I'' f => hq I'' f)
theorem ce_seg_plan_parts {c : ek_cd} {a n m len : Nat} {g : Nat → Int32} {o1 o2 o3 : Option Value} (hs : csq (I 31) a (c.map cst)) (hw : ek_wd 16 c n m) (hb : a + c.length ≤ len) (hlen : len ≤ 400) (hL : I 30 2 = nI len) (hg : ∀ i, i < n → I 32 i = g i) (hn : n ≤ 16)
    (h1 : ∀ (I' : Nat → Nat → Int32) (r : Nat → Int32) (o1 o2 o3 : Option Value), ek_ev (I 39) c n g = some r → (∀ x, x ≠ 32 → I' x = I x) → (∀ i, i < m → I' 32 i = r i) → em_wp em_sc0 d 15 4 [some (.ref 30), some (.ref 39), some (.int (nI m)), some (.int (nI (a + c.length))), o1, o2, o3] [] (em_SH, I', J, em_RT lw) Q)
    (h2 : ∀ I' : Nat → Nat → Int32, ek_ev (I 39) c n g = none → (∀ x, x ≠ 32 → I' x = I x) → Q (some (.int 0)) (em_SH, I', J, em_RT lw)) :
    em_wp em_sc0 d 15 4 [some (.ref 30), some (.ref 39), some (.int (nI n)), some (.int (nI a)), o1, o2, o3] [] (em_SH, I, J, em_RT lw) Q := by
  induction c generalizing a n g I o1 o2 o3 with
  | nil =>
    have hn1 : n = m := hw
    subst hn1
    exact h1 I g o1 o2 o3 rfl (fun _ _ => rfl) hg
  | cons q c ih =>
    rw [List.map_cons, csq] at hs
    rw [List.length_cons] at hb
    rw [ek_wd] at hw
    iterate 4 refine em_next rfl ?_
    refine em_c_geE rfl hL (fun h1 => absurd h1 (nI_ge (by omega) (by omega))) (fun _ => ?_)
    iterate 3 refine em_next rfl ?_
    refine em_ialn rfl rfl (by omega) (by decide) ?_
    refine em_tp hs.1 ?_
    iterate 4 refine em_next rfl ?_
    by_cases z2 : q.1 < 2
    · rw [if_pos z2] at hw
      obtain ⟨w1, w2, w3, w4⟩ := hw
      rw [ek_ev, if_pos z2] at h1 h2
      have hgt : -10 < cst q := by
        unfold cst
        by_cases y : q.1 = 0
        · rw [if_pos y]
          exact Int32.lt_of_lt_of_le (by decide) (nI_pos' (by omega))
        · rw [if_neg y, if_pos (by omega)]
          exact (cst_gt _ (w1 (by omega))).1
      refine em_c_leE (x' := cst q) rfl (y' := -10) rfl (fun z => absurd hgt (Int32.not_lt.mpr z)) (fun _ => ?_)
      iterate 3 refine em_next rfl ?_
      refine em_c_ltE rfl (y' := nI 16) rfl (fun _ => ?_) (fun z => absurd (nI_lt (by omega) (by decide)) z)
      have fin : em_wp em_sc0 d 15 56 [some (.ref 30), some (.ref 39), some (.int (nI n)), some (.int (nI a)), some (.int (cst q)), o2, o3] [.int (if q.1 = 0 then nI q.2 else I 39 q.2), .int (nI n), .ref 32] (em_SH, I, J, em_RT lw) Q := by
        refine em_iasn rfl rfl (by omega) (by decide) ?_
        have hr1 : ∀ y, y ≠ 32 → em_u I 32 n (if q.1 = 0 then nI q.2 else I 39 q.2) y = I y := fun y hy => em_u_row hy
        have g2 := ih (a := a + 1) (n := n + 1) (I := em_u I 32 n (if q.1 = 0 then nI q.2 else I 39 q.2)) (g := ek_eu g n (if q.1 = 0 then nI q.2 else I 39 q.2)) (o1 := some (.int (cst q))) (o2 := o2) (o3 := o3) (by rw [hr1 _ (by decide)]; exact hs.2) w4 (by omega) (by rw [hr1 _ (by decide)]; exact hL) (fun i hi => by
          by_cases e : i = n
          · subst e; rw [em_u_self, ek_eus]
          · rw [em_u_ne e, ek_eun e]; exact hg i (by omega)) (by omega) (fun I' r o1 o2 o3 e f f2 => by
            have := h1 I' r o1 o2 o3 (by rw [hr1 _ (by decide)] at e; exact e) (fun x hx => (f x hx).trans (hr1 x hx)) f2
            rw [List.length_cons, show a + (c.length + 1) = a + 1 + c.length by omega] at this
            exact this) (fun I' e f => h2 I' (by rw [hr1 _ (by decide)] at e; exact e) (fun x hx => (f x hx).trans (hr1 x hx)))
        rw [nI_succ, nI_succ] at g2
        iterate 2 refine em_next rfl ?_
        iterate 2 refine em_next rfl ?_
        exact g2
      iterate 5 refine em_next rfl ?_
      by_cases y : q.1 = 0
      · rw [if_pos y] at fin
        have ec : cst q = nI q.2 := if_pos y
        refine em_z_ltE (x' := nI q.2) ec (fun z => absurd z (nI_pos (by omega))) (fun _ => ?_)
        iterate 1 refine em_next rfl ?_
        refine em_tp ec ?_
        iterate 1 refine em_next rfl ?_
        exact fin
      · rw [if_neg y] at fin
        have hx := w1 (by omega)
        have ec : cst q = -1 - nI q.2 := by unfold cst; rw [if_neg y, if_pos (by omega)]
        refine em_z_ltE (x' := -1 - nI q.2) ec (fun _ => ?_) (fun z => absurd (cst_gt _ hx).2.1 z)
        iterate 4 refine em_next rfl ?_
        refine em_ialE (k := q.2) rfl rfl ?_ (by omega) (by decide) ?_
        · show -1 - cst q = nI q.2
          rw [ec]
          exact (cst_gt _ hx).2.2
        exact fin
    · rw [if_neg z2] at hw
      obtain ⟨w1, w2, w3⟩ := hw
      rw [ek_ev, if_neg z2] at h1 h2
      have hc0 := cst_op0 (q := q) (by omega)
      have hco := cst_op q.1 (by omega) w1
      rw [← hc0] at hco
      refine em_c_leE (x' := cst q) rfl (y' := -10) rfl (fun _ => ?_) (fun z => absurd hco.1 z)
      iterate 3 refine em_next rfl ?_
      refine em_c_eqE (x' := cst q) rfl (y' := -15) rfl (fun z => absurd z hco.2.1) (fun _ => ?_)
      iterate 3 refine em_next rfl ?_
      refine em_c_geE rfl (y' := nI 2) rfl (fun _ => ?_) (fun z => absurd (nI_le w2 (by omega)) z)
      iterate 6 refine em_next rfl ?_
      refine em_ialE (k := n - 2) rfl rfl ?_ (by omega) (by decide) ?_
      · show nI n + Int32.ofInt (-1) - 1 = nI (n - 2)
        rw [em_pred2 (by omega), em_pred (by omega)]
        congr 1
      refine em_tp (hg (n - 2) (by omega)) ?_
      iterate 4 refine em_next rfl ?_
      refine em_ialE (k := n - 1) rfl rfl (em_pred2 (by omega)) (by omega) (by decide) ?_
      refine em_tp (hg (n - 1) (by omega)) ?_
      have fin2 : ¬ (q.1 = 5 ∧ g (n - 1) = 0) → ∀ (pc : Nat), em_ins 15 pc = some (.iastore, pc + 1) → em_ins 15 (pc + 1) = some (.goto 260, pc + 4) → em_wp em_sc0 d 15 pc [some (.ref 30), some (.ref 39), some (.int (nI n + Int32.ofInt (-1))), some (.int (nI a)), some (.int (cst q)), some (.int (g (n - 2))), some (.int (g (n - 1)))] [.int (ek_eo q.1 (g (n - 2)) (g (n - 1))), .int (nI n + Int32.ofInt (-1) - 1), .ref 32] (em_SH, I, J, em_RT lw) Q := fun zz pc hp1 hp2 => by
        rw [if_neg zz] at h1 h2
        refine em_iasE (k := n - 2) hp1 rfl ?_ (by omega) (by decide) ?_
        · rw [em_pred2 (by omega), em_pred (by omega)]
          congr 1
        have hr1 : ∀ x, x ≠ 32 → em_u I 32 (n - 2) (ek_eo q.1 (g (n - 2)) (g (n - 1))) x = I x := fun x hx => em_u_row hx
        have g2 := ih (a := a + 1) (n := n - 1) (I := em_u I 32 (n - 2) (ek_eo q.1 (g (n - 2)) (g (n - 1)))) (g := ek_eu g (n - 2) (ek_eo q.1 (g (n - 2)) (g (n - 1)))) (o1 := some (.int (cst q))) (o2 := some (.int (g (n - 2)))) (o3 := some (.int (g (n - 1)))) (by rw [hr1 _ (by decide)]; exact hs.2) w3 (by omega) (by rw [hr1 _ (by decide)]; exact hL) (fun i hi => by
          by_cases e : i = n - 2
          · subst e; rw [em_u_self, ek_eus]
          · rw [em_u_ne e, ek_eun e]; exact hg i (by omega)) (by omega) (fun I' r o1 o2 o3 e f f2 => by
            have := h1 I' r o1 o2 o3 (by rw [hr1 _ (by decide)] at e; exact e) (fun x hx => (f x hx).trans (hr1 x hx)) f2
            rw [List.length_cons, show a + (c.length + 1) = a + 1 + c.length by omega] at this
            exact this) (fun I' e f => h2 I' (by rw [hr1 _ (by decide)] at e; exact e) (fun x hx => (f x hx).trans (hr1 x hx)))
        rw [em_pred2 (by omega)]
        rw [nI_succ] at g2
        refine em_next (pc' := 260) (lc' := [some (.ref 30), some (.ref 39), some (.int (nI (n - 1))), some (.int (nI a)), some (.int (cst q)), some (.int (g (n - 2))), some (.int (g (n - 1)))]) (st' := []) (M' := (em_SH, em_u I 32 (n - 2) (ek_eo q.1 (g (n - 2)) (g (n - 1))), J, em_RT lw)) ?_ ?_
        · unfold em_stp
          rw [hp2]
          rfl
        iterate 2 refine em_next rfl ?_
        exact g2
      have fin : ¬ (q.1 = 5 ∧ g (n - 1) = 0) → em_wp em_sc0 d 15 126 [some (.ref 30), some (.ref 39), some (.int (nI n + Int32.ofInt (-1))), some (.int (nI a)), some (.int (cst q)), some (.int (g (n - 2))), some (.int (g (n - 1)))] [] (em_SH, I, J, em_RT lw) Q := fun zz => by
        have fz := fin2 zz
        unfold ek_eo at fz
        rcases (show q.1 = 2 ∨ q.1 = 3 ∨ q.1 = 4 ∨ q.1 = 5 by omega) with y | y | y | y
        · rw [if_pos y] at fz
          rw [hc0, y]
          rw [hc0, y] at fz
          iterate 10 refine em_next rfl ?_
          exact fz 172 rfl rfl
        · rw [if_neg (by omega), if_pos y] at fz
          rw [hc0, y]
          rw [hc0, y] at fz
          iterate 10 refine em_next rfl ?_
          exact fz 188 rfl rfl
        · rw [if_neg (by omega), if_neg (by omega), if_pos y] at fz
          rw [hc0, y]
          rw [hc0, y] at fz
          iterate 10 refine em_next rfl ?_
          exact fz 204 rfl rfl
        · rw [if_neg (by omega), if_neg (by omega), if_neg (by omega)] at fz
          have y6 : ¬ g (n - 1) = 0 := fun e => zz ⟨y, e⟩
          rw [hc0, y]
          rw [hc0, y] at fz
          iterate 9 refine em_next rfl ?_
          refine em_next ?_ (fz 220 rfl rfl)
          unfold em_stp
          rw [show em_ins 15 219 = some (.idiv, 220) from rfl]
          unfold em_do
          dsimp only
          rw [if_neg y6]
          rfl
      iterate 4 refine em_next rfl ?_
      refine em_c_neE (x' := cst q) rfl (y' := -13) rfl (fun y => ?_) (fun y => ?_)
      · exact fin (fun e => y (hco.2.2.mpr e.1))
      · have y5 : q.1 = 5 := hco.2.2.mp y
        iterate 2 refine em_next rfl ?_
        refine em_z_ne (fun y => ?_) (fun y => ?_)
        · exact fin (fun e => y e.2)
        · rw [if_pos ⟨y5, y⟩] at h2
          iterate 1 refine em_next rfl ?_
          exact em_done rfl (h2 I rfl (fun _ _ => rfl))
theorem ce_lessB_plan_parts {a len sk : Nat} {x2 l r : Int32} {o1 : Option Value} (ha : a + 1 < len) (hlen : len ≤ 400) (hL : I 30 2 = nI len) (hs : I 31 (a + 1) = nI sk) (hsk : sk ≤ 400)
    (h1 : l < r → em_wp em_sc0 d 15 4 [some (.ref 30), some (.ref 39), some (.int (0)), some (.int (nI (a + 2))), o1, some (.int (l)), some (.int (r))] [] (em_SH, I, J, em_RT lw) Q)
    (h2 : ¬ l < r → em_wp em_sc0 d 15 4 [some (.ref 30), some (.ref 39), some (.int (0)), some (.int (nI (a + 2 + sk))), o1, some (.int (l)), some (.int (r))] [] (em_SH, I, J, em_RT lw) Q) :
    em_wp em_sc0 d 15 224 [some (.ref 30), some (.ref 39), some (.int (x2)), some (.int (nI a)), o1, some (.int (l)), some (.int (r))] [] (em_SH, I, J, em_RT lw) Q := by
  iterate 6 refine em_next rfl ?_
  refine em_c_lt (fun z => ?_) (fun z => ?_)
  · have g := h1 z
    rw [show a + 2 = (a + 1) + 1 by omega, nI_succ] at g
    iterate 3 refine em_next rfl ?_
    refine em_tp (y := nI (a + 1)) (by rw [nI_succ]; rfl) ?_
    iterate 3 refine em_next rfl ?_
    exact g
  · have g := h2 z
    rw [show a + 2 + sk = (a + (1 + sk)) + 1 by omega, nI_succ] at g
    iterate 6 refine em_next rfl ?_
    refine em_c_ltE (x' := nI (a + 1)) (by rw [nI_succ]; rfl) hL (fun _ => ?_) (fun z => absurd (nI_lt ha (by omega)) z)
    iterate 6 refine em_next rfl ?_
    refine em_ialE (k := a + 1) rfl rfl (by rw [nI_succ]; rfl) (by omega) (by decide) ?_
    refine em_tp hs ?_
    iterate 1 refine em_next rfl ?_
    refine em_tp (y := nI (1 + sk)) (em_nadd 1 sk).symm ?_
    iterate 1 refine em_next rfl ?_
    refine em_tp (y := nI (a + (1 + sk))) (em_nadd _ _).symm ?_
    iterate 3 refine em_next rfl ?_
    exact g
theorem ce_less_plan_parts {a len sk : Nat} {l r : Int32} {o1 o2 o3 : Option Value} (ha : a + 1 < len) (hlen : len ≤ 400) (hL : I 30 2 = nI len) (h0 : I 31 a = -14) (hs : I 31 (a + 1) = nI sk) (hsk : sk ≤ 400) (hl : I 32 0 = l) (hr : I 32 1 = r)
    (h1 : l < r → ∀ o1 o2 o3 : Option Value, em_wp em_sc0 d 15 4 [some (.ref 30), some (.ref 39), some (.int (0)), some (.int (nI (a + 2))), o1, o2, o3] [] (em_SH, I, J, em_RT lw) Q)
    (h2 : ¬ l < r → ∀ o1 o2 o3 : Option Value, em_wp em_sc0 d 15 4 [some (.ref 30), some (.ref 39), some (.int (0)), some (.int (nI (a + 2 + sk))), o1, o2, o3] [] (em_SH, I, J, em_RT lw) Q) :
    em_wp em_sc0 d 15 4 [some (.ref 30), some (.ref 39), some (.int (nI 2)), some (.int (nI a)), o1, o2, o3] [] (em_SH, I, J, em_RT lw) Q := by
  iterate 4 refine em_next rfl ?_
  refine em_c_geE rfl hL (fun z => absurd z (nI_ge (by omega) (by omega))) (fun _ => ?_)
  iterate 3 refine em_next rfl ?_
  refine em_ialn rfl rfl (by omega) (by decide) ?_
  refine em_tp h0 ?_
  iterate 4 refine em_next rfl ?_
  refine em_c_le (fun _ => ?_) (fun z => absurd (by decide) z)
  iterate 3 refine em_next rfl ?_
  refine em_c_eq (fun z => absurd z (by decide)) (fun _ => ?_)
  iterate 3 refine em_next rfl ?_
  refine em_c_ge (fun _ => ?_) (fun z => absurd (by decide) z)
  iterate 6 refine em_next rfl ?_
  refine em_ialE (k := 0) rfl rfl rfl (by decide) (by decide) ?_
  refine em_tp hl ?_
  iterate 4 refine em_next rfl ?_
  refine em_ialE (k := 1) rfl rfl rfl (by decide) (by decide) ?_
  refine em_tp hr ?_
  iterate 4 refine em_next rfl ?_
  refine em_c_ne (fun _ => ?_) (fun z => absurd z (by decide))
  iterate 1 refine em_next rfl ?_
  refine em_tsd rfl (Or.inl (by decide)) ?_
  exact ce_lessB_plan_parts ha hlen hL hs hsk (fun z => h1 z _ _ _) (fun z => h2 z _ _ _)
theorem ce_val_l_plan_parts {bs : List ek_br} {t : ek_cd} {a len : Nat} {o1 o2 o3 : Option Value} (hw : ek_wl (some (bs, t))) (hs : csq (I 31) a (cfl bs t)) (hb : a + (cfl bs t).length = len) (hlen : len ≤ 400) (hL : I 30 2 = nI len)
    (h : ∀ I' : Nat → Nat → Int32, (∀ x, x ≠ 32 → I' x = I x) → Q (some (.int (lbr (I 39) bs t))) (em_SH, I', J, em_RT lw)) :
    em_wp em_sc0 d 15 4 [some (.ref 30), some (.ref 39), some (.int (0)), some (.int (nI a)), o1, o2, o3] [] (em_SH, I, J, em_RT lw) Q := by
  have last : ∀ (K : Nat → Nat → Int32) (o1 o2 o3 : Option Value) (c : ek_cd) (a : Nat), ek_wx c → (∀ x, x ≠ 32 → K x = I x) → csq (I 31) a (c.map cst) → I 31 (a + c.length) = -15 → a + c.length < len → (∀ I' : Nat → Nat → Int32, (∀ x, x ≠ 32 → I' x = I x) → Q (some (.int ((ek_ex (I 39) c).getD 0))) (em_SH, I', J, em_RT lw)) → em_wp em_sc0 d 15 4 [some (.ref 30), some (.ref 39), some (.int (0)), some (.int (nI a)), o1, o2, o3] [] (em_SH, K, J, em_RT lw) Q := fun K o1 o2 o3 c a hwc hK hc hd ha hq => by
    have eK : K 39 = I 39 := hK _ (by decide)
    unfold ek_ex at hq
    refine ce_seg_plan_parts (n := 0) (m := 1) (g := fun _ => 0) (len := len) (by rw [hK _ (by decide)]; exact hc) (wd_mono (by decide) hwc) (by omega) hlen (by rw [hK _ (by decide)]; exact hL) (fun i hi => absurd hi (Nat.not_lt_zero _)) (by decide) (fun I1 r p1 p2 p3 a1 a2 a3 => ?_) (fun I1 a1 a2 => ?_)
    · rw [eK] at a1
      rw [a1] at hq
      have k1 : ∀ x, x ≠ 32 → I1 x = I x := fun x hx => (a2 x hx).trans (hK x hx)
      iterate 4 refine em_next rfl ?_
      refine em_c_geE rfl (y' := nI len) (by show I1 30 2 = _; rw [k1 _ (by decide)]; exact hL) (fun z => absurd z (nI_ge ha (by omega))) (fun _ => ?_)
      iterate 3 refine em_next rfl ?_
      refine em_ialn rfl rfl (by omega) (by decide) ?_
      refine em_tp (y := -15) (by rw [k1 _ (by decide)]; exact hd) ?_
      iterate 4 refine em_next rfl ?_
      refine em_c_le (fun _ => ?_) (fun z => absurd (by decide) z)
      iterate 3 refine em_next rfl ?_
      refine em_c_eq (fun _ => ?_) (fun z => absurd rfl z)
      iterate 3 refine em_next rfl ?_
      refine em_c_ne (fun z => absurd rfl z) (fun _ => ?_)
      iterate 3 refine em_next rfl ?_
      refine em_ialE (k := 0) rfl rfl rfl (by decide) (by decide) ?_
      refine em_tp (a3 0 (by decide)) ?_
      iterate 1 refine em_next rfl ?_
      exact em_done rfl (hq I1 k1)
    · rw [eK] at a1
      rw [a1] at hq
      exact hq I1 (fun x hx => (a2 x hx).trans (hK x hx))
  induction bs generalizing a o1 o2 o3 I with
  | nil =>
    rw [cfl, csq_app] at hs
    rw [cfl, List.length_append, List.length_map] at hb
    rw [List.length_map] at hs
    exact last I o1 o2 o3 t a hw.2 (fun _ _ => rfl) hs.1 hs.2.1 (by simp at hb; omega) h
  | cons q bs ih =>
    have hq := hw.1 q List.mem_cons_self
    rw [cfl, csq_app, csq_app, List.length_map, List.length_map, csq, csq, csq_app, List.length_map, csq] at hs
    obtain ⟨s1, s2, s3, s4, s5, s6, s7⟩ := hs
    rw [cfl, List.length_append, List.length_append, List.length_cons, List.length_cons, List.length_append, List.length_cons, List.length_map, List.length_map, List.length_map] at hb
    have hz : ek_ex (I 39) q.1 = none ∨ ek_ex (I 39) q.2.1 = none → lbr (I 39) (q :: bs) t = 0 := fun z => by
      rw [lbr]
      rcases z with z | z
      · rw [z]
      · rw [z]
        cases ek_ex (I 39) q.1 <;> rfl
    refine ce_seg_plan_parts (n := 0) (m := 1) (g := fun _ => 0) (len := len) s1 (wd_mono (by decide) hq.1) (by omega) hlen hL (fun i hi => absurd hi (Nat.not_lt_zero _)) (by decide) (fun I1 r p1 p2 p3 a1 a2 a3 => ?_) (fun I1 a1 a2 => ?_)
    · have ex1 : ek_ex (I 39) q.1 = some (r 0) := by unfold ek_ex; rw [a1]; rfl
      have eK : I1 39 = I 39 := a2 _ (by decide)
      have sh := ev_sh (v := I 39) (k := 1) hq.2.1 (g := r) (g' := fun _ => 0) (fun i hi => absurd hi (Nat.not_lt_zero _))
      refine ce_seg_plan_parts (n := 1) (m := 2) (g := r) (len := len) (by rw [a2 _ (by decide)]; exact s2) (wd_sh (k := 1) hq.2.1) (by omega) hlen (by rw [a2 _ (by decide)]; exact hL) a3 (by decide) (fun I2 r2 p1 p2 p3 b1 b2 b3 => ?_) (fun I2 b1 b2 => ?_)
      · rw [eK] at b1
        have k2 : ∀ x, x ≠ 32 → I2 x = I x := fun x hx => (b2 x hx).trans (a2 x hx)
        obtain ⟨y, ey, hr0, hr1⟩ : ∃ y, ek_ex (I 39) q.2.1 = some y ∧ r2 0 = r 0 ∧ r2 1 = y := by
          cases e : ek_ev (I 39) q.2.1 0 (fun _ => 0) with
          | none =>
            have := sh.1 e
            rw [Nat.zero_add, b1] at this
            cases this
          | some g' =>
            obtain ⟨r3, u1, u2, u3⟩ := sh.2 g' e
            rw [Nat.zero_add, b1] at u1
            cases u1
            exact ⟨g' 0, by unfold ek_ex; rw [e]; rfl, u3 0 (by decide), u2 0 (by decide)⟩
        rw [lbr, ex1, ey] at h
        dsimp only at h
        refine ce_less_plan_parts (a := a + q.1.length + q.2.1.length) (len := len) (sk := q.2.2.length + 1) (by omega) hlen (by rw [k2 _ (by decide)]; exact hL) (by rw [k2 _ (by decide)]; exact s3) (by rw [k2 _ (by decide)]; exact s4) (by omega) ((b3 0 (by decide)).trans hr0) ((b3 1 (by decide)).trans hr1) (fun z p1 p2 p3 => ?_) (fun z p1 p2 p3 => ?_)
        · rw [if_pos z] at h
          exact last I2 p1 p2 p3 q.2.2 (a + q.1.length + q.2.1.length + 1 + 1) hq.2.2 k2 s5 s6 (by omega) h
        · rw [if_neg z] at h
          exact ih (a := a + q.1.length + q.2.1.length + 2 + (q.2.2.length + 1)) (I := I2) (o1 := p1) (o2 := p2) (o3 := p3) ⟨fun x hx => hw.1 x (List.mem_cons_of_mem _ hx), hw.2⟩ (by
            rw [k2 _ (by decide)]
            rw [show a + q.1.length + q.2.1.length + 2 + (q.2.2.length + 1) = a + q.1.length + q.2.1.length + 1 + 1 + q.2.2.length + 1 by omega]
            exact s7) (by omega) (by rw [k2 _ (by decide)]; exact hL) (fun I' f => by
            rw [k2 _ (by decide)]
            exact h I' (fun x hx => (f x hx).trans (k2 x hx))) (fun K o1 o2 o3 c a w1 w2 w3 w4 w5 w6 => last K o1 o2 o3 c a w1 (fun x hx => (w2 x hx).trans (k2 x hx)) (by rw [k2 _ (by decide)] at w3; exact w3) (by rw [k2 _ (by decide)] at w4; exact w4) w5 (fun I' f => by
            have := w6 I' (fun x hx => (f x hx).trans (k2 x hx).symm)
            rw [k2 _ (by decide)] at this
            exact this))
      · rw [eK] at b1
        rw [hz (Or.inr (by
          cases e : ek_ev (I 39) q.2.1 0 (fun _ => 0) with
          | none => unfold ek_ex; rw [e]; rfl
          | some g' =>
            obtain ⟨r3, u1, u2, u3⟩ := sh.2 g' e
            rw [Nat.zero_add, b1] at u1
            cases u1))] at h
        exact h I2 (fun x hx => (b2 x hx).trans (a2 x hx))
    · rw [hz (Or.inl (by unfold ek_ex; rw [a1]; rfl))] at h
      exact h I1 a2
theorem cp_law_plan_parts {k : Nat} {l : ek_lw} (hk : k < 4) (hw : ek_wl l) (hL : I 30 2 = nI (cfl (lsome k l).1 (lsome k l).2).length) (hb : (cfl (lsome k l).1 (lsome k l).2).length ≤ 400) (hs : csq (I 31) 0 (cfl (lsome k l).1 (lsome k l).2)) : cp_law I 30 (lsem k l) := by
  intro I' J lw d Q e1 e2 hq
  have hw2 : ek_wl (some (lsome k l)) := by
    cases l with
    | none =>
      refine ⟨fun b hb => absurd hb (List.not_mem_nil), ?_⟩
      rcases (show k = 0 ∨ k = 1 ∨ k = 2 ∨ k = 3 by omega) with rfl | rfl | rfl | rfl <;> simp [lsome, dk, ek_wx, ek_wd]
    | some q => exact hw
  have ep : lsem k l (em_v9 (I' 39)) = lbr (I' 39) (lsome k l).1 (lsome k l).2 := by
    cases l with
    | none =>
      have e0 : lsem k none (em_v9 (I' 39)) = em_pl k (I' 39) := by
        unfold lsem em_pl
        dsimp only
        rw [v9_get (by decide)]
      rw [e0]
      rcases (show k = 0 ∨ k = 1 ∨ k = 2 ∨ k = 3 by omega) with rfl | rfl | rfl | rfl <;> rfl
    | some q => exact lbr_v hw (fun x hx => v9_get hx)
  rw [ep] at hq
  iterate 4 refine em_next rfl ?_
  exact ce_val_l_plan_parts (a := 0) (len := (cfl (lsome k l).1 (lsome k l).2).length) hw2 (by rw [e2]; exact hs) (Nat.zero_add _) hb (by rw [e1]; exact hL) (fun I'' f => hq I'' f)
theorem ce_seg_plan_chills {c : ek_cd} {a n m len : Nat} {g : Nat → Int32} {o1 o2 o3 : Option Value} (hs : csq (I 34) a (c.map cst)) (hw : ek_wd 16 c n m) (hb : a + c.length ≤ len) (hlen : len ≤ 400) (hL : I 33 2 = nI len) (hg : ∀ i, i < n → I 35 i = g i) (hn : n ≤ 16)
    (h1 : ∀ (I' : Nat → Nat → Int32) (r : Nat → Int32) (o1 o2 o3 : Option Value), ek_ev (I 39) c n g = some r → (∀ x, x ≠ 35 → I' x = I x) → (∀ i, i < m → I' 35 i = r i) → em_wp em_sc0 d 15 4 [some (.ref 33), some (.ref 39), some (.int (nI m)), some (.int (nI (a + c.length))), o1, o2, o3] [] (em_SH, I', J, em_RT lw) Q)
    (h2 : ∀ I' : Nat → Nat → Int32, ek_ev (I 39) c n g = none → (∀ x, x ≠ 35 → I' x = I x) → Q (some (.int 0)) (em_SH, I', J, em_RT lw)) :
    em_wp em_sc0 d 15 4 [some (.ref 33), some (.ref 39), some (.int (nI n)), some (.int (nI a)), o1, o2, o3] [] (em_SH, I, J, em_RT lw) Q := by
  induction c generalizing a n g I o1 o2 o3 with
  | nil =>
    have hn1 : n = m := hw
    subst hn1
    exact h1 I g o1 o2 o3 rfl (fun _ _ => rfl) hg
  | cons q c ih =>
    rw [List.map_cons, csq] at hs
    rw [List.length_cons] at hb
    rw [ek_wd] at hw
    iterate 4 refine em_next rfl ?_
    refine em_c_geE rfl hL (fun h1 => absurd h1 (nI_ge (by omega) (by omega))) (fun _ => ?_)
    iterate 3 refine em_next rfl ?_
    refine em_ialn rfl rfl (by omega) (by decide) ?_
    refine em_tp hs.1 ?_
    iterate 4 refine em_next rfl ?_
    by_cases z2 : q.1 < 2
    · rw [if_pos z2] at hw
      obtain ⟨w1, w2, w3, w4⟩ := hw
      rw [ek_ev, if_pos z2] at h1 h2
      have hgt : -10 < cst q := by
        unfold cst
        by_cases y : q.1 = 0
        · rw [if_pos y]
          exact Int32.lt_of_lt_of_le (by decide) (nI_pos' (by omega))
        · rw [if_neg y, if_pos (by omega)]
          exact (cst_gt _ (w1 (by omega))).1
      refine em_c_leE (x' := cst q) rfl (y' := -10) rfl (fun z => absurd hgt (Int32.not_lt.mpr z)) (fun _ => ?_)
      iterate 3 refine em_next rfl ?_
      refine em_c_ltE rfl (y' := nI 16) rfl (fun _ => ?_) (fun z => absurd (nI_lt (by omega) (by decide)) z)
      have fin : em_wp em_sc0 d 15 56 [some (.ref 33), some (.ref 39), some (.int (nI n)), some (.int (nI a)), some (.int (cst q)), o2, o3] [.int (if q.1 = 0 then nI q.2 else I 39 q.2), .int (nI n), .ref 35] (em_SH, I, J, em_RT lw) Q := by
        refine em_iasn rfl rfl (by omega) (by decide) ?_
        have hr1 : ∀ y, y ≠ 35 → em_u I 35 n (if q.1 = 0 then nI q.2 else I 39 q.2) y = I y := fun y hy => em_u_row hy
        have g2 := ih (a := a + 1) (n := n + 1) (I := em_u I 35 n (if q.1 = 0 then nI q.2 else I 39 q.2)) (g := ek_eu g n (if q.1 = 0 then nI q.2 else I 39 q.2)) (o1 := some (.int (cst q))) (o2 := o2) (o3 := o3) (by rw [hr1 _ (by decide)]; exact hs.2) w4 (by omega) (by rw [hr1 _ (by decide)]; exact hL) (fun i hi => by
          by_cases e : i = n
          · subst e; rw [em_u_self, ek_eus]
          · rw [em_u_ne e, ek_eun e]; exact hg i (by omega)) (by omega) (fun I' r o1 o2 o3 e f f2 => by
            have := h1 I' r o1 o2 o3 (by rw [hr1 _ (by decide)] at e; exact e) (fun x hx => (f x hx).trans (hr1 x hx)) f2
            rw [List.length_cons, show a + (c.length + 1) = a + 1 + c.length by omega] at this
            exact this) (fun I' e f => h2 I' (by rw [hr1 _ (by decide)] at e; exact e) (fun x hx => (f x hx).trans (hr1 x hx)))
        rw [nI_succ, nI_succ] at g2
        iterate 2 refine em_next rfl ?_
        iterate 2 refine em_next rfl ?_
        exact g2
      iterate 5 refine em_next rfl ?_
      by_cases y : q.1 = 0
      · rw [if_pos y] at fin
        have ec : cst q = nI q.2 := if_pos y
        refine em_z_ltE (x' := nI q.2) ec (fun z => absurd z (nI_pos (by omega))) (fun _ => ?_)
        iterate 1 refine em_next rfl ?_
        refine em_tp ec ?_
        iterate 1 refine em_next rfl ?_
        exact fin
      · rw [if_neg y] at fin
        have hx := w1 (by omega)
        have ec : cst q = -1 - nI q.2 := by unfold cst; rw [if_neg y, if_pos (by omega)]
        refine em_z_ltE (x' := -1 - nI q.2) ec (fun _ => ?_) (fun z => absurd (cst_gt _ hx).2.1 z)
        iterate 4 refine em_next rfl ?_
        refine em_ialE (k := q.2) rfl rfl ?_ (by omega) (by decide) ?_
        · show -1 - cst q = nI q.2
          rw [ec]
          exact (cst_gt _ hx).2.2
        exact fin
    · rw [if_neg z2] at hw
      obtain ⟨w1, w2, w3⟩ := hw
      rw [ek_ev, if_neg z2] at h1 h2
      have hc0 := cst_op0 (q := q) (by omega)
      have hco := cst_op q.1 (by omega) w1
      rw [← hc0] at hco
      refine em_c_leE (x' := cst q) rfl (y' := -10) rfl (fun _ => ?_) (fun z => absurd hco.1 z)
      iterate 3 refine em_next rfl ?_
      refine em_c_eqE (x' := cst q) rfl (y' := -15) rfl (fun z => absurd z hco.2.1) (fun _ => ?_)
      iterate 3 refine em_next rfl ?_
      refine em_c_geE rfl (y' := nI 2) rfl (fun _ => ?_) (fun z => absurd (nI_le w2 (by omega)) z)
      iterate 6 refine em_next rfl ?_
      refine em_ialE (k := n - 2) rfl rfl ?_ (by omega) (by decide) ?_
      · show nI n + Int32.ofInt (-1) - 1 = nI (n - 2)
        rw [em_pred2 (by omega), em_pred (by omega)]
        congr 1
      refine em_tp (hg (n - 2) (by omega)) ?_
      iterate 4 refine em_next rfl ?_
      refine em_ialE (k := n - 1) rfl rfl (em_pred2 (by omega)) (by omega) (by decide) ?_
      refine em_tp (hg (n - 1) (by omega)) ?_
      have fin2 : ¬ (q.1 = 5 ∧ g (n - 1) = 0) → ∀ (pc : Nat), em_ins 15 pc = some (.iastore, pc + 1) → em_ins 15 (pc + 1) = some (.goto 260, pc + 4) → em_wp em_sc0 d 15 pc [some (.ref 33), some (.ref 39), some (.int (nI n + Int32.ofInt (-1))), some (.int (nI a)), some (.int (cst q)), some (.int (g (n - 2))), some (.int (g (n - 1)))] [.int (ek_eo q.1 (g (n - 2)) (g (n - 1))), .int (nI n + Int32.ofInt (-1) - 1), .ref 35] (em_SH, I, J, em_RT lw) Q := fun zz pc hp1 hp2 => by
        rw [if_neg zz] at h1 h2
        refine em_iasE (k := n - 2) hp1 rfl ?_ (by omega) (by decide) ?_
        · rw [em_pred2 (by omega), em_pred (by omega)]
          congr 1
        have hr1 : ∀ x, x ≠ 35 → em_u I 35 (n - 2) (ek_eo q.1 (g (n - 2)) (g (n - 1))) x = I x := fun x hx => em_u_row hx
        have g2 := ih (a := a + 1) (n := n - 1) (I := em_u I 35 (n - 2) (ek_eo q.1 (g (n - 2)) (g (n - 1)))) (g := ek_eu g (n - 2) (ek_eo q.1 (g (n - 2)) (g (n - 1)))) (o1 := some (.int (cst q))) (o2 := some (.int (g (n - 2)))) (o3 := some (.int (g (n - 1)))) (by rw [hr1 _ (by decide)]; exact hs.2) w3 (by omega) (by rw [hr1 _ (by decide)]; exact hL) (fun i hi => by
          by_cases e : i = n - 2
          · subst e; rw [em_u_self, ek_eus]
          · rw [em_u_ne e, ek_eun e]; exact hg i (by omega)) (by omega) (fun I' r o1 o2 o3 e f f2 => by
            have := h1 I' r o1 o2 o3 (by rw [hr1 _ (by decide)] at e; exact e) (fun x hx => (f x hx).trans (hr1 x hx)) f2
            rw [List.length_cons, show a + (c.length + 1) = a + 1 + c.length by omega] at this
            exact this) (fun I' e f => h2 I' (by rw [hr1 _ (by decide)] at e; exact e) (fun x hx => (f x hx).trans (hr1 x hx)))
        rw [em_pred2 (by omega)]
        rw [nI_succ] at g2
        refine em_next (pc' := 260) (lc' := [some (.ref 33), some (.ref 39), some (.int (nI (n - 1))), some (.int (nI a)), some (.int (cst q)), some (.int (g (n - 2))), some (.int (g (n - 1)))]) (st' := []) (M' := (em_SH, em_u I 35 (n - 2) (ek_eo q.1 (g (n - 2)) (g (n - 1))), J, em_RT lw)) ?_ ?_
        · unfold em_stp
          rw [hp2]
          rfl
        iterate 2 refine em_next rfl ?_
        exact g2
      have fin : ¬ (q.1 = 5 ∧ g (n - 1) = 0) → em_wp em_sc0 d 15 126 [some (.ref 33), some (.ref 39), some (.int (nI n + Int32.ofInt (-1))), some (.int (nI a)), some (.int (cst q)), some (.int (g (n - 2))), some (.int (g (n - 1)))] [] (em_SH, I, J, em_RT lw) Q := fun zz => by
        have fz := fin2 zz
        unfold ek_eo at fz
        rcases (show q.1 = 2 ∨ q.1 = 3 ∨ q.1 = 4 ∨ q.1 = 5 by omega) with y | y | y | y
        · rw [if_pos y] at fz
          rw [hc0, y]
          rw [hc0, y] at fz
          iterate 10 refine em_next rfl ?_
          exact fz 172 rfl rfl
        · rw [if_neg (by omega), if_pos y] at fz
          rw [hc0, y]
          rw [hc0, y] at fz
          iterate 10 refine em_next rfl ?_
          exact fz 188 rfl rfl
        · rw [if_neg (by omega), if_neg (by omega), if_pos y] at fz
          rw [hc0, y]
          rw [hc0, y] at fz
          iterate 10 refine em_next rfl ?_
          exact fz 204 rfl rfl
        · rw [if_neg (by omega), if_neg (by omega), if_neg (by omega)] at fz
          have y6 : ¬ g (n - 1) = 0 := fun e => zz ⟨y, e⟩
          rw [hc0, y]
          rw [hc0, y] at fz
          iterate 9 refine em_next rfl ?_
          refine em_next ?_ (fz 220 rfl rfl)
          unfold em_stp
          rw [show em_ins 15 219 = some (.idiv, 220) from rfl]
          unfold em_do
          dsimp only
          rw [if_neg y6]
          rfl
      iterate 4 refine em_next rfl ?_
      refine em_c_neE (x' := cst q) rfl (y' := -13) rfl (fun y => ?_) (fun y => ?_)
      · exact fin (fun e => y (hco.2.2.mpr e.1))
      · have y5 : q.1 = 5 := hco.2.2.mp y
        iterate 2 refine em_next rfl ?_
        refine em_z_ne (fun y => ?_) (fun y => ?_)
        · exact fin (fun e => y e.2)
        · rw [if_pos ⟨y5, y⟩] at h2
          iterate 1 refine em_next rfl ?_
          exact em_done rfl (h2 I rfl (fun _ _ => rfl))
theorem ce_lessB_plan_chills {a len sk : Nat} {x2 l r : Int32} {o1 : Option Value} (ha : a + 1 < len) (hlen : len ≤ 400) (hL : I 33 2 = nI len) (hs : I 34 (a + 1) = nI sk) (hsk : sk ≤ 400)
    (h1 : l < r → em_wp em_sc0 d 15 4 [some (.ref 33), some (.ref 39), some (.int (0)), some (.int (nI (a + 2))), o1, some (.int (l)), some (.int (r))] [] (em_SH, I, J, em_RT lw) Q)
    (h2 : ¬ l < r → em_wp em_sc0 d 15 4 [some (.ref 33), some (.ref 39), some (.int (0)), some (.int (nI (a + 2 + sk))), o1, some (.int (l)), some (.int (r))] [] (em_SH, I, J, em_RT lw) Q) :
    em_wp em_sc0 d 15 224 [some (.ref 33), some (.ref 39), some (.int (x2)), some (.int (nI a)), o1, some (.int (l)), some (.int (r))] [] (em_SH, I, J, em_RT lw) Q := by
  iterate 6 refine em_next rfl ?_
  refine em_c_lt (fun z => ?_) (fun z => ?_)
  · have g := h1 z
    rw [show a + 2 = (a + 1) + 1 by omega, nI_succ] at g
    iterate 3 refine em_next rfl ?_
    refine em_tp (y := nI (a + 1)) (by rw [nI_succ]; rfl) ?_
    iterate 3 refine em_next rfl ?_
    exact g
  · have g := h2 z
    rw [show a + 2 + sk = (a + (1 + sk)) + 1 by omega, nI_succ] at g
    iterate 6 refine em_next rfl ?_
    refine em_c_ltE (x' := nI (a + 1)) (by rw [nI_succ]; rfl) hL (fun _ => ?_) (fun z => absurd (nI_lt ha (by omega)) z)
    iterate 6 refine em_next rfl ?_
    refine em_ialE (k := a + 1) rfl rfl (by rw [nI_succ]; rfl) (by omega) (by decide) ?_
    refine em_tp hs ?_
    iterate 1 refine em_next rfl ?_
    refine em_tp (y := nI (1 + sk)) (em_nadd 1 sk).symm ?_
    iterate 1 refine em_next rfl ?_
    refine em_tp (y := nI (a + (1 + sk))) (em_nadd _ _).symm ?_
    iterate 3 refine em_next rfl ?_
    exact g
theorem ce_less_plan_chills {a len sk : Nat} {l r : Int32} {o1 o2 o3 : Option Value} (ha : a + 1 < len) (hlen : len ≤ 400) (hL : I 33 2 = nI len) (h0 : I 34 a = -14) (hs : I 34 (a + 1) = nI sk) (hsk : sk ≤ 400) (hl : I 35 0 = l) (hr : I 35 1 = r)
    (h1 : l < r → ∀ o1 o2 o3 : Option Value, em_wp em_sc0 d 15 4 [some (.ref 33), some (.ref 39), some (.int (0)), some (.int (nI (a + 2))), o1, o2, o3] [] (em_SH, I, J, em_RT lw) Q)
    (h2 : ¬ l < r → ∀ o1 o2 o3 : Option Value, em_wp em_sc0 d 15 4 [some (.ref 33), some (.ref 39), some (.int (0)), some (.int (nI (a + 2 + sk))), o1, o2, o3] [] (em_SH, I, J, em_RT lw) Q) :
    em_wp em_sc0 d 15 4 [some (.ref 33), some (.ref 39), some (.int (nI 2)), some (.int (nI a)), o1, o2, o3] [] (em_SH, I, J, em_RT lw) Q := by
  iterate 4 refine em_next rfl ?_
  refine em_c_geE rfl hL (fun z => absurd z (nI_ge (by omega) (by omega))) (fun _ => ?_)
  iterate 3 refine em_next rfl ?_
  refine em_ialn rfl rfl (by omega) (by decide) ?_
  refine em_tp h0 ?_
  iterate 4 refine em_next rfl ?_
  refine em_c_le (fun _ => ?_) (fun z => absurd (by decide) z)
  iterate 3 refine em_next rfl ?_
  refine em_c_eq (fun z => absurd z (by decide)) (fun _ => ?_)
  iterate 3 refine em_next rfl ?_
  refine em_c_ge (fun _ => ?_) (fun z => absurd (by decide) z)
  iterate 6 refine em_next rfl ?_
  refine em_ialE (k := 0) rfl rfl rfl (by decide) (by decide) ?_
  refine em_tp hl ?_
  iterate 4 refine em_next rfl ?_
  refine em_ialE (k := 1) rfl rfl rfl (by decide) (by decide) ?_
  refine em_tp hr ?_
  iterate 4 refine em_next rfl ?_
  refine em_c_ne (fun _ => ?_) (fun z => absurd z (by decide))
  iterate 1 refine em_next rfl ?_
  refine em_tsd rfl (Or.inl (by decide)) ?_
  exact ce_lessB_plan_chills ha hlen hL hs hsk (fun z => h1 z _ _ _) (fun z => h2 z _ _ _)
theorem ce_val_l_plan_chills {bs : List ek_br} {t : ek_cd} {a len : Nat} {o1 o2 o3 : Option Value} (hw : ek_wl (some (bs, t))) (hs : csq (I 34) a (cfl bs t)) (hb : a + (cfl bs t).length = len) (hlen : len ≤ 400) (hL : I 33 2 = nI len)
    (h : ∀ I' : Nat → Nat → Int32, (∀ x, x ≠ 35 → I' x = I x) → Q (some (.int (lbr (I 39) bs t))) (em_SH, I', J, em_RT lw)) :
    em_wp em_sc0 d 15 4 [some (.ref 33), some (.ref 39), some (.int (0)), some (.int (nI a)), o1, o2, o3] [] (em_SH, I, J, em_RT lw) Q := by
  have last : ∀ (K : Nat → Nat → Int32) (o1 o2 o3 : Option Value) (c : ek_cd) (a : Nat), ek_wx c → (∀ x, x ≠ 35 → K x = I x) → csq (I 34) a (c.map cst) → I 34 (a + c.length) = -15 → a + c.length < len → (∀ I' : Nat → Nat → Int32, (∀ x, x ≠ 35 → I' x = I x) → Q (some (.int ((ek_ex (I 39) c).getD 0))) (em_SH, I', J, em_RT lw)) → em_wp em_sc0 d 15 4 [some (.ref 33), some (.ref 39), some (.int (0)), some (.int (nI a)), o1, o2, o3] [] (em_SH, K, J, em_RT lw) Q := fun K o1 o2 o3 c a hwc hK hc hd ha hq => by
    have eK : K 39 = I 39 := hK _ (by decide)
    unfold ek_ex at hq
    refine ce_seg_plan_chills (n := 0) (m := 1) (g := fun _ => 0) (len := len) (by rw [hK _ (by decide)]; exact hc) (wd_mono (by decide) hwc) (by omega) hlen (by rw [hK _ (by decide)]; exact hL) (fun i hi => absurd hi (Nat.not_lt_zero _)) (by decide) (fun I1 r p1 p2 p3 a1 a2 a3 => ?_) (fun I1 a1 a2 => ?_)
    · rw [eK] at a1
      rw [a1] at hq
      have k1 : ∀ x, x ≠ 35 → I1 x = I x := fun x hx => (a2 x hx).trans (hK x hx)
      iterate 4 refine em_next rfl ?_
      refine em_c_geE rfl (y' := nI len) (by show I1 33 2 = _; rw [k1 _ (by decide)]; exact hL) (fun z => absurd z (nI_ge ha (by omega))) (fun _ => ?_)
      iterate 3 refine em_next rfl ?_
      refine em_ialn rfl rfl (by omega) (by decide) ?_
      refine em_tp (y := -15) (by rw [k1 _ (by decide)]; exact hd) ?_
      iterate 4 refine em_next rfl ?_
      refine em_c_le (fun _ => ?_) (fun z => absurd (by decide) z)
      iterate 3 refine em_next rfl ?_
      refine em_c_eq (fun _ => ?_) (fun z => absurd rfl z)
      iterate 3 refine em_next rfl ?_
      refine em_c_ne (fun z => absurd rfl z) (fun _ => ?_)
      iterate 3 refine em_next rfl ?_
      refine em_ialE (k := 0) rfl rfl rfl (by decide) (by decide) ?_
      refine em_tp (a3 0 (by decide)) ?_
      iterate 1 refine em_next rfl ?_
      exact em_done rfl (hq I1 k1)
    · rw [eK] at a1
      rw [a1] at hq
      exact hq I1 (fun x hx => (a2 x hx).trans (hK x hx))
  induction bs generalizing a o1 o2 o3 I with
  | nil =>
    rw [cfl, csq_app] at hs
    rw [cfl, List.length_append, List.length_map] at hb
    rw [List.length_map] at hs
    exact last I o1 o2 o3 t a hw.2 (fun _ _ => rfl) hs.1 hs.2.1 (by simp at hb; omega) h
  | cons q bs ih =>
    have hq := hw.1 q List.mem_cons_self
    rw [cfl, csq_app, csq_app, List.length_map, List.length_map, csq, csq, csq_app, List.length_map, csq] at hs
    obtain ⟨s1, s2, s3, s4, s5, s6, s7⟩ := hs
    rw [cfl, List.length_append, List.length_append, List.length_cons, List.length_cons, List.length_append, List.length_cons, List.length_map, List.length_map, List.length_map] at hb
    have hz : ek_ex (I 39) q.1 = none ∨ ek_ex (I 39) q.2.1 = none → lbr (I 39) (q :: bs) t = 0 := fun z => by
      rw [lbr]
      rcases z with z | z
      · rw [z]
      · rw [z]
        cases ek_ex (I 39) q.1 <;> rfl
    refine ce_seg_plan_chills (n := 0) (m := 1) (g := fun _ => 0) (len := len) s1 (wd_mono (by decide) hq.1) (by omega) hlen hL (fun i hi => absurd hi (Nat.not_lt_zero _)) (by decide) (fun I1 r p1 p2 p3 a1 a2 a3 => ?_) (fun I1 a1 a2 => ?_)
    · have ex1 : ek_ex (I 39) q.1 = some (r 0) := by unfold ek_ex; rw [a1]; rfl
      have eK : I1 39 = I 39 := a2 _ (by decide)
      have sh := ev_sh (v := I 39) (k := 1) hq.2.1 (g := r) (g' := fun _ => 0) (fun i hi => absurd hi (Nat.not_lt_zero _))
      refine ce_seg_plan_chills (n := 1) (m := 2) (g := r) (len := len) (by rw [a2 _ (by decide)]; exact s2) (wd_sh (k := 1) hq.2.1) (by omega) hlen (by rw [a2 _ (by decide)]; exact hL) a3 (by decide) (fun I2 r2 p1 p2 p3 b1 b2 b3 => ?_) (fun I2 b1 b2 => ?_)
      · rw [eK] at b1
        have k2 : ∀ x, x ≠ 35 → I2 x = I x := fun x hx => (b2 x hx).trans (a2 x hx)
        obtain ⟨y, ey, hr0, hr1⟩ : ∃ y, ek_ex (I 39) q.2.1 = some y ∧ r2 0 = r 0 ∧ r2 1 = y := by
          cases e : ek_ev (I 39) q.2.1 0 (fun _ => 0) with
          | none =>
            have := sh.1 e
            rw [Nat.zero_add, b1] at this
            cases this
          | some g' =>
            obtain ⟨r3, u1, u2, u3⟩ := sh.2 g' e
            rw [Nat.zero_add, b1] at u1
            cases u1
            exact ⟨g' 0, by unfold ek_ex; rw [e]; rfl, u3 0 (by decide), u2 0 (by decide)⟩
        rw [lbr, ex1, ey] at h
        dsimp only at h
        refine ce_less_plan_chills (a := a + q.1.length + q.2.1.length) (len := len) (sk := q.2.2.length + 1) (by omega) hlen (by rw [k2 _ (by decide)]; exact hL) (by rw [k2 _ (by decide)]; exact s3) (by rw [k2 _ (by decide)]; exact s4) (by omega) ((b3 0 (by decide)).trans hr0) ((b3 1 (by decide)).trans hr1) (fun z p1 p2 p3 => ?_) (fun z p1 p2 p3 => ?_)
        · rw [if_pos z] at h
          exact last I2 p1 p2 p3 q.2.2 (a + q.1.length + q.2.1.length + 1 + 1) hq.2.2 k2 s5 s6 (by omega) h
        · rw [if_neg z] at h
          exact ih (a := a + q.1.length + q.2.1.length + 2 + (q.2.2.length + 1)) (I := I2) (o1 := p1) (o2 := p2) (o3 := p3) ⟨fun x hx => hw.1 x (List.mem_cons_of_mem _ hx), hw.2⟩ (by
            rw [k2 _ (by decide)]
            rw [show a + q.1.length + q.2.1.length + 2 + (q.2.2.length + 1) = a + q.1.length + q.2.1.length + 1 + 1 + q.2.2.length + 1 by omega]
            exact s7) (by omega) (by rw [k2 _ (by decide)]; exact hL) (fun I' f => by
            rw [k2 _ (by decide)]
            exact h I' (fun x hx => (f x hx).trans (k2 x hx))) (fun K o1 o2 o3 c a w1 w2 w3 w4 w5 w6 => last K o1 o2 o3 c a w1 (fun x hx => (w2 x hx).trans (k2 x hx)) (by rw [k2 _ (by decide)] at w3; exact w3) (by rw [k2 _ (by decide)] at w4; exact w4) w5 (fun I' f => by
            have := w6 I' (fun x hx => (f x hx).trans (k2 x hx).symm)
            rw [k2 _ (by decide)] at this
            exact this))
      · rw [eK] at b1
        rw [hz (Or.inr (by
          cases e : ek_ev (I 39) q.2.1 0 (fun _ => 0) with
          | none => unfold ek_ex; rw [e]; rfl
          | some g' =>
            obtain ⟨r3, u1, u2, u3⟩ := sh.2 g' e
            rw [Nat.zero_add, b1] at u1
            cases u1))] at h
        exact h I2 (fun x hx => (b2 x hx).trans (a2 x hx))
    · rw [hz (Or.inl (by unfold ek_ex; rw [a1]; rfl))] at h
      exact h I1 a2
theorem cp_law_plan_chills {k : Nat} {l : ek_lw} (hk : k < 4) (hw : ek_wl l) (hL : I 33 2 = nI (cfl (lsome k l).1 (lsome k l).2).length) (hb : (cfl (lsome k l).1 (lsome k l).2).length ≤ 400) (hs : csq (I 34) 0 (cfl (lsome k l).1 (lsome k l).2)) : cp_law I 33 (lsem k l) := by
  intro I' J lw d Q e1 e2 hq
  have hw2 : ek_wl (some (lsome k l)) := by
    cases l with
    | none =>
      refine ⟨fun b hb => absurd hb (List.not_mem_nil), ?_⟩
      rcases (show k = 0 ∨ k = 1 ∨ k = 2 ∨ k = 3 by omega) with rfl | rfl | rfl | rfl <;> simp [lsome, dk, ek_wx, ek_wd]
    | some q => exact hw
  have ep : lsem k l (em_v9 (I' 39)) = lbr (I' 39) (lsome k l).1 (lsome k l).2 := by
    cases l with
    | none =>
      have e0 : lsem k none (em_v9 (I' 39)) = em_pl k (I' 39) := by
        unfold lsem em_pl
        dsimp only
        rw [v9_get (by decide)]
      rw [e0]
      rcases (show k = 0 ∨ k = 1 ∨ k = 2 ∨ k = 3 by omega) with rfl | rfl | rfl | rfl <;> rfl
    | some q => exact lbr_v hw (fun x hx => v9_get hx)
  rw [ep] at hq
  iterate 4 refine em_next rfl ?_
  exact ce_val_l_plan_chills (a := 0) (len := (cfl (lsome k l).1 (lsome k l).2).length) hw2 (by rw [e2]; exact hs) (Nat.zero_add _) hb (by rw [e1]; exact hL) (fun I'' f => hq I'' f)
theorem ce_seg_plan_costs {c : ek_cd} {a n m len : Nat} {g : Nat → Int32} {o1 o2 o3 : Option Value} (hs : csq (I 37) a (c.map cst)) (hw : ek_wd 16 c n m) (hb : a + c.length ≤ len) (hlen : len ≤ 400) (hL : I 36 2 = nI len) (hg : ∀ i, i < n → I 38 i = g i) (hn : n ≤ 16)
    (h1 : ∀ (I' : Nat → Nat → Int32) (r : Nat → Int32) (o1 o2 o3 : Option Value), ek_ev (I 39) c n g = some r → (∀ x, x ≠ 38 → I' x = I x) → (∀ i, i < m → I' 38 i = r i) → em_wp em_sc0 d 15 4 [some (.ref 36), some (.ref 39), some (.int (nI m)), some (.int (nI (a + c.length))), o1, o2, o3] [] (em_SH, I', J, em_RT lw) Q)
    (h2 : ∀ I' : Nat → Nat → Int32, ek_ev (I 39) c n g = none → (∀ x, x ≠ 38 → I' x = I x) → Q (some (.int 0)) (em_SH, I', J, em_RT lw)) :
    em_wp em_sc0 d 15 4 [some (.ref 36), some (.ref 39), some (.int (nI n)), some (.int (nI a)), o1, o2, o3] [] (em_SH, I, J, em_RT lw) Q := by
  induction c generalizing a n g I o1 o2 o3 with
  | nil =>
    have hn1 : n = m := hw
    subst hn1
    exact h1 I g o1 o2 o3 rfl (fun _ _ => rfl) hg
  | cons q c ih =>
    rw [List.map_cons, csq] at hs
    rw [List.length_cons] at hb
    rw [ek_wd] at hw
    iterate 4 refine em_next rfl ?_
    refine em_c_geE rfl hL (fun h1 => absurd h1 (nI_ge (by omega) (by omega))) (fun _ => ?_)
    iterate 3 refine em_next rfl ?_
    refine em_ialn rfl rfl (by omega) (by decide) ?_
    refine em_tp hs.1 ?_
    iterate 4 refine em_next rfl ?_
    by_cases z2 : q.1 < 2
    · rw [if_pos z2] at hw
      obtain ⟨w1, w2, w3, w4⟩ := hw
      rw [ek_ev, if_pos z2] at h1 h2
      have hgt : -10 < cst q := by
        unfold cst
        by_cases y : q.1 = 0
        · rw [if_pos y]
          exact Int32.lt_of_lt_of_le (by decide) (nI_pos' (by omega))
        · rw [if_neg y, if_pos (by omega)]
          exact (cst_gt _ (w1 (by omega))).1
      refine em_c_leE (x' := cst q) rfl (y' := -10) rfl (fun z => absurd hgt (Int32.not_lt.mpr z)) (fun _ => ?_)
      iterate 3 refine em_next rfl ?_
      refine em_c_ltE rfl (y' := nI 16) rfl (fun _ => ?_) (fun z => absurd (nI_lt (by omega) (by decide)) z)
      have fin : em_wp em_sc0 d 15 56 [some (.ref 36), some (.ref 39), some (.int (nI n)), some (.int (nI a)), some (.int (cst q)), o2, o3] [.int (if q.1 = 0 then nI q.2 else I 39 q.2), .int (nI n), .ref 38] (em_SH, I, J, em_RT lw) Q := by
        refine em_iasn rfl rfl (by omega) (by decide) ?_
        have hr1 : ∀ y, y ≠ 38 → em_u I 38 n (if q.1 = 0 then nI q.2 else I 39 q.2) y = I y := fun y hy => em_u_row hy
        have g2 := ih (a := a + 1) (n := n + 1) (I := em_u I 38 n (if q.1 = 0 then nI q.2 else I 39 q.2)) (g := ek_eu g n (if q.1 = 0 then nI q.2 else I 39 q.2)) (o1 := some (.int (cst q))) (o2 := o2) (o3 := o3) (by rw [hr1 _ (by decide)]; exact hs.2) w4 (by omega) (by rw [hr1 _ (by decide)]; exact hL) (fun i hi => by
          by_cases e : i = n
          · subst e; rw [em_u_self, ek_eus]
          · rw [em_u_ne e, ek_eun e]; exact hg i (by omega)) (by omega) (fun I' r o1 o2 o3 e f f2 => by
            have := h1 I' r o1 o2 o3 (by rw [hr1 _ (by decide)] at e; exact e) (fun x hx => (f x hx).trans (hr1 x hx)) f2
            rw [List.length_cons, show a + (c.length + 1) = a + 1 + c.length by omega] at this
            exact this) (fun I' e f => h2 I' (by rw [hr1 _ (by decide)] at e; exact e) (fun x hx => (f x hx).trans (hr1 x hx)))
        rw [nI_succ, nI_succ] at g2
        iterate 2 refine em_next rfl ?_
        iterate 2 refine em_next rfl ?_
        exact g2
      iterate 5 refine em_next rfl ?_
      by_cases y : q.1 = 0
      · rw [if_pos y] at fin
        have ec : cst q = nI q.2 := if_pos y
        refine em_z_ltE (x' := nI q.2) ec (fun z => absurd z (nI_pos (by omega))) (fun _ => ?_)
        iterate 1 refine em_next rfl ?_
        refine em_tp ec ?_
        iterate 1 refine em_next rfl ?_
        exact fin
      · rw [if_neg y] at fin
        have hx := w1 (by omega)
        have ec : cst q = -1 - nI q.2 := by unfold cst; rw [if_neg y, if_pos (by omega)]
        refine em_z_ltE (x' := -1 - nI q.2) ec (fun _ => ?_) (fun z => absurd (cst_gt _ hx).2.1 z)
        iterate 4 refine em_next rfl ?_
        refine em_ialE (k := q.2) rfl rfl ?_ (by omega) (by decide) ?_
        · show -1 - cst q = nI q.2
          rw [ec]
          exact (cst_gt _ hx).2.2
        exact fin
    · rw [if_neg z2] at hw
      obtain ⟨w1, w2, w3⟩ := hw
      rw [ek_ev, if_neg z2] at h1 h2
      have hc0 := cst_op0 (q := q) (by omega)
      have hco := cst_op q.1 (by omega) w1
      rw [← hc0] at hco
      refine em_c_leE (x' := cst q) rfl (y' := -10) rfl (fun _ => ?_) (fun z => absurd hco.1 z)
      iterate 3 refine em_next rfl ?_
      refine em_c_eqE (x' := cst q) rfl (y' := -15) rfl (fun z => absurd z hco.2.1) (fun _ => ?_)
      iterate 3 refine em_next rfl ?_
      refine em_c_geE rfl (y' := nI 2) rfl (fun _ => ?_) (fun z => absurd (nI_le w2 (by omega)) z)
      iterate 6 refine em_next rfl ?_
      refine em_ialE (k := n - 2) rfl rfl ?_ (by omega) (by decide) ?_
      · show nI n + Int32.ofInt (-1) - 1 = nI (n - 2)
        rw [em_pred2 (by omega), em_pred (by omega)]
        congr 1
      refine em_tp (hg (n - 2) (by omega)) ?_
      iterate 4 refine em_next rfl ?_
      refine em_ialE (k := n - 1) rfl rfl (em_pred2 (by omega)) (by omega) (by decide) ?_
      refine em_tp (hg (n - 1) (by omega)) ?_
      have fin2 : ¬ (q.1 = 5 ∧ g (n - 1) = 0) → ∀ (pc : Nat), em_ins 15 pc = some (.iastore, pc + 1) → em_ins 15 (pc + 1) = some (.goto 260, pc + 4) → em_wp em_sc0 d 15 pc [some (.ref 36), some (.ref 39), some (.int (nI n + Int32.ofInt (-1))), some (.int (nI a)), some (.int (cst q)), some (.int (g (n - 2))), some (.int (g (n - 1)))] [.int (ek_eo q.1 (g (n - 2)) (g (n - 1))), .int (nI n + Int32.ofInt (-1) - 1), .ref 38] (em_SH, I, J, em_RT lw) Q := fun zz pc hp1 hp2 => by
        rw [if_neg zz] at h1 h2
        refine em_iasE (k := n - 2) hp1 rfl ?_ (by omega) (by decide) ?_
        · rw [em_pred2 (by omega), em_pred (by omega)]
          congr 1
        have hr1 : ∀ x, x ≠ 38 → em_u I 38 (n - 2) (ek_eo q.1 (g (n - 2)) (g (n - 1))) x = I x := fun x hx => em_u_row hx
        have g2 := ih (a := a + 1) (n := n - 1) (I := em_u I 38 (n - 2) (ek_eo q.1 (g (n - 2)) (g (n - 1)))) (g := ek_eu g (n - 2) (ek_eo q.1 (g (n - 2)) (g (n - 1)))) (o1 := some (.int (cst q))) (o2 := some (.int (g (n - 2)))) (o3 := some (.int (g (n - 1)))) (by rw [hr1 _ (by decide)]; exact hs.2) w3 (by omega) (by rw [hr1 _ (by decide)]; exact hL) (fun i hi => by
          by_cases e : i = n - 2
          · subst e; rw [em_u_self, ek_eus]
          · rw [em_u_ne e, ek_eun e]; exact hg i (by omega)) (by omega) (fun I' r o1 o2 o3 e f f2 => by
            have := h1 I' r o1 o2 o3 (by rw [hr1 _ (by decide)] at e; exact e) (fun x hx => (f x hx).trans (hr1 x hx)) f2
            rw [List.length_cons, show a + (c.length + 1) = a + 1 + c.length by omega] at this
            exact this) (fun I' e f => h2 I' (by rw [hr1 _ (by decide)] at e; exact e) (fun x hx => (f x hx).trans (hr1 x hx)))
        rw [em_pred2 (by omega)]
        rw [nI_succ] at g2
        refine em_next (pc' := 260) (lc' := [some (.ref 36), some (.ref 39), some (.int (nI (n - 1))), some (.int (nI a)), some (.int (cst q)), some (.int (g (n - 2))), some (.int (g (n - 1)))]) (st' := []) (M' := (em_SH, em_u I 38 (n - 2) (ek_eo q.1 (g (n - 2)) (g (n - 1))), J, em_RT lw)) ?_ ?_
        · unfold em_stp
          rw [hp2]
          rfl
        iterate 2 refine em_next rfl ?_
        exact g2
      have fin : ¬ (q.1 = 5 ∧ g (n - 1) = 0) → em_wp em_sc0 d 15 126 [some (.ref 36), some (.ref 39), some (.int (nI n + Int32.ofInt (-1))), some (.int (nI a)), some (.int (cst q)), some (.int (g (n - 2))), some (.int (g (n - 1)))] [] (em_SH, I, J, em_RT lw) Q := fun zz => by
        have fz := fin2 zz
        unfold ek_eo at fz
        rcases (show q.1 = 2 ∨ q.1 = 3 ∨ q.1 = 4 ∨ q.1 = 5 by omega) with y | y | y | y
        · rw [if_pos y] at fz
          rw [hc0, y]
          rw [hc0, y] at fz
          iterate 10 refine em_next rfl ?_
          exact fz 172 rfl rfl
        · rw [if_neg (by omega), if_pos y] at fz
          rw [hc0, y]
          rw [hc0, y] at fz
          iterate 10 refine em_next rfl ?_
          exact fz 188 rfl rfl
        · rw [if_neg (by omega), if_neg (by omega), if_pos y] at fz
          rw [hc0, y]
          rw [hc0, y] at fz
          iterate 10 refine em_next rfl ?_
          exact fz 204 rfl rfl
        · rw [if_neg (by omega), if_neg (by omega), if_neg (by omega)] at fz
          have y6 : ¬ g (n - 1) = 0 := fun e => zz ⟨y, e⟩
          rw [hc0, y]
          rw [hc0, y] at fz
          iterate 9 refine em_next rfl ?_
          refine em_next ?_ (fz 220 rfl rfl)
          unfold em_stp
          rw [show em_ins 15 219 = some (.idiv, 220) from rfl]
          unfold em_do
          dsimp only
          rw [if_neg y6]
          rfl
      iterate 4 refine em_next rfl ?_
      refine em_c_neE (x' := cst q) rfl (y' := -13) rfl (fun y => ?_) (fun y => ?_)
      · exact fin (fun e => y (hco.2.2.mpr e.1))
      · have y5 : q.1 = 5 := hco.2.2.mp y
        iterate 2 refine em_next rfl ?_
        refine em_z_ne (fun y => ?_) (fun y => ?_)
        · exact fin (fun e => y e.2)
        · rw [if_pos ⟨y5, y⟩] at h2
          iterate 1 refine em_next rfl ?_
          exact em_done rfl (h2 I rfl (fun _ _ => rfl))
theorem ce_lessB_plan_costs {a len sk : Nat} {x2 l r : Int32} {o1 : Option Value} (ha : a + 1 < len) (hlen : len ≤ 400) (hL : I 36 2 = nI len) (hs : I 37 (a + 1) = nI sk) (hsk : sk ≤ 400)
    (h1 : l < r → em_wp em_sc0 d 15 4 [some (.ref 36), some (.ref 39), some (.int (0)), some (.int (nI (a + 2))), o1, some (.int (l)), some (.int (r))] [] (em_SH, I, J, em_RT lw) Q)
    (h2 : ¬ l < r → em_wp em_sc0 d 15 4 [some (.ref 36), some (.ref 39), some (.int (0)), some (.int (nI (a + 2 + sk))), o1, some (.int (l)), some (.int (r))] [] (em_SH, I, J, em_RT lw) Q) :
    em_wp em_sc0 d 15 224 [some (.ref 36), some (.ref 39), some (.int (x2)), some (.int (nI a)), o1, some (.int (l)), some (.int (r))] [] (em_SH, I, J, em_RT lw) Q := by
  iterate 6 refine em_next rfl ?_
  refine em_c_lt (fun z => ?_) (fun z => ?_)
  · have g := h1 z
    rw [show a + 2 = (a + 1) + 1 by omega, nI_succ] at g
    iterate 3 refine em_next rfl ?_
    refine em_tp (y := nI (a + 1)) (by rw [nI_succ]; rfl) ?_
    iterate 3 refine em_next rfl ?_
    exact g
  · have g := h2 z
    rw [show a + 2 + sk = (a + (1 + sk)) + 1 by omega, nI_succ] at g
    iterate 6 refine em_next rfl ?_
    refine em_c_ltE (x' := nI (a + 1)) (by rw [nI_succ]; rfl) hL (fun _ => ?_) (fun z => absurd (nI_lt ha (by omega)) z)
    iterate 6 refine em_next rfl ?_
    refine em_ialE (k := a + 1) rfl rfl (by rw [nI_succ]; rfl) (by omega) (by decide) ?_
    refine em_tp hs ?_
    iterate 1 refine em_next rfl ?_
    refine em_tp (y := nI (1 + sk)) (em_nadd 1 sk).symm ?_
    iterate 1 refine em_next rfl ?_
    refine em_tp (y := nI (a + (1 + sk))) (em_nadd _ _).symm ?_
    iterate 3 refine em_next rfl ?_
    exact g
theorem ce_less_plan_costs {a len sk : Nat} {l r : Int32} {o1 o2 o3 : Option Value} (ha : a + 1 < len) (hlen : len ≤ 400) (hL : I 36 2 = nI len) (h0 : I 37 a = -14) (hs : I 37 (a + 1) = nI sk) (hsk : sk ≤ 400) (hl : I 38 0 = l) (hr : I 38 1 = r)
    (h1 : l < r → ∀ o1 o2 o3 : Option Value, em_wp em_sc0 d 15 4 [some (.ref 36), some (.ref 39), some (.int (0)), some (.int (nI (a + 2))), o1, o2, o3] [] (em_SH, I, J, em_RT lw) Q)
    (h2 : ¬ l < r → ∀ o1 o2 o3 : Option Value, em_wp em_sc0 d 15 4 [some (.ref 36), some (.ref 39), some (.int (0)), some (.int (nI (a + 2 + sk))), o1, o2, o3] [] (em_SH, I, J, em_RT lw) Q) :
    em_wp em_sc0 d 15 4 [some (.ref 36), some (.ref 39), some (.int (nI 2)), some (.int (nI a)), o1, o2, o3] [] (em_SH, I, J, em_RT lw) Q := by
  iterate 4 refine em_next rfl ?_
  refine em_c_geE rfl hL (fun z => absurd z (nI_ge (by omega) (by omega))) (fun _ => ?_)
  iterate 3 refine em_next rfl ?_
  refine em_ialn rfl rfl (by omega) (by decide) ?_
  refine em_tp h0 ?_
  iterate 4 refine em_next rfl ?_
  refine em_c_le (fun _ => ?_) (fun z => absurd (by decide) z)
  iterate 3 refine em_next rfl ?_
  refine em_c_eq (fun z => absurd z (by decide)) (fun _ => ?_)
  iterate 3 refine em_next rfl ?_
  refine em_c_ge (fun _ => ?_) (fun z => absurd (by decide) z)
  iterate 6 refine em_next rfl ?_
  refine em_ialE (k := 0) rfl rfl rfl (by decide) (by decide) ?_
  refine em_tp hl ?_
  iterate 4 refine em_next rfl ?_
  refine em_ialE (k := 1) rfl rfl rfl (by decide) (by decide) ?_
  refine em_tp hr ?_
  iterate 4 refine em_next rfl ?_
  refine em_c_ne (fun _ => ?_) (fun z => absurd z (by decide))
  iterate 1 refine em_next rfl ?_
  refine em_tsd rfl (Or.inl (by decide)) ?_
  exact ce_lessB_plan_costs ha hlen hL hs hsk (fun z => h1 z _ _ _) (fun z => h2 z _ _ _)
theorem ce_val_l_plan_costs {bs : List ek_br} {t : ek_cd} {a len : Nat} {o1 o2 o3 : Option Value} (hw : ek_wl (some (bs, t))) (hs : csq (I 37) a (cfl bs t)) (hb : a + (cfl bs t).length = len) (hlen : len ≤ 400) (hL : I 36 2 = nI len)
    (h : ∀ I' : Nat → Nat → Int32, (∀ x, x ≠ 38 → I' x = I x) → Q (some (.int (lbr (I 39) bs t))) (em_SH, I', J, em_RT lw)) :
    em_wp em_sc0 d 15 4 [some (.ref 36), some (.ref 39), some (.int (0)), some (.int (nI a)), o1, o2, o3] [] (em_SH, I, J, em_RT lw) Q := by
  have last : ∀ (K : Nat → Nat → Int32) (o1 o2 o3 : Option Value) (c : ek_cd) (a : Nat), ek_wx c → (∀ x, x ≠ 38 → K x = I x) → csq (I 37) a (c.map cst) → I 37 (a + c.length) = -15 → a + c.length < len → (∀ I' : Nat → Nat → Int32, (∀ x, x ≠ 38 → I' x = I x) → Q (some (.int ((ek_ex (I 39) c).getD 0))) (em_SH, I', J, em_RT lw)) → em_wp em_sc0 d 15 4 [some (.ref 36), some (.ref 39), some (.int (0)), some (.int (nI a)), o1, o2, o3] [] (em_SH, K, J, em_RT lw) Q := fun K o1 o2 o3 c a hwc hK hc hd ha hq => by
    have eK : K 39 = I 39 := hK _ (by decide)
    unfold ek_ex at hq
    refine ce_seg_plan_costs (n := 0) (m := 1) (g := fun _ => 0) (len := len) (by rw [hK _ (by decide)]; exact hc) (wd_mono (by decide) hwc) (by omega) hlen (by rw [hK _ (by decide)]; exact hL) (fun i hi => absurd hi (Nat.not_lt_zero _)) (by decide) (fun I1 r p1 p2 p3 a1 a2 a3 => ?_) (fun I1 a1 a2 => ?_)
    · rw [eK] at a1
      rw [a1] at hq
      have k1 : ∀ x, x ≠ 38 → I1 x = I x := fun x hx => (a2 x hx).trans (hK x hx)
      iterate 4 refine em_next rfl ?_
      refine em_c_geE rfl (y' := nI len) (by show I1 36 2 = _; rw [k1 _ (by decide)]; exact hL) (fun z => absurd z (nI_ge ha (by omega))) (fun _ => ?_)
      iterate 3 refine em_next rfl ?_
      refine em_ialn rfl rfl (by omega) (by decide) ?_
      refine em_tp (y := -15) (by rw [k1 _ (by decide)]; exact hd) ?_
      iterate 4 refine em_next rfl ?_
      refine em_c_le (fun _ => ?_) (fun z => absurd (by decide) z)
      iterate 3 refine em_next rfl ?_
      refine em_c_eq (fun _ => ?_) (fun z => absurd rfl z)
      iterate 3 refine em_next rfl ?_
      refine em_c_ne (fun z => absurd rfl z) (fun _ => ?_)
      iterate 3 refine em_next rfl ?_
      refine em_ialE (k := 0) rfl rfl rfl (by decide) (by decide) ?_
      refine em_tp (a3 0 (by decide)) ?_
      iterate 1 refine em_next rfl ?_
      exact em_done rfl (hq I1 k1)
    · rw [eK] at a1
      rw [a1] at hq
      exact hq I1 (fun x hx => (a2 x hx).trans (hK x hx))
  induction bs generalizing a o1 o2 o3 I with
  | nil =>
    rw [cfl, csq_app] at hs
    rw [cfl, List.length_append, List.length_map] at hb
    rw [List.length_map] at hs
    exact last I o1 o2 o3 t a hw.2 (fun _ _ => rfl) hs.1 hs.2.1 (by simp at hb; omega) h
  | cons q bs ih =>
    have hq := hw.1 q List.mem_cons_self
    rw [cfl, csq_app, csq_app, List.length_map, List.length_map, csq, csq, csq_app, List.length_map, csq] at hs
    obtain ⟨s1, s2, s3, s4, s5, s6, s7⟩ := hs
    rw [cfl, List.length_append, List.length_append, List.length_cons, List.length_cons, List.length_append, List.length_cons, List.length_map, List.length_map, List.length_map] at hb
    have hz : ek_ex (I 39) q.1 = none ∨ ek_ex (I 39) q.2.1 = none → lbr (I 39) (q :: bs) t = 0 := fun z => by
      rw [lbr]
      rcases z with z | z
      · rw [z]
      · rw [z]
        cases ek_ex (I 39) q.1 <;> rfl
    refine ce_seg_plan_costs (n := 0) (m := 1) (g := fun _ => 0) (len := len) s1 (wd_mono (by decide) hq.1) (by omega) hlen hL (fun i hi => absurd hi (Nat.not_lt_zero _)) (by decide) (fun I1 r p1 p2 p3 a1 a2 a3 => ?_) (fun I1 a1 a2 => ?_)
    · have ex1 : ek_ex (I 39) q.1 = some (r 0) := by unfold ek_ex; rw [a1]; rfl
      have eK : I1 39 = I 39 := a2 _ (by decide)
      have sh := ev_sh (v := I 39) (k := 1) hq.2.1 (g := r) (g' := fun _ => 0) (fun i hi => absurd hi (Nat.not_lt_zero _))
      refine ce_seg_plan_costs (n := 1) (m := 2) (g := r) (len := len) (by rw [a2 _ (by decide)]; exact s2) (wd_sh (k := 1) hq.2.1) (by omega) hlen (by rw [a2 _ (by decide)]; exact hL) a3 (by decide) (fun I2 r2 p1 p2 p3 b1 b2 b3 => ?_) (fun I2 b1 b2 => ?_)
      · rw [eK] at b1
        have k2 : ∀ x, x ≠ 38 → I2 x = I x := fun x hx => (b2 x hx).trans (a2 x hx)
        obtain ⟨y, ey, hr0, hr1⟩ : ∃ y, ek_ex (I 39) q.2.1 = some y ∧ r2 0 = r 0 ∧ r2 1 = y := by
          cases e : ek_ev (I 39) q.2.1 0 (fun _ => 0) with
          | none =>
            have := sh.1 e
            rw [Nat.zero_add, b1] at this
            cases this
          | some g' =>
            obtain ⟨r3, u1, u2, u3⟩ := sh.2 g' e
            rw [Nat.zero_add, b1] at u1
            cases u1
            exact ⟨g' 0, by unfold ek_ex; rw [e]; rfl, u3 0 (by decide), u2 0 (by decide)⟩
        rw [lbr, ex1, ey] at h
        dsimp only at h
        refine ce_less_plan_costs (a := a + q.1.length + q.2.1.length) (len := len) (sk := q.2.2.length + 1) (by omega) hlen (by rw [k2 _ (by decide)]; exact hL) (by rw [k2 _ (by decide)]; exact s3) (by rw [k2 _ (by decide)]; exact s4) (by omega) ((b3 0 (by decide)).trans hr0) ((b3 1 (by decide)).trans hr1) (fun z p1 p2 p3 => ?_) (fun z p1 p2 p3 => ?_)
        · rw [if_pos z] at h
          exact last I2 p1 p2 p3 q.2.2 (a + q.1.length + q.2.1.length + 1 + 1) hq.2.2 k2 s5 s6 (by omega) h
        · rw [if_neg z] at h
          exact ih (a := a + q.1.length + q.2.1.length + 2 + (q.2.2.length + 1)) (I := I2) (o1 := p1) (o2 := p2) (o3 := p3) ⟨fun x hx => hw.1 x (List.mem_cons_of_mem _ hx), hw.2⟩ (by
            rw [k2 _ (by decide)]
            rw [show a + q.1.length + q.2.1.length + 2 + (q.2.2.length + 1) = a + q.1.length + q.2.1.length + 1 + 1 + q.2.2.length + 1 by omega]
            exact s7) (by omega) (by rw [k2 _ (by decide)]; exact hL) (fun I' f => by
            rw [k2 _ (by decide)]
            exact h I' (fun x hx => (f x hx).trans (k2 x hx))) (fun K o1 o2 o3 c a w1 w2 w3 w4 w5 w6 => last K o1 o2 o3 c a w1 (fun x hx => (w2 x hx).trans (k2 x hx)) (by rw [k2 _ (by decide)] at w3; exact w3) (by rw [k2 _ (by decide)] at w4; exact w4) w5 (fun I' f => by
            have := w6 I' (fun x hx => (f x hx).trans (k2 x hx).symm)
            rw [k2 _ (by decide)] at this
            exact this))
      · rw [eK] at b1
        rw [hz (Or.inr (by
          cases e : ek_ev (I 39) q.2.1 0 (fun _ => 0) with
          | none => unfold ek_ex; rw [e]; rfl
          | some g' =>
            obtain ⟨r3, u1, u2, u3⟩ := sh.2 g' e
            rw [Nat.zero_add, b1] at u1
            cases u1))] at h
        exact h I2 (fun x hx => (b2 x hx).trans (a2 x hx))
    · rw [hz (Or.inl (by unfold ek_ex; rw [a1]; rfl))] at h
      exact h I1 a2
theorem cp_law_plan_costs {k : Nat} {l : ek_lw} (hk : k < 4) (hw : ek_wl l) (hL : I 36 2 = nI (cfl (lsome k l).1 (lsome k l).2).length) (hb : (cfl (lsome k l).1 (lsome k l).2).length ≤ 400) (hs : csq (I 37) 0 (cfl (lsome k l).1 (lsome k l).2)) : cp_law I 36 (lsem k l) := by
  intro I' J lw d Q e1 e2 hq
  have hw2 : ek_wl (some (lsome k l)) := by
    cases l with
    | none =>
      refine ⟨fun b hb => absurd hb (List.not_mem_nil), ?_⟩
      rcases (show k = 0 ∨ k = 1 ∨ k = 2 ∨ k = 3 by omega) with rfl | rfl | rfl | rfl <;> simp [lsome, dk, ek_wx, ek_wd]
    | some q => exact hw
  have ep : lsem k l (em_v9 (I' 39)) = lbr (I' 39) (lsome k l).1 (lsome k l).2 := by
    cases l with
    | none =>
      have e0 : lsem k none (em_v9 (I' 39)) = em_pl k (I' 39) := by
        unfold lsem em_pl
        dsimp only
        rw [v9_get (by decide)]
      rw [e0]
      rcases (show k = 0 ∨ k = 1 ∨ k = 2 ∨ k = 3 by omega) with rfl | rfl | rfl | rfl <;> rfl
    | some q => exact lbr_v hw (fun x hx => v9_get hx)
  rw [ep] at hq
  iterate 4 refine em_next rfl ?_
  exact ce_val_l_plan_costs (a := 0) (len := (cfl (lsome k l).1 (lsome k l).2).length) hw2 (by rw [e2]; exact hs) (Nat.zero_add _) hb (by rw [e1]; exact hL) (fun I'' f => hq I'' f)
end CLAW
