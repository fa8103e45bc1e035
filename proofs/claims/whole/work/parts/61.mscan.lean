/-! the reference cuts a text into tokens -/
theorem lN_inj {a b : Nat} (ha : a < 2 ^ 63) (hb : b < 2 ^ 63) (h : lN a = lN b) : a = b := by
  have e1 : (lN a).toInt = (a : Int) := lg_ofNat_toInt (by omega)
  have e2 : (lN b).toInt = (b : Int) := lg_ofNat_toInt (by omega)
  rw [h, e2] at e1
  omega
theorem tk_wi_eq {m k : Nat} (hk : k < 21) : tk_kw.getD k 0 = m ↔ tk_wi m = k := by
  constructor
  · intro h
    subst h
    have : ∀ k, k < 21 → tk_wi (tk_kw.getD k 0) = k := by decide
    exact this k hk
  · intro h
    have hl : tk_kw.length = 21 := rfl
    have hlt : tk_kw.idxOf m < tk_kw.length := by unfold tk_wi at h; omega
    have g := List.getElem_idxOf hlt
    unfold tk_wi at h
    subst h
    rw [List.getD_eq_getElem?_getD, List.getElem?_eq_getElem hlt]
    exact g
def em_uj (J : Nat → Nat → Int64) (a j : Nat) (x : Int64) : Nat → Nat → Int64 := fun a' j' => if a' = a ∧ j' = j then x else J a' j'
theorem em_uj_row {J : Nat → Nat → Int64} {a j b : Nat} {x : Int64} (h : b ≠ a) : em_uj J a j x b = J b := by
  funext k
  exact if_neg (fun q => h q.1)
theorem em_uj_self {J : Nat → Nat → Int64} {a j : Nat} {x : Int64} : em_uj J a j x a j = x := if_pos ⟨rfl, rfl⟩
theorem em_uj_ne {J : Nat → Nat → Int64} {a j k : Nat} {x : Int64} (h : k ≠ j) : em_uj J a j x a k = J a k := if_neg (fun q => h q.2)
/-- the first n tokens as the reference has them -/
def mt_T (b : Nat → Nat) (L : Nat) (I : Nat → Nat → Int32) (J : Nat → Nat → Int64) (n : Nat) : Prop := ∀ t, t < n → I 287 t = nI (tk_K b L t) ∧ I 288 t = nI (tk_P b L t) ∧ (tk_K b L t = 2 → I 289 t = nI (tk_V b L t)) ∧ (tk_K b L t = 1 → J 290 t = lN (tk_tr 8 (tk_N b L t)))
def mk_J (J : Nat → Nat → Int64) : Prop := ∀ k, k < 21 → J 291 k = lN (tk_tr 8 (tk_kw.getD k 0))
def mt_X (b : Nat → Nat) (L : Nat) (I : Nat → Nat → Int32) : Prop := L ≤ 2000 ∧ I 284 4 = nI L ∧ ∀ j, j < L → I 286 j &&& 255 = nI (b j) ∧ b j < 256
section MSCAN
variable {d lw : Nat} {b : Nat → Nat} {L : Nat} {I I0 : Nat → Nat → Int32} {J J0 : Nat → Nat → Int64} {Q : Option Value → em_M → Prop}
theorem em_lalE {sc : Nat × (Nat → Int32)} {ix pc nx : Nat} {lc : em_L} {r : List Value} {S : List (Nat × Nat)} {R : Nat → Nat → Option Nat} {i : Int32} {a n k : Nat} (hi : em_ins ix pc = some (.laload, nx)) (hs : S[a]? = some (23, n)) (he : i = nI k) (hk : k < n) (hn : n < 2 ^ 31) (kk : em_wp sc d ix nx lc (.long (J a k) :: r) (S, I, J, R) Q) : em_wp sc d ix pc lc (.int i :: .ref a :: r) (S, I, J, R) Q := by
  subst he
  have hin := em_in_n hk hn
  have hc := nI_clamp (n := k) (by omega)
  refine em_next ?_ kk
  unfold em_stp
  rw [hi]
  unfold em_do
  dsimp only
  rw [hs]
  dsimp only
  rw [if_pos ⟨rfl, hin⟩, hc]
theorem em_lasE {sc : Nat × (Nat → Int32)} {ix pc nx : Nat} {lc : em_L} {r : List Value} {S : List (Nat × Nat)} {R : Nat → Nat → Option Nat} {i : Int32} {x : Int64} {a n k : Nat} (hi : em_ins ix pc = some (.lastore, nx)) (hs : S[a]? = some (23, n)) (he : i = nI k) (hk : k < n) (hn : n < 2 ^ 31) (kk : em_wp sc d ix nx lc r (S, I, em_uj J a k x, R) Q) : em_wp sc d ix pc lc (.long x :: .int i :: .ref a :: r) (S, I, J, R) Q := by
  subst he
  have hin := em_in_n hk hn
  have hc := nI_clamp (n := k) (by omega)
  refine em_next ?_ kk
  unfold em_stp
  rw [hi]
  unfold em_do
  dsimp only
  rw [hs]
  dsimp only
  rw [if_pos ⟨rfl, hin⟩, hc]
  rfl
theorem em_tl {sc : Nat × (Nat → Int32)} {ix pc : Nat} {lc : em_L} {r : List Value} {M : em_M} {x y : Int64} (e : x = y) (k : em_wp sc d ix pc lc (.long y :: r) M Q) : em_wp sc d ix pc lc (.long x :: r) M Q := by
  rw [e]
  exact k
theorem me_byteAt (hX : mt_X b L I) {a : Int32} {i : Nat} (ea : a = nI i) (hi : i < 10000) (h : Q (some (.int (nI (if i < L then b i else 0)))) (em_SH, I, J, em_RT lw)) : em_call d 171 [.ref 284, .int a] (em_SH, I, J, em_RT lw) Q := by
  obtain ⟨h1, h2, h3⟩ := hX
  subst ea
  iterate 4 refine em_next rfl ?_
  refine em_c_geE rfl h2 (fun z => ?_) (fun z => ?_)
  · rw [if_neg (Nat.not_lt.mpr ((nI_leI (by omega) (by omega)).mp z))] at h
    iterate 1 refine em_next rfl ?_
    exact em_done rfl h
  · have z2 := Nat.not_le.mp (fun e => z ((nI_leI (by omega) (by omega)).mpr e))
    rw [if_pos z2] at h
    iterate 3 refine em_next rfl ?_
    refine em_balE (kd := 21) rfl rfl (Or.inl rfl) rfl (by omega) (by decide) ?_
    iterate 3 refine em_next rfl ?_
    exact em_doneE rfl (h3 i z2).1 h
theorem me_isLetter {m : Nat} (hm : m < 256) (h : Q (some (.int (em_bb (tk_l m)))) (em_SH, I, J, em_RT lw)) : em_call d 173 [.int (nI m)] (em_SH, I, J, em_RT lw) Q := by
  unfold tk_l at h
  iterate 3 refine em_next rfl ?_
  refine em_c_ltE rfl (y' := nI 97) rfl (fun z => ?_) (fun z => ?_)
  · have := (nI_ltI (by omega) (by decide)).mp z
    rw [decide_eq_false (by omega)] at h
    iterate 1 refine em_next rfl ?_
    exact em_done rfl h
  · have z2 : ¬ m < 97 := fun e => z ((nI_ltI (by omega) (by decide)).mpr e)
    iterate 3 refine em_next rfl ?_
    refine em_c_gtE rfl (y' := nI 122) rfl (fun y => ?_) (fun y => ?_)
    · have := (nI_ltI (by decide) (by omega)).mp y
      rw [decide_eq_false (by omega)] at h
      iterate 1 refine em_next rfl ?_
      exact em_done rfl h
    · have y2 : ¬ 122 < m := fun e => y ((nI_ltI (by decide) (by omega)).mpr e)
      rw [decide_eq_true (by omega)] at h
      iterate 2 refine em_next rfl ?_
      exact em_done rfl h
theorem me_isDigit {m : Nat} (hm : m < 256) (h : Q (some (.int (em_bb (tk_d m)))) (em_SH, I, J, em_RT lw)) : em_call d 172 [.int (nI m)] (em_SH, I, J, em_RT lw) Q := by
  unfold tk_d at h
  iterate 3 refine em_next rfl ?_
  refine em_c_ltE rfl (y' := nI 48) rfl (fun z => ?_) (fun z => ?_)
  · have := (nI_ltI (by omega) (by decide)).mp z
    rw [decide_eq_false (by omega)] at h
    iterate 1 refine em_next rfl ?_
    exact em_done rfl h
  · have z2 : ¬ m < 48 := fun e => z ((nI_ltI (by omega) (by decide)).mpr e)
    iterate 3 refine em_next rfl ?_
    refine em_c_gtE rfl (y' := nI 57) rfl (fun y => ?_) (fun y => ?_)
    · have := (nI_ltI (by decide) (by omega)).mp y
      rw [decide_eq_false (by omega)] at h
      iterate 1 refine em_next rfl ?_
      exact em_done rfl h
    · have y2 : ¬ 57 < m := fun e => y ((nI_ltI (by decide) (by omega)).mpr e)
      rw [decide_eq_true (by omega)] at h
      iterate 2 refine em_next rfl ?_
      exact em_done rfl h
/-- what cutting changes -/
def mt_f (I I' : Nat → Nat → Int32) (J J' : Nat → Nat → Int64) : Prop := (∀ a, a ∉ [284, 287, 288, 289] → I' a = I a) ∧ (∀ j, j ≠ 10 → I' 284 j = I 284 j) ∧ ∀ a, a ≠ 290 → J' a = J a
theorem mt_f.rf : mt_f I I J J := ⟨fun _ _ => rfl, fun _ _ => rfl, fun _ _ => rfl⟩
theorem mt_f.tr {I' I'' : Nat → Nat → Int32} {J' J'' : Nat → Nat → Int64} (h : mt_f I I' J J') (h' : mt_f I' I'' J' J'') : mt_f I I'' J J'' := ⟨fun a ha => (h'.1 a ha).trans (h.1 a ha), fun j hj => (h'.2.1 j hj).trans (h.2.1 j hj), fun a ha => (h'.2.2 a ha).trans (h.2.2 a ha)⟩
theorem mt_f.X {I' : Nat → Nat → Int32} {J' : Nat → Nat → Int64} (h : mt_f I I' J J') (hX : mt_X b L I) : mt_X b L I' := ⟨hX.1, (h.2.1 _ (by decide)).trans hX.2.1, fun j hj => by rw [h.1 _ (by decide)]; exact hX.2.2 j hj⟩
theorem mt_f.K {I' : Nat → Nat → Int32} {J' : Nat → Nat → Int64} (h : mt_f I I' J J') (hK : mk_J J) : mk_J J' := fun k hk => by rw [h.2.2 _ (by decide)]; exact hK k hk
theorem me_token {t : Nat} {kd wh vl : Int32} {nm : Int64} (ht : I 284 10 = nI t) (ht2 : t < 403) (h : ∀ (I' : Nat → Nat → Int32) (J' : Nat → Nat → Int64), mt_f I I' J J' → I' 284 10 = nI (t + 1) → I' 287 t = kd → I' 288 t = wh → I' 289 t = vl → J' 290 t = nm → (∀ j, j ≠ t → I' 287 j = I 287 j ∧ I' 288 j = I 288 j ∧ I' 289 j = I 289 j ∧ J' 290 j = J 290 j) → Q none (em_SH, I', J', em_RT lw)) : em_call d 176 [.ref 284, .int kd, .int wh, .int vl, .long nm] (em_SH, I, J, em_RT lw) Q := by
  iterate 5 refine em_next rfl ?_
  refine em_iasE (k := t) rfl rfl ht ht2 (by decide) ?_
  iterate 5 refine em_next rfl ?_
  refine em_iasE (k := t) rfl rfl ht ht2 (by decide) ?_
  iterate 5 refine em_next rfl ?_
  refine em_iasE (k := t) rfl rfl ht ht2 (by decide) ?_
  iterate 5 refine em_next rfl ?_
  refine em_lasE (k := t) rfl rfl ht ht2 (by decide) ?_
  iterate 6 refine em_next rfl ?_
  refine em_done rfl ?_
  show Q none (em_SH, em_u (em_u (em_u (em_u I 287 t kd) 288 t wh) 289 t vl) 284 10 (I 284 10 + 1), em_uj J 290 t nm, em_RT lw)
  refine h _ _ ⟨fun a ha => ?_, fun j hj => ?_, fun a ha => em_uj_row ha⟩ ?_ ?_ ?_ ?_ em_uj_self (fun j hj => ⟨?_, ?_, ?_, em_uj_ne hj⟩)
  · rw [em_u_row (fun q => ha (by rw [q]; decide)), em_u_row (fun q => ha (by rw [q]; decide)), em_u_row (fun q => ha (by rw [q]; decide)), em_u_row (fun q => ha (by rw [q]; decide))]
  · rw [em_u_ne hj, em_u_row (by decide), em_u_row (by decide), em_u_row (by decide)]
  · rw [em_u_self, ht, nI_succ]
  · rw [em_u_row (by decide), em_u_row (by decide), em_u_row (by decide), em_u_self]
  · rw [em_u_row (by decide), em_u_row (by decide), em_u_self]
  · rw [em_u_row (by decide), em_u_self]
  · rw [em_u_row (by decide), em_u_row (by decide), em_u_row (by decide), em_u_ne hj]
  · rw [em_u_row (by decide), em_u_row (by decide), em_u_ne hj, em_u_row (by decide)]
  · rw [em_u_row (by decide), em_u_ne hj, em_u_row (by decide), em_u_row (by decide)]
theorem me_appends {x m : Nat} (hm : tk_l m = true) (h : Q (some (.long (lN (27 * x + (m - 96))))) (em_SH, I, J, em_RT lw)) : em_call d 174 [.long (lN x), .int (nI m)] (em_SH, I, J, em_RT lw) Q := by
  unfold tk_l at hm
  have hm2 := of_decide_eq_true hm
  iterate 2 refine em_next rfl ?_
  refine em_z_ne (fun _ => ?_) (fun z => absurd ((nI_eq (b := 0) (by omega) (by decide)).mp z) (by omega))
  iterate 3 refine em_next rfl ?_
  refine em_tl (y := lN (27 * x)) (lN_mul 27 x) ?_
  iterate 5 refine em_next rfl ?_
  refine em_tp (y := nI (m - 96)) ?_ ?_
  · show nI m - nI 97 + 1 = nI (m - 96)
    have e := em_nadd (m - 97) 97
    rw [Nat.sub_add_cancel (by omega)] at e
    rw [e, Int32.add_sub_cancel, ← nI_succ]
    congr 1
    omega
  iterate 1 refine em_next rfl ?_
  refine em_tl (nI_l (by omega)) ?_
  iterate 1 refine em_next rfl ?_
  refine em_tl (lN_add _ _) ?_
  exact em_done rfl h
theorem me_sign (hX : mt_X b L I) {t i c : Nat} {x : Int32} (hc : c < 256) (ht : I 284 10 = nI t) (ht2 : t < 403) (h : ∀ (I' : Nat → Nat → Int32) (J' : Nat → Nat → Int64), mt_f I I' J J' → I' 284 10 = nI (t + 1) → I' 287 t = nI (tk_sg c) → I' 288 t = nI i → (∀ j, j ≠ t → I' 287 j = I 287 j ∧ I' 288 j = I 288 j ∧ I' 289 j = I 289 j ∧ J' 290 j = J 290 j) → Q (some (.int 1)) (em_SH, I', J', em_RT lw)) : em_call (d + 1) 178 [.ref 284, .int (nI i), .int (nI c), .int x] (em_SH, I, J, em_RT lw) Q := by
  have fin : em_wp em_sc0 (d + 1) 178 95 [some (.ref 284), some (.int (nI i)), some (.int (nI c)), some (.int (x)), some (.int (nI (tk_sg c)))] [] (em_SH, I, J, em_RT lw) Q := by
    iterate 5 refine em_next rfl ?_
    refine em_inv_call rfl (me_token ht ht2 (fun I' J' a1 a2 a3 a4 _ _ a7 => ?_))
    iterate 1 refine em_next rfl ?_
    exact em_done rfl (h I' J' a1 a2 a3 a4 a7)
  have ne : ∀ k, k < 256 → ¬ c = k → ¬ nI c = nI k := fun k hk e z => e ((nI_eq (by omega) (by omega)).mp z)
  have second : ∀ k : Nat, (tk_sg c = if c = 43 then 8 else if c = 45 then 9 else if c = 42 then 10 else if c = 47 then 15 else if c = 60 then 13 else k) → em_wp em_sc0 (d + 1) 178 45 [some (.ref 284), some (.int (nI i)), some (.int (nI c)), some (.int (x)), some (.int (nI k))] [] (em_SH, I, J, em_RT lw) Q := fun k hk => by
    have s5 : ∀ k : Nat, (tk_sg c = if c = 60 then 13 else k) → em_wp em_sc0 (d + 1) 178 85 [some (.ref 284), some (.int (nI i)), some (.int (nI c)), some (.int (x)), some (.int (nI k))] [] (em_SH, I, J, em_RT lw) Q := fun k hk => by
      iterate 3 refine em_next rfl ?_
      refine em_c_neE rfl (y' := nI 60) rfl (fun z => ?_) (fun z => ?_)
      · rw [if_neg (fun e => z (by rw [e]))] at hk
        rw [hk] at fin
        exact fin
      · rw [if_pos ((nI_eq (by omega) (by decide)).mp z)] at hk
        rw [hk] at fin
        iterate 2 refine em_next rfl ?_
        exact fin
    have s4 : ∀ k : Nat, (tk_sg c = if c = 47 then 15 else if c = 60 then 13 else k) → em_wp em_sc0 (d + 1) 178 75 [some (.ref 284), some (.int (nI i)), some (.int (nI c)), some (.int (x)), some (.int (nI k))] [] (em_SH, I, J, em_RT lw) Q := fun k hk => by
      iterate 3 refine em_next rfl ?_
      refine em_c_neE rfl (y' := nI 47) rfl (fun z => ?_) (fun z => ?_)
      · rw [if_neg (fun e => z (by rw [e]))] at hk
        exact s5 k hk
      · have e := (nI_eq (by omega) (by decide)).mp z
        iterate 2 refine em_next rfl ?_
        exact s5 15 (by rw [if_pos e] at hk; rw [if_neg (by omega)]; exact hk)
    have s3 : ∀ k : Nat, (tk_sg c = if c = 42 then 10 else if c = 47 then 15 else if c = 60 then 13 else k) → em_wp em_sc0 (d + 1) 178 65 [some (.ref 284), some (.int (nI i)), some (.int (nI c)), some (.int (x)), some (.int (nI k))] [] (em_SH, I, J, em_RT lw) Q := fun k hk => by
      iterate 3 refine em_next rfl ?_
      refine em_c_neE rfl (y' := nI 42) rfl (fun z => ?_) (fun z => ?_)
      · rw [if_neg (fun e => z (by rw [e]))] at hk
        exact s4 k hk
      · have e := (nI_eq (by omega) (by decide)).mp z
        iterate 2 refine em_next rfl ?_
        exact s4 10 (by rw [if_pos e] at hk; rw [if_neg (by omega), if_neg (by omega)]; exact hk)
    have s2 : ∀ k : Nat, (tk_sg c = if c = 45 then 9 else if c = 42 then 10 else if c = 47 then 15 else if c = 60 then 13 else k) → em_wp em_sc0 (d + 1) 178 55 [some (.ref 284), some (.int (nI i)), some (.int (nI c)), some (.int (x)), some (.int (nI k))] [] (em_SH, I, J, em_RT lw) Q := fun k hk => by
      iterate 3 refine em_next rfl ?_
      refine em_c_neE rfl (y' := nI 45) rfl (fun z => ?_) (fun z => ?_)
      · rw [if_neg (fun e => z (by rw [e]))] at hk
        exact s3 k hk
      · have e := (nI_eq (by omega) (by decide)).mp z
        iterate 2 refine em_next rfl ?_
        exact s3 9 (by rw [if_pos e] at hk; rw [if_neg (by omega), if_neg (by omega), if_neg (by omega)]; exact hk)
    iterate 3 refine em_next rfl ?_
    refine em_c_neE rfl (y' := nI 43) rfl (fun z => ?_) (fun z => ?_)
    · rw [if_neg (fun e => z (by rw [e]))] at hk
      exact s2 k hk
    · have e := (nI_eq (by omega) (by decide)).mp z
      iterate 2 refine em_next rfl ?_
      exact s2 8 (by rw [if_pos e] at hk; rw [if_neg (by omega), if_neg (by omega), if_neg (by omega), if_neg (by omega)]; exact hk)
  have hsg : tk_sg c = if c = 59 then 4 else if c = 61 then 5 else if c = 40 then 6 else if c = 41 then 7 else if c = 43 then 8 else if c = 45 then 9 else if c = 42 then 10 else if c = 47 then 15 else if c = 60 then 13 else 3 := rfl
  have pick : ∀ k : Nat, tk_sg c = k → ¬ c = 43 → ¬ c = 45 → ¬ c = 42 → ¬ c = 47 → ¬ c = 60 → em_wp em_sc0 (d + 1) 178 45 [some (.ref 284), some (.int (nI i)), some (.int (nI c)), some (.int (x)), some (.int (nI k))] [] (em_SH, I, J, em_RT lw) Q := fun k e n1 n2 n3 n4 n5 => second k (by rw [if_neg n1, if_neg n2, if_neg n3, if_neg n4, if_neg n5]; exact e)
  iterate 3 refine em_next rfl ?_
  refine em_c_neE rfl (y' := nI 59) rfl (fun z1 => ?_) (fun z1 => ?_)
  · rw [if_neg (fun e => z1 (by rw [e]))] at hsg
    iterate 3 refine em_next rfl ?_
    refine em_c_neE rfl (y' := nI 61) rfl (fun z2 => ?_) (fun z2 => ?_)
    · rw [if_neg (fun e => z2 (by rw [e]))] at hsg
      iterate 3 refine em_next rfl ?_
      refine em_c_neE rfl (y' := nI 40) rfl (fun z3 => ?_) (fun z3 => ?_)
      · rw [if_neg (fun e => z3 (by rw [e]))] at hsg
        iterate 3 refine em_next rfl ?_
        refine em_c_neE rfl (y' := nI 41) rfl (fun z4 => ?_) (fun z4 => ?_)
        · rw [if_neg (fun e => z4 (by rw [e]))] at hsg
          iterate 2 refine em_next rfl ?_
          exact second 3 hsg
        · have e := (nI_eq (by omega) (by decide)).mp z4
          rw [if_pos e] at hsg
          iterate 3 refine em_next rfl ?_
          exact pick 7 hsg (by omega) (by omega) (by omega) (by omega) (by omega)
      · have e := (nI_eq (by omega) (by decide)).mp z3
        rw [if_pos e] at hsg
        iterate 3 refine em_next rfl ?_
        exact pick 6 hsg (by omega) (by omega) (by omega) (by omega) (by omega)
    · have e := (nI_eq (by omega) (by decide)).mp z2
      rw [if_pos e] at hsg
      iterate 3 refine em_next rfl ?_
      exact pick 5 hsg (by omega) (by omega) (by omega) (by omega) (by omega)
  · have e := (nI_eq (by omega) (by decide)).mp z1
    rw [if_pos e] at hsg
    iterate 3 refine em_next rfl ?_
    exact pick 4 hsg (by omega) (by omega) (by omega) (by omega) (by omega)
end MSCAN
