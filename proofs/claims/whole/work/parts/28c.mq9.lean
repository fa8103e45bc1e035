/-! the reference: one asked of, all counted -/
def ey_slv (P : em_Pl) (X : em_Nt) (nm tn : Nat → Int32) (b : Nat) : Nat → Int32
  | 0 => em_bit X.1 b
  | 1 => P.2.2.2.2 b
  | 2 => X.2.2 b
  | 3 => P.2.2.1 b
  | 4 => nm b
  | 5 => em_bb (em_ly P X b)
  | 6 => em_gr P X b
  | 7 => em_chc P X b
  | 8 => em_cst1 P X b
  | _ => tn b
def sp_sleeper (P : em_Pl) (X : em_Nt) (nm tn : Nat → Int32) (b w : Int32) : Int32 := if em_okB P b ∧ em_ok 0 9 w then ey_slv P X nm tn b.toNatClampNeg w.toNatClampNeg else -100000
def ey_sI (f : Nat → Int32) : Nat → Int32
  | 0 => 0
  | k + 1 => ey_sI f k + f k
/-- all that is counted; what the texts, nights and slots have beyond these: ex -/
def ey_cnt (P : em_Pl) (X : em_Nt) (ex : Nat → Int32) : Nat → Int32
  | 0 => nI P.1
  | 1 => nI X.2.1
  | 2 => nI (X.2.1 % 24)
  | 3 => nI X.1
  | 4 => nI (em_pc X.1)
  | 5 => nI (em_sh P X)
  | 6 => nI (em_R P X 1 X.1)
  | 12 => nI (em_sm (fun b => if X.1.testBit b then 0 else em_csN P X b) P.1)
  | 13 => em_bb P.2.1
  | k => ex k
def sp_count (P : em_Pl) (X : em_Nt) (ex : Nat → Int32) (w : Int32) : Int32 := if em_ok 0 16 w then ey_cnt P X ex w.toNatClampNeg else -1
theorem em_tsd {sc : Nat × (Nat → Int32)} {d ix pc nx : Nat} {lc : em_L} {r : List Value} {M : em_M} {Q : Option Value → em_M → Prop} {x : Int32} {df lo hi : Int} {offs : Array Int} (h : em_ins ix pc = some (.tableswitch df lo hi offs, nx)) (hx : x.toInt < lo ∨ hi < x.toInt) (k : em_wp sc d ix df.toNat lc r M Q) : em_wp sc d ix pc lc (.int x :: r) M Q := by
  refine em_next ?_ k
  unfold em_stp
  rw [h]
  unfold em_do
  dsimp only
  rw [if_pos hx]
theorem em_out {x : Int32} {m : Nat} (hm : m < 2 ^ 31) (h : ¬ em_ok 0 (nI m) x) : x.toInt < 0 ∨ (m : Int) < x.toInt := by
  by_cases q : 0 ≤ x
  · right
    have q2 : ¬ x ≤ nI m := fun z => h ⟨q, z⟩
    rw [Int32.le_iff_toInt_le, nI_toInt hm] at q2
    omega
  · left
    rw [Int32.le_iff_toInt_le, show (0 : Int32).toInt = 0 from rfl] at q
    omega
theorem em_R1 (P : em_Pl) (X : em_Nt) : em_R P X 1 X.1 = em_or P.1 (em_ly P X) := by
  show em_or P.1 (fun b => (em_ly P X b).xor (em_ch P true 0 X b)) = _
  simp only [em_ch_still, Bool.xor_false]
section MQ9
variable {d lw lv : Nat} {P : em_Pl} {X Y : em_Nt} {I I0 : Nat → Nat → Int32} {J : Nat → Nat → Int64} {M : em_M} {Q : Option Value → em_M → Prop} {stl : Bool} {sd : Int32} {nm tn : Nat → Int32}
theorem mq_sleeper (hS : mo_S I lv P X) (hx : ∀ b, b < P.1 → I 314 (18 + b) = nm b ∧ I 314 (36 + b) = tn b) {b w : Int32} (h : ∀ I' : Nat → Nat → Int32, em_fM I I' → Q (some (.int (sp_sleeper P X nm tn b w))) (em_SH, I', J, em_RT lw)) : em_call (d + 8) 226 [.ref 284, .int b, .int w] (em_SH, I, J, em_RT lw) Q := by
  have hn := hS.1.1.2.1
  obtain ⟨p1, p2, p3, p4, p5⟩ := hS.1.1
  unfold sp_sleeper at h
  have ea : ∀ c b : Nat, nI c + nI b = nI (c + b) := fun c b => (em_nadd _ _).symm
  iterate 2 refine em_next rfl ?_
  refine em_inv_call rfl (me_bedQ hS ?_)
  iterate 1 refine em_next rfl ?_
  refine em_b_ne (fun g => ?_) (fun g => ?_)
  · obtain ⟨s, hs, rfl, es⟩ := em_bedN hn g
    rw [es] at h
    iterate 1 refine em_next rfl ?_
    refine em_inv_call rfl (me_copies hS.1 (fun I1 a1 a2 _ _ => ?_))
    have hS1 := hS.keep a1
    have hN1 : mo_Nt I1 P X := hS.2.1.row hn a2
    have h1 := h I1 a1
    iterate 1 refine em_next rfl ?_
    by_cases g2 : em_ok 0 9 w
    · obtain ⟨t, ht, rfl, et⟩ := em_nat (m := 9) (by decide) g2.1 g2.2
      rw [if_pos ⟨g, g2⟩, et] at h h1
      match t, ht, h, h1 with
      | 0, _, h, h1 =>
        iterate 4 refine em_next rfl ?_
        refine em_ialn (k := s) rfl rfl (by omega) (by decide) ?_
        rw [(hN1.2 s hs).1]
        exact em_done rfl h1
      | 1, _, h, h1 =>
        iterate 6 refine em_next rfl ?_
        refine em_ialk (i := 9 + nI s) (k := 9 + s) rfl rfl (by rw [show (9 : Int32) = nI 9 from rfl, ea]; exact em_in_n (by omega) (by decide)) (by rw [show (9 : Int32) = nI 9 from rfl, ea]; exact nI_clamp (by omega)) ?_
        rw [(hN1.2 s hs).2.1]
        exact em_done rfl h1
      | 2, _, h, h1 =>
        iterate 6 refine em_next rfl ?_
        refine em_ialk (i := 27 + nI s) (k := 27 + s) rfl rfl (by rw [show (27 : Int32) = nI 27 from rfl, ea]; exact em_in_n (by omega) (by decide)) (by rw [show (27 : Int32) = nI 27 from rfl, ea]; exact nI_clamp (by omega)) ?_
        rw [(hN1.2 s hs).2.2]
        exact em_done rfl h1
      | 3, _, h, h1 =>
        have e9 : (9 : Int32) * nI lv + nI s = nI (9 * lv + s) := by rw [em_nadd, em_nmul]; rfl
        have p3' := hS1.1.1.2.2.1
        iterate 9 refine em_next rfl ?_
        refine em_ialk (i := 9 * I1 284 18 + nI s) (k := 9 * lv + s) rfl rfl (by rw [p3', e9]; exact em_in_n (by omega) (by decide)) (by rw [p3', e9]; exact nI_clamp (by omega)) ?_
        rw [hS1.1.2.1 s hs]
        exact em_done rfl h1
      | 4, _, h, h1 =>
        iterate 6 refine em_next rfl ?_
        refine em_ialk (i := 18 + nI s) (k := 18 + s) rfl rfl (by rw [show (18 : Int32) = nI 18 from rfl, ea]; exact em_in_n (by omega) (by decide)) (by rw [show (18 : Int32) = nI 18 from rfl, ea]; exact nI_clamp (by omega)) ?_
        rw [a2 _ (by omega), (hx s hs).1]
        exact em_done rfl h1
      | 5, _, h, h1 =>
        iterate 3 refine em_next rfl ?_
        refine em_inv_call rfl (me_liesThen hS1.1 hN1 hs (fun I2 b1 => ?_))
        rw [em_bo_bb]
        exact em_done rfl (h I2 (a1.tr b1.M))
      | 6, _, h, h1 =>
        iterate 3 refine em_next rfl ?_
        refine em_inv_call rfl (me_partsOf hS1.1 hN1 hs (fun I2 b1 => ?_))
        exact em_done rfl (h I2 (a1.tr b1.M))
      | 7, _, h, h1 =>
        iterate 3 refine em_next rfl ?_
        refine em_inv_call rfl (me_chillsOf hS1.1 hN1 hs (fun I2 b1 => ?_))
        exact em_done rfl (h I2 (a1.tr b1.M))
      | 8, _, h, h1 =>
        iterate 3 refine em_next rfl ?_
        refine em_inv_call rfl (me_costsOf hS1.1 hN1 hs (fun I2 b1 => ?_))
        exact em_done rfl (h I2 (a1.tr b1.M))
      | 9, _, h, h1 =>
        iterate 6 refine em_next rfl ?_
        refine em_ialk (i := 36 + nI s) (k := 36 + s) rfl rfl (by rw [show (36 : Int32) = nI 36 from rfl, ea]; exact em_in_n (by omega) (by decide)) (by rw [show (36 : Int32) = nI 36 from rfl, ea]; exact nI_clamp (by omega)) ?_
        rw [a2 _ (by omega), (hx s hs).2]
        exact em_done rfl h1
    · rw [if_neg (fun q => g2 q.2)] at h1
      refine em_tsd rfl (em_out (m := 9) (by decide) g2) ?_
      iterate 1 refine em_next rfl ?_
      exact em_done rfl h1
  · rw [if_neg (fun q => g q.1)] at h
    iterate 1 refine em_next rfl ?_
    exact em_done rfl (h I em_fM.rf)
theorem me_sumNow_l {c k m : Nat} (hc : c + 9 ≤ 48) (hk : k + m = 9) (h : Q (some (.int (ey_sI (fun j => I 314 (c + j)) 9))) (em_SH, I, J, em_RT lw)) : em_wp em_sc0 d 276 4 [some (.ref 284), some (.int (nI c)), some (.int (ey_sI (fun j => I 314 (c + j)) k)), some (.int (nI (c + k)))] [] (em_SH, I, J, em_RT lw) Q := by
  have e9 : nI c + 9 = nI (c + 9) := (em_nadd c 9).symm
  induction m generalizing k with
  | zero =>
    have e : k = 9 := by omega
    subst e
    iterate 4 refine em_next rfl ?_
    show em_wp em_sc0 d 276 9 _ [.int (nI c + 9), .int (nI (c + 9))] _ _
    rw [e9]
    refine em_next rfl ?_
    refine em_c_ge (fun _ => ?_) (fun h1 => absurd (nI_le (Nat.le_refl _) (by omega)) h1)
    iterate 1 refine em_next rfl ?_
    exact em_done rfl h
  | succ m ih =>
    iterate 4 refine em_next rfl ?_
    show em_wp em_sc0 d 276 9 _ [.int (nI c + 9), .int (nI (c + k))] _ _
    rw [e9]
    iterate 1 refine em_next rfl ?_
    refine em_c_ge (fun h1 => absurd h1 (nI_ge (by omega) (by omega))) (fun _ => ?_)
    iterate 4 refine em_next rfl ?_
    refine em_ialn (k := c + k) rfl rfl (by omega) (by decide) ?_
    iterate 4 refine em_next rfl ?_
    have g := ih (k := k + 1) (by omega)
    rw [← Nat.add_assoc, nI_succ] at g
    exact g
theorem me_sumNow {c : Nat} (hc : c + 9 ≤ 48) (h : Q (some (.int (ey_sI (fun j => I 314 (c + j)) 9))) (em_SH, I, J, em_RT lw)) : em_call d 276 [.ref 284, .int (nI c)] (em_SH, I, J, em_RT lw) Q := by
  iterate 4 refine em_next rfl ?_
  exact me_sumNow_l (k := 0) (m := 9) hc (by omega) h
theorem me_count_6 (hS : mo_S I lv P X) (hN : mo_Nt I P X) {w : Int32} {k m : Nat} (hk : k + m = P.1) (h : ∀ I' : Nat → Nat → Int32, em_fM I I' → Q (some (.int (nI (em_R P X 1 X.1)))) (em_SH, I', J, em_RT lw)) : em_wp em_sc0 (d + 6) 277 132 [some (.ref 284), some (.int (w)), some (.int (nI (em_or k (em_ly P X)))), some (.int (nI k))] [] (em_SH, I, J, em_RT lw) Q := by
  have hn := hS.1.1.2.1
  induction m generalizing k I with
  | zero =>
    have e : k = P.1 := by omega
    subst e
    iterate 2 refine em_next rfl ?_
    refine em_inv_call rfl (me_many hS.1 ?_)
    iterate 1 refine em_next rfl ?_
    refine em_c_ge (fun _ => ?_) (fun h1 => absurd (nI_le (Nat.le_refl _) (by omega)) h1)
    iterate 1 refine em_next rfl ?_
    have g := h I em_fM.rf
    rw [em_R1] at g
    exact em_done rfl g
  | succ m ih =>
    iterate 2 refine em_next rfl ?_
    refine em_inv_call rfl (me_many hS.1 ?_)
    iterate 1 refine em_next rfl ?_
    refine em_c_ge (fun h1 => absurd h1 (nI_ge (by omega) (by omega))) (fun _ => ?_)
    iterate 3 refine em_next rfl ?_
    refine em_inv_call rfl (me_liesThen hS.1 hN (b := k) (by omega) (fun I1 a1 => ?_))
    rw [em_bo_bb, show decide (0 < P.2.2.2.1 0 (em_vr P.1 P.2.1 P.2.2.1 X.1 X.2.1 P.2.2.2.2 X.2.2 k)) = em_ly P X k from rfl]
    have g := ih (k := k + 1) (I := I1) (hS.keep a1.M) (hN.keep (a1.row (by decide) (by decide) (by decide))) (by omega) (fun I' f => h I' (a1.M.tr f))
    have hj := em_join1 k (by omega) (em_or k (em_ly P X)) (em_or_lt _ _)
    rw [nI_succ, show em_or (k + 1) (em_ly P X) = em_or k (em_ly P X) + (if em_ly P X k then 2 ^ k else 0) from rfl] at g
    cases e : em_ly P X k with
    | true =>
      rw [e, if_pos rfl, ← hj.1] at g
      iterate 6 refine em_next rfl ?_
      exact g
    | false =>
      rw [e, if_neg (by decide), Nat.add_zero] at g
      have g2 : em_wp em_sc0 (d + 6) 277 132 [some (.ref 284), some (.int (w)), some (.int (nI (em_or k (em_ly P X)) ||| (0 <<< (nI k &&& 31)))), some (.int (nI k + 1))] [] (em_SH, I1, J, em_RT lw) Q := by rw [hj.2]; exact g
      iterate 6 refine em_next rfl ?_
      exact g2
theorem me_count_12 (hS : mo_S I lv P X) (hN : mo_Nt I P X) {w : Int32} {k m : Nat} (hk : k + m = P.1) (h : ∀ I' : Nat → Nat → Int32, em_fM I I' → Q (some (.int (nI (em_sm (fun b => if X.1.testBit b then 0 else em_csN P X b) P.1)))) (em_SH, I', J, em_RT lw)) : em_wp em_sc0 (d + 6) 277 228 [some (.ref 284), some (.int (w)), some (.int (nI (em_sm (fun b => if X.1.testBit b then 0 else em_csN P X b) k))), some (.int (nI k))] [] (em_SH, I, J, em_RT lw) Q := by
  have hn := hS.1.1.2.1
  induction m generalizing k I with
  | zero =>
    have e : k = P.1 := by omega
    subst e
    iterate 2 refine em_next rfl ?_
    refine em_inv_call rfl (me_many hS.1 ?_)
    iterate 1 refine em_next rfl ?_
    refine em_c_ge (fun _ => ?_) (fun h1 => absurd (nI_le (Nat.le_refl _) (by omega)) h1)
    iterate 1 refine em_next rfl ?_
    exact em_done rfl (h I em_fM.rf)
  | succ m ih =>
    iterate 2 refine em_next rfl ?_
    refine em_inv_call rfl (me_many hS.1 ?_)
    iterate 1 refine em_next rfl ?_
    refine em_c_ge (fun h1 => absurd h1 (nI_ge (by omega) (by omega))) (fun _ => ?_)
    iterate 3 refine em_next rfl ?_
    refine em_ialn (k := k) rfl rfl (by omega) (by decide) ?_
    rw [(hN.2 k (by omega)).1, em_bit_bb]
    iterate 1 refine em_next rfl ?_
    cases e : X.1.testBit k with
    | true =>
      refine em_z_ne (fun _ => ?_) (fun q => absurd q (by decide))
      have g := ih (k := k + 1) (I := I) hS hN (by omega) h
      rw [em_sm, e, if_pos rfl, Nat.add_zero, nI_succ] at g
      iterate 2 refine em_next rfl ?_
      exact g
    | false =>
      refine em_z_ne (fun q => absurd rfl q) (fun _ => ?_)
      iterate 3 refine em_next rfl ?_
      refine em_inv_call rfl (me_costsOf hS.1 hN (b := k) (by omega) (fun I1 a1 => ?_))
      iterate 4 refine em_next rfl ?_
      have g := ih (k := k + 1) (I := I1) (hS.keep a1.M) (hN.keep (a1.row (by decide) (by decide) (by decide))) (by omega) (fun I' f => h I' (a1.M.tr f))
      rw [em_sm, e, if_neg (by decide), em_nadd, (em_csN_ok P X k).1, nI_succ] at g
      exact g
theorem mq_count (hS : mo_S I lv P X) {hl : Nat → Bool} (hH : ∀ s, s < 3 → I 326 s = em_bb (hl s)) {ex : Nat → Int32} (h7 : ex 7 = I 284 2) (h8 : ex 8 = I 284 53) (h9 : ex 9 = I 284 58) (h10 : ex 10 = em_bb (hl 0) + em_bb (hl 1) + em_bb (hl 2)) (h11 : ex 11 = I 314 46) (h14 : ex 14 = ey_sI (fun j => I 314 (36 + j)) 9) (h15 : ex 15 = I 314 47) (h16 : ex 16 = ey_sI (fun j => I 314 (9 + j)) 9) {w : Int32} (h : ∀ I' : Nat → Nat → Int32, em_fM I I' → Q (some (.int (sp_count P X ex w))) (em_SH, I', J, em_RT lw)) : em_call (d + 8) 277 [.ref 284, .int w] (em_SH, I, J, em_RT lw) Q := by
  have hn := hS.1.1.2.1
  have hp9 := em_pow9 hn
  have hr := hS.2.1.1.1
  unfold sp_count at h
  iterate 1 refine em_next rfl ?_
  refine em_inv_call rfl (me_copies hS.1 (fun I1 a1 a2 _ _ => ?_))
  have hS1 := hS.keep a1
  have hN1 : mo_Nt I1 P X := hS.2.1.row hn a2
  have h1 := h I1 a1
  have er : I1 314 = I 314 := by
    funext j
    exact a1 _ _ (by decide) (fun q => absurd q.1 (by decide))
  iterate 3 refine em_next rfl ?_
  by_cases g2 : em_ok 0 16 w
  · obtain ⟨t, ht, rfl, et⟩ := em_nat (m := 16) (by decide) g2.1 g2.2
    rw [if_pos g2, et] at h h1
    match t, ht, h, h1 with
    | 0, _, h, h1 =>
      iterate 2 refine em_next rfl ?_
      refine em_inv_call rfl (me_many hS1.1 ?_)
      exact em_done rfl h1
    | 1, _, h, h1 =>
      iterate 4 refine em_next rfl ?_
      refine em_ialk (k := 45) rfl rfl (by decide) rfl ?_
      rw [hN1.1.2.2]
      exact em_done rfl h1
    | 2, _, h, h1 =>
      iterate 4 refine em_next rfl ?_
      refine em_ialk (k := 45) rfl rfl (by decide) rfl ?_
      rw [hN1.1.2.2]
      iterate 2 refine em_next rfl ?_
      refine em_done rfl ?_
      rw [show ey_cnt P X ex 2 = nI (X.2.1 % 24) from rfl, ← em_rem24 hN1.1.2.1] at h1
      exact h1
    | 3, _, h, h1 =>
      iterate 2 refine em_next rfl ?_
      refine em_inv_call rfl (me_rowBits hS1.1 hN1 ?_)
      exact em_done rfl h1
    | 4, _, h, h1 =>
      iterate 2 refine em_next rfl ?_
      refine em_inv_call rfl (me_rowBits hS1.1 hN1 ?_)
      refine em_inv_call rfl (me_bits (by omega) ?_)
      exact em_done rfl h1
    | 5, _, h, h1 =>
      iterate 2 refine em_next rfl ?_
      refine em_inv_call rfl (me_showBits hS1.1 hN1 ?_)
      exact em_done rfl h1
    | 6, _, h, h1 =>
      iterate 3 refine em_next rfl ?_
      exact me_count_6 (d := d + 2) (k := 0) (m := P.1) hS1 hN1 (by omega) (fun I' f => h I' (a1.tr f))
    | 7, _, h, h1 =>
      iterate 3 refine em_next rfl ?_
      refine em_done rfl ?_
      show Q (some (.int (I1 284 2))) _
      rw [a1 _ _ (by decide) (by decide), ← h7]
      exact h1
    | 8, _, h, h1 =>
      iterate 3 refine em_next rfl ?_
      refine em_done rfl ?_
      show Q (some (.int (I1 284 53))) _
      rw [a1 _ _ (by decide) (by decide), ← h8]
      exact h1
    | 9, _, h, h1 =>
      iterate 3 refine em_next rfl ?_
      refine em_done rfl ?_
      show Q (some (.int (I1 284 58))) _
      rw [a1 _ _ (by decide) (by decide), ← h9]
      exact h1
    | 10, _, h, h1 =>
      have hH1 : ∀ s, s < 3 → I1 326 s = em_bb (hl s) := fun s hs => (a1 _ _ (by decide) (fun q => absurd q.1 (by decide))).trans (hH s hs)
      rw [show ey_cnt P X ex 10 = ex 10 from rfl, h10] at h1
      have t201 : em_wp em_sc0 (d + 8) 277 201 [some (.ref 284), some (.int (nI 10)), some (.int (0)), none] [.int (em_bb (hl 1)), .int (em_bb (hl 0))] (em_SH, I1, J, em_RT lw) Q := by
        iterate 4 refine em_next rfl ?_
        refine em_balk (k := 2) rfl rfl (by decide) rfl ?_
        rw [hH1 2 (by decide)]
        iterate 1 refine em_next rfl ?_
        cases e : hl 2 with
        | false =>
          rw [e] at h1
          refine em_z_eq (fun _ => ?_) (fun q => absurd rfl q)
          iterate 2 refine em_next rfl ?_
          exact em_done rfl h1
        | true =>
          rw [e] at h1
          refine em_z_eq (fun q => absurd q (by decide)) (fun _ => ?_)
          iterate 3 refine em_next rfl ?_
          exact em_done rfl h1
      have t187 : em_wp em_sc0 (d + 8) 277 187 [some (.ref 284), some (.int (nI 10)), some (.int (0)), none] [.int (em_bb (hl 0))] (em_SH, I1, J, em_RT lw) Q := by
        iterate 3 refine em_next rfl ?_
        refine em_balk (k := 1) rfl rfl (by decide) rfl ?_
        rw [hH1 1 (by decide)]
        iterate 1 refine em_next rfl ?_
        cases e : hl 1 with
        | false =>
          rw [e] at t201
          refine em_z_eq (fun _ => ?_) (fun q => absurd rfl q)
          iterate 1 refine em_next rfl ?_
          exact t201
        | true =>
          rw [e] at t201
          refine em_z_eq (fun q => absurd q (by decide)) (fun _ => ?_)
          iterate 2 refine em_next rfl ?_
          exact t201
      iterate 4 refine em_next rfl ?_
      refine em_balk (k := 0) rfl rfl (by decide) rfl ?_
      rw [hH1 0 (by decide)]
      iterate 1 refine em_next rfl ?_
      cases e : hl 0 with
      | false =>
        rw [e] at t187
        refine em_z_eq (fun _ => ?_) (fun q => absurd rfl q)
        iterate 1 refine em_next rfl ?_
        exact t187
      | true =>
        rw [e] at t187
        refine em_z_eq (fun q => absurd q (by decide)) (fun _ => ?_)
        iterate 2 refine em_next rfl ?_
        exact t187
    | 11, _, h, h1 =>
      iterate 4 refine em_next rfl ?_
      refine em_ialk (k := 46) rfl rfl (by decide) rfl ?_
      rw [a2 46 (by decide), ← h11]
      exact em_done rfl h1
    | 12, _, h, h1 =>
      iterate 3 refine em_next rfl ?_
      exact me_count_12 (d := d + 2) (k := 0) (m := P.1) hS1 hN1 (by omega) (fun I' f => h I' (a1.tr f))
    | 13, _, h, h1 =>
      obtain ⟨p1, p2, p3, p4, p5⟩ := hS1.1.1
      iterate 5 refine em_next rfl ?_
      refine em_ialk (i := I1 284 18) (k := lv) rfl rfl (by rw [p3]; exact em_in_n p1 (by decide)) (by rw [p3]; exact nI_clamp (by omega)) ?_
      rw [p5]
      exact em_done rfl h1
    | 14, _, h, h1 =>
      iterate 3 refine em_next rfl ?_
      refine em_inv_call rfl (me_sumNow (c := 36) (by decide) ?_)
      rw [er, ← h14]
      exact em_done rfl h1
    | 15, _, h, h1 =>
      iterate 4 refine em_next rfl ?_
      refine em_ialk (k := 47) rfl rfl (by decide) rfl ?_
      rw [a2 47 (by decide), ← h15]
      exact em_done rfl h1
    | 16, _, h, h1 =>
      iterate 3 refine em_next rfl ?_
      refine em_inv_call rfl (me_sumNow (c := 9) (by decide) ?_)
      rw [er, ← h16]
      exact em_done rfl h1
    | t + 17, ht, _, _ => exact absurd ht (by omega)
  · rw [if_neg g2] at h1
    refine em_tsd rfl (em_out (m := 16) (by decide) g2) ?_
    iterate 1 refine em_next rfl ?_
    exact em_done rfl h1
end MQ9
