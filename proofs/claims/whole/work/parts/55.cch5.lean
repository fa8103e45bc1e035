/-! the class: what is done, three: told, fed -/
section CCH5
variable {d lw lv nx : Nat} {p : em_Pn} {W W' : em_Wt} {u : Nat} {H : Nat → em_Wt} {hl : Nat → Bool} {S : Nat → em_Wt} {T : Nat} {D : em_Td} {L : Nat} {tp : Nat → Int32} {pc : Int32} {lp : Bool} {I I0 : Nat → Nat → Int32} {J : Nat → Nat → Int64} {Q : Option Value → em_M → Prop} {B : Nat}
/-- all but what is told -/
theorem CI.told {I' : Nat → Nat → Int32} {T' : Nat} {D' : em_Td} (h : CI I lp nx p W u H hl S T D L tp pc) (he : ∀ a, ¬ (266 ≤ a ∧ a ≤ 269) → I' a = I a) (ht : cs_T I' p.1 T' D') : CI I' lp nx p W u H hl S T' D' L tp pc := by
  obtain ⟨h1, h2, h3, h4, h5, ⟨h6, h7, h8, h9, h10⟩, h11, h12, h13, h14⟩ := h
  have hd : ∀ a ∈ cp_rows, a < 266 := by decide
  exact ⟨h1.keep (fun a ha => he a (by have := hd a ha; omega)), ⟨by rw [he _ (by decide)]; exact h2.1, h2.2⟩, h3.keep (fun a g1 g2 => he a (by omega)), fun t ht b hb => by rw [he _ (by decide)]; exact h4 t ht b hb, by rw [he _ (by decide)]; exact h5, ⟨h6, h7, by rw [he _ (by decide)]; exact h8, by rw [he _ (by decide)]; exact h9, fun i hi => (h10 i hi).keep (fun a g1 g2 => he a (by omega))⟩, fun s hs => ⟨by rw [he _ (by decide)]; exact (h11 s hs).1, fun z => ((h11 s hs).2 z).keep (fun a g1 g2 => he a (by omega))⟩, ht, by rw [he 2 (by decide), he 3 (by decide)]; exact h13, by rw [he _ (by decide)]; exact h14⟩
/-- all but the tape -/
theorem CI.taped {I' : Nat → Nat → Int32} {L' : Nat} {tp' : Nat → Int32} (h : CI I lp nx p W u H hl S T D L tp pc) (he : ∀ a, ¬ (2 ≤ a ∧ a ≤ 3) → I' a = I a) (ht : L' ≤ 2000 ∧ I' 2 5 = nI L' ∧ ∀ i, i < L' → I' 3 i = tp' i) : CI I' lp nx p W u H hl S T D L' tp' pc := by
  obtain ⟨h1, h2, h3, h4, h5, ⟨h6, h7, h8, h9, h10⟩, h11, h12, h13, h14⟩ := h
  have hd : ∀ a ∈ cp_rows, 4 ≤ a := by decide
  refine ⟨h1.keep (fun a ha => he a (by have := hd a ha; omega)), ⟨by rw [he _ (by decide)]; exact h2.1, h2.2⟩, h3.keep (fun a g1 g2 => he a (by omega)), fun t ht b hb => by rw [he _ (by decide)]; exact h4 t ht b hb, by rw [he _ (by decide)]; exact h5, ⟨h6, h7, by rw [he _ (by decide)]; exact h8, by rw [he _ (by decide)]; exact h9, fun i hi => (h10 i hi).keep (fun a g1 g2 => he a (by omega))⟩, fun s hs => ⟨by rw [he _ (by decide)]; exact (h11 s hs).1, fun z => ((h11 s hs).2 z).keep (fun a g1 g2 => he a (by omega))⟩, ?_, ht, by rw [he _ (by decide)]; exact h14⟩
  unfold cs_T
  rw [he 266 (by decide), he 267 (by decide), he 268 (by decide), he 269 (by decide)]
  exact h12
theorem ca_tell (hC : CI I lp nx p W u H hl S T D L tp pc) {b n : Int32} {l : Bool} (h : ∀ I' : Nat → Nat → Int32, (∀ a, 284 ≤ a → I' a = I a) → (ok_tl p W T b n → CI I' lp nx p W u H hl S (T + 1) (ed_tl D T b.toNatClampNeg n.toNatClampNeg l) L tp pc) → (¬ ok_tl p W T b n → CI I' lp nx p W u H hl S T D L tp pc) → Q (some (.int (if ok_tl p W T b n then nI T else -1))) (em_SH, I', J, em_RT lw)) : em_call (d + 3) 155 [.ref 1, .int b, .int n, .int (em_bb l)] (em_SH, I, J, em_RT lw) Q := by
  obtain ⟨⟨t1, t2⟩, t3⟩ := hC.2.2.2.2.2.2.2.1
  have hn := hC.1.1.1
  have no : ¬ ok_tl p W T b n → Q (some (.int (-1))) (em_SH, I, J, em_RT lw) := fun g => by
    have g2 := h I (fun _ _ => rfl) (fun z => absurd z g) (fun _ => hC)
    rw [if_neg g] at g2
    exact g2
  iterate 3 refine em_next rfl ?_
  refine em_inv_call rfl (ce_hasBed hC.1 ?_)
  iterate 1 refine em_next rfl ?_
  refine em_b_eq (fun g1 => ?_) (fun g1 => ?_)
  · iterate 1 refine em_next rfl ?_
    exact em_done rfl (no (fun z => g1 z.2.1))
  iterate 3 refine em_next rfl ?_
  refine em_inv_call rfl (ce_within (a := 0) (b := 24) ?_)
  iterate 1 refine em_next rfl ?_
  refine em_b_ne (fun g2 => ?_) (fun g2 => ?_)
  · iterate 5 refine em_next rfl ?_
    refine em_inv_call rfl ?_
    iterate 4 refine em_next rfl ?_
    refine em_c_ltE t2 (y' := nI 20) rfl (fun g => ?_) (fun g => ?_)
    · have g0 : ¬ T = 20 := fun e => by rw [e] at g; exact absurd g (by decide)
      have gg : ok_tl p W T b n := ⟨g0, g1, g2⟩
      rw [if_pos gg] at h
      obtain ⟨s, hs, rfl, es⟩ := em_bedN hn g1
      obtain ⟨t, ht, rfl, et⟩ := em_nat (m := 24) (by decide) g2.1 g2.2
      rw [es, et] at h
      iterate 5 refine em_next rfl ?_
      refine em_iasE (k := T) rfl rfl t2 (by omega) (by decide) ?_
      iterate 5 refine em_next rfl ?_
      refine em_iasE (k := T) rfl rfl t2 (by omega) (by decide) ?_
      have fin : em_wp em_sc0 (d + 2) 88 48 [some (.ref 266), some (.int (nI s)), some (.int (nI t)), some (.int (em_bb l))] [.int (em_bb l), .int (I 266 3), .ref 269] (em_SH, em_u (em_u I 267 T (nI s)) 268 T (nI t), J, em_RT lw) (fun r M' => em_wp em_sc0 (d + 2 + 1) 155 33 [some (.ref 1), some (.int (nI s)), some (.int (nI t)), some (.int (em_bb l))] (r.toList ++ []) M' Q) := by
        refine em_iasE (k := T) rfl rfl t2 (by omega) (by decide) ?_
        iterate 10 refine em_next rfl ?_
        refine em_doneE rfl (y := nI T) ?_ ?_
        · show I 266 3 + 1 - 1 = nI T
          rw [t2, ← nI_succ, em_nadd1]
        refine em_done rfl ?_
        show Q (some (.int (nI T))) (em_SH, em_u (em_u (em_u (em_u I 267 T (nI s)) 268 T (nI t)) 269 T (em_bb l)) 266 3 (I 266 3 + 1), J, em_RT lw)
        have k1 : ∀ c, ¬ (266 ≤ c ∧ c ≤ 269) → em_u (em_u (em_u (em_u I 267 T (nI s)) 268 T (nI t)) 269 T (em_bb l)) 266 3 (I 266 3 + 1) c = I c := fun c hc => by rw [em_u_row (by omega), em_u_row (by omega), em_u_row (by omega), em_u_row (by omega)]
        refine h _ (fun a ha => k1 a (by omega)) (fun _ => hC.told k1 ⟨⟨by omega, by rw [em_u_self, t2, nI_succ]⟩, fun i hi => ?_⟩) (fun z => absurd gg z)
        unfold ed_tl
        dsimp only
        by_cases e : i = T
        · subst e
          rw [if_pos rfl, if_pos rfl, if_pos rfl]
          refine ⟨?_, ?_, ?_, hs, ht⟩
          · rw [em_u_row (by decide), em_u_row (by decide), em_u_row (by decide), em_u_self]
          · rw [em_u_row (by decide), em_u_row (by decide), em_u_self]
          · rw [em_u_row (by decide), em_u_self]
        · rw [if_neg e, if_neg e, if_neg e]
          refine ⟨?_, ?_, ?_, (t3 i (by omega)).2.2.2⟩
          · rw [em_u_row (by decide), em_u_row (by decide), em_u_row (by decide), em_u_ne e]; exact (t3 i (by omega)).1
          · rw [em_u_row (by decide), em_u_row (by decide), em_u_ne e, em_u_row (by decide)]; exact (t3 i (by omega)).2.1
          · rw [em_u_row (by decide), em_u_ne e, em_u_row (by decide), em_u_row (by decide)]; exact (t3 i (by omega)).2.2.1
      iterate 6 refine em_next rfl ?_
      cases l with
      | false =>
        refine em_z_eq (fun _ => ?_) (fun q => absurd rfl q)
        iterate 1 refine em_next rfl ?_
        exact fin
      | true =>
        refine em_z_eq (fun q => absurd q (by decide)) (fun _ => ?_)
        iterate 2 refine em_next rfl ?_
        exact fin
    · iterate 1 refine em_next rfl ?_
      refine em_done rfl ?_
      refine em_done rfl (no (fun z => z.1 ?_))
      have := (nI_ltI (a := T) (b := 20) (by omega) (by decide)).mpr
      exact Classical.byContradiction (fun e => g (this (by omega)))
  · iterate 1 refine em_next rfl ?_
    exact em_done rfl (no (fun z => g2 z.2.2))
theorem ca_forget (hC : CI I lp nx p W u H hl S T D L tp pc) (h : ∀ I' : Nat → Nat → Int32, (∀ a, 284 ≤ a → I' a = I a) → CI I' lp nx p W u H hl S 0 D L tp pc → Q (some (.int (nI T))) (em_SH, I', J, em_RT lw)) : em_call (d + 1) 156 [.ref 1] (em_SH, I, J, em_RT lw) Q := by
  obtain ⟨⟨t1, t2⟩, t3⟩ := hC.2.2.2.2.2.2.2.1
  iterate 3 refine em_next rfl ?_
  refine em_tp t2 ?_
  iterate 3 refine em_next rfl ?_
  refine em_inv_call rfl ?_
  iterate 3 refine em_next rfl ?_
  refine em_done rfl ?_
  show em_wp em_sc0 (d + 1) 156 _ _ _ (em_SH, em_u I 266 3 0, J, em_RT lw) Q
  iterate 1 refine em_next rfl ?_
  have k1 : ∀ c, ¬ (266 ≤ c ∧ c ≤ 269) → em_u I 266 3 0 c = I c := fun c hc => em_u_row (by omega)
  exact em_done rfl (h _ (fun a ha => k1 a (by omega)) (hC.told k1 ⟨⟨Nat.zero_le _, em_u_self⟩, fun i hi => absurd hi (Nat.not_lt_zero _)⟩))
theorem ce_append {w : Int32} (hL : I 2 5 = nI L) (hl : L + 4 ≤ 2000) (h : ∀ I' : Nat → Nat → Int32, (∀ c, ¬ (2 ≤ c ∧ c ≤ 3) → I' c = I c) → I' 2 5 = nI (L + 4) → (∀ j, I' 3 j = eb_put (I 3) L w j) → Q none (em_SH, I', J, em_RT lw)) : em_call d 93 [.ref 2, .int w] (em_SH, I, J, em_RT lw) Q := by
  have step : ∀ (I : Nat → Nat → Int32) (k k' : Int32) (L : Nat), (k = 24 ∨ k = 16 ∨ k = 8 ∨ k = 0) → ¬ k < 0 → k + Int32.ofInt (-8) = k' → L < 2000 → I 2 5 = nI L → em_wp em_sc0 d 93 3 [some (.ref 2), some (.int (w)), some (.int (k'))] [] (em_SH, em_u (em_u I 3 L (fb w k)) 2 5 (nI (L + 1)), J, em_RT lw) Q → em_wp em_sc0 d 93 3 [some (.ref 2), some (.int (w)), some (.int (k))] [] (em_SH, I, J, em_RT lw) Q := fun I k k' L hkk hk hk' hL hT hn => by
    iterate 2 refine em_next rfl ?_
    refine em_z_lt (fun q => absurd q hk) (fun _ => ?_)
    iterate 4 refine em_next rfl ?_
    refine em_c_geE hT (y' := nI 2000) rfl (fun q => absurd q (nI_ge hL (by decide))) (fun _ => ?_)
    iterate 8 refine em_next rfl ?_
    refine em_bysE (k := L) rfl rfl hT (by omega) (by decide) ?_
    show em_wp em_sc0 d 93 _ _ _ (em_SH, em_u I 3 L (vp_nar .byte ((w.toUInt32 >>> (k.toUInt32 &&& Int32.toUInt32 31)).toInt32.toInt8.toInt32)), J, em_RT lw) Q
    rw [fb_us w k hkk]
    iterate 5 refine em_next rfl ?_
    refine em_tp (y := nI (L + 1)) ?_ ?_
    · show I 2 5 + 1 = nI (L + 1)
      rw [hT, nI_succ]
    iterate 3 refine em_next rfl ?_
    rw [← hk'] at hn
    exact hn
  iterate 2 refine em_next rfl ?_
  refine step I 24 16 L (by decide) (by decide) (by decide) (by omega) hL ?_
  refine step _ 16 8 (L + 1) (by decide) (by decide) (by decide) (by omega) em_u_self ?_
  refine step _ 8 0 (L + 2) (by decide) (by decide) (by decide) (by omega) em_u_self ?_
  refine step _ 0 (-8) (L + 3) (by decide) (by decide) (by decide) (by omega) em_u_self ?_
  iterate 2 refine em_next rfl ?_
  refine em_z_lt (fun _ => ?_) (fun q => absurd (by decide) q)
  refine em_done rfl ?_
  refine h _ (fun c hc => ?_) em_u_self (fun j => ?_)
  · rw [em_u_row (by omega), em_u_row (by omega), em_u_row (by omega), em_u_row (by omega), em_u_row (by omega), em_u_row (by omega), em_u_row (by omega), em_u_row (by omega)]
  · unfold eb_put
    rw [em_u_row (by decide)]
    by_cases e3 : j = L + 3
    · subst e3
      rw [em_u_self, if_neg (by omega), if_neg (by omega), if_neg (by omega), if_pos rfl]
    · rw [em_u_ne e3, em_u_row (by decide)]
      by_cases e2 : j = L + 2
      · subst e2
        rw [em_u_self, if_neg (by omega), if_neg (by omega), if_pos rfl]
      · rw [em_u_ne e2, em_u_row (by decide)]
        by_cases e1 : j = L + 1
        · subst e1
          rw [em_u_self, if_neg (by omega), if_pos rfl]
        · rw [em_u_ne e1, em_u_row (by decide)]
          by_cases e0 : j = L
          · subst e0
            rw [em_u_self, if_pos rfl]
          · rw [em_u_ne e0, if_neg e0, if_neg e1, if_neg e2, if_neg e3]
theorem ca_feed (hC : CI I lp nx p W u H hl S T D L tp pc) {a b c e f : Int32} (h : ∀ I' : Nat → Nat → Int32, (∀ a, 284 ≤ a → I' a = I a) → (L + 20 ≤ 2000 → CI I' lp nx p W u H hl S T D (L + 20) (eb_feed tp L a b c e f) pc) → (¬ L + 20 ≤ 2000 → CI I' lp nx p W u H hl S T D L tp pc) → Q (some (.int (if L + 20 ≤ 2000 then nI (L + 20) else -1))) (em_SH, I', J, em_RT lw)) : em_call (d + 1) 122 [.ref 1, .int a, .int b, .int c, .int e, .int f] (em_SH, I, J, em_RT lw) Q := by
  obtain ⟨l1, l2, l3⟩ := hC.2.2.2.2.2.2.2.2.1
  iterate 7 refine em_next rfl ?_
  refine em_c_leE (x' := nI (L + 20)) (y' := nI 2000) ?_ rfl (fun g => ?_) (fun g => ?_)
  · show I 2 5 + nI 20 = nI (L + 20)
    rw [l2, em_nadd]
  · have g0 : L + 20 ≤ 2000 := (nI_leI (by omega) (by decide)).mp g
    rw [if_pos g0] at h
    iterate 3 refine em_next rfl ?_
    refine em_inv_call rfl (ce_append l2 (by omega) (fun I1 a1 a3 a4 => ?_))
    iterate 3 refine em_next rfl ?_
    refine em_inv_call rfl (ce_append a3 (by omega) (fun I2 b1 b3 b4 => ?_))
    iterate 3 refine em_next rfl ?_
    refine em_inv_call rfl (ce_append b3 (by omega) (fun I3 c1 c3 c4 => ?_))
    iterate 3 refine em_next rfl ?_
    refine em_inv_call rfl (ce_append c3 (by omega) (fun I4 d1 d3 d4 => ?_))
    iterate 3 refine em_next rfl ?_
    refine em_inv_call rfl (ce_append d3 (by omega) (fun I5 e1 e3 e4 => ?_))
    iterate 3 refine em_next rfl ?_
    refine em_doneE rfl e3 ?_
    have k1 : ∀ c, ¬ (2 ≤ c ∧ c ≤ 3) → I5 c = I c := fun c z => by rw [e1 c z, d1 c z, c1 c z, b1 c z, a1 c z]
    refine h I5 (fun a ha => k1 a (by omega)) (fun _ => hC.taped k1 ⟨g0, e3, fun i hi => ?_⟩) (fun z => absurd g0 z)
    rw [e4]
    refine eb_put_congr (fun j hj => ?_) i hi
    rw [d4]
    refine eb_put_congr (fun j hj => ?_) j hj
    rw [c4]
    refine eb_put_congr (fun j hj => ?_) j hj
    rw [b4]
    refine eb_put_congr (fun j hj => ?_) j hj
    rw [a4]
    exact eb_put_congr l3 j hj
  · have g0 : ¬ L + 20 ≤ 2000 := fun z => g ((nI_leI (by omega) (by decide)).mpr z)
    rw [if_neg g0] at h
    iterate 1 refine em_next rfl ?_
    exact em_done rfl (h I (fun _ _ => rfl) (fun z => absurd z g0) (fun _ => hC))
theorem ca_back (hC : CI I lp nx p W u H hl S T D L tp pc) {n : Int32} (h : ∀ I' : Nat → Nat → Int32, (∀ a, 284 ≤ a → I' a = I a) → (ok_bk L n → CI I' lp nx p W u H hl S T D (L - n.toNatClampNeg) tp pc) → (¬ ok_bk L n → CI I' lp nx p W u H hl S T D L tp pc) → Q (some (.int (if ok_bk L n then nI (L - n.toNatClampNeg) else -1))) (em_SH, I', J, em_RT lw)) : em_call d 123 [.ref 1, .int n] (em_SH, I, J, em_RT lw) Q := by
  obtain ⟨l1, l2, l3⟩ := hC.2.2.2.2.2.2.2.2.1
  iterate 2 refine em_next rfl ?_
  refine em_z_lt (fun g => ?_) (fun g => ?_)
  · have g0 : ¬ ok_bk L n := fun z => absurd g (Int32.not_lt.mpr z.1)
    rw [if_neg g0] at h
    iterate 1 refine em_next rfl ?_
    exact em_done rfl (h I (fun _ _ => rfl) (fun z => absurd z g0) (fun _ => hC))
  iterate 5 refine em_next rfl ?_
  refine em_c_leE rfl l2 (fun g2 => ?_) (fun g2 => ?_)
  · have g0 : ok_bk L n := ⟨Int32.not_lt.mp g, g2⟩
    rw [if_pos g0] at h
    obtain ⟨m, hm, rfl, em⟩ := em_nat (m := L) (by omega) g0.1 g0.2
    rw [em] at h
    have es : nI L - nI m = nI (L - m) := by
      have e := em_nadd (L - m) m
      rw [Nat.sub_add_cancel hm] at e
      rw [e, Int32.add_sub_cancel]
    iterate 10 refine em_next rfl ?_
    have k1 : ∀ c, ¬ (2 ≤ c ∧ c ≤ 3) → em_u I 2 5 (I 2 5 - nI m) c = I c := fun c hc => em_u_row (by omega)
    refine em_doneE rfl (y := nI (L - m)) ?_ ?_
    · show I 2 5 - nI m = nI (L - m)
      rw [l2, es]
    show Q (some (.int (nI (L - m)))) (em_SH, em_u I 2 5 (I 2 5 - nI m), J, em_RT lw)
    exact h _ (fun a ha => k1 a (by omega)) (fun _ => hC.taped k1 ⟨by omega, by rw [em_u_self, l2, es], fun i hi => by rw [em_u_row (by decide)]; exact l3 i (by omega)⟩) (fun z => absurd g0 z)
  · have g0 : ¬ ok_bk L n := fun z => g2 z.2
    rw [if_neg g0] at h
    iterate 1 refine em_next rfl ?_
    exact em_done rfl (h I (fun _ _ => rfl) (fun z => absurd z g0) (fun _ => hC))
theorem ca_place (hC : CI I lp nx p W u H hl S T D L tp pc) (h : Q (some (.int pc)) (em_SH, I, J, em_RT lw)) : em_call d 125 [.ref 1] (em_SH, I, J, em_RT lw) Q := by
  iterate 2 refine em_next rfl ?_
  exact em_doneE rfl hC.2.2.2.2.2.2.2.2.2 h
end CCH5
