/-! the class takes a sum, two -/
theorem tk_nv_lt {b : Nat → Nat} {i n : Nat} (h : ∀ k, k < n → tk_d (b (i + k)) = true) : tk_nv b i n < 10 ^ n := by
  induction n with
  | zero => exact Nat.one_pos
  | succ n ih =>
    have g := ih (fun k hk => h k (by omega))
    have hd : 48 ≤ b (i + n) ∧ b (i + n) ≤ 57 := of_decide_eq_true (h n (by omega))
    rw [tk_nv, Nat.pow_succ]
    omega
theorem tk_e_all {q : Nat → Bool} {L f i j : Nat} (h1 : i ≤ j) (h2 : j < tk_e q L f i) : q j = true := by
  induction f generalizing i with
  | zero => rw [tk_e] at h2; omega
  | succ f ih =>
    rw [tk_e] at h2
    split at h2
    · rename_i z
      by_cases e : j = i
      · subst e; exact z.2
      · exact ih (by omega) h2
    · omega
theorem tk_V_lt {b : Nat → Nat} {L t : Nat} (h : tk_K b L t = 2) : tk_V b L t < 10000 := by
  unfold tk_V
  generalize hp : tk_P b L t = p
  have hk : tk_Kp b L p = 2 := by rw [← hp]; exact h
  unfold tk_Kp at hk
  split at hk
  · exact absurd hk (by decide)
  · split at hk
    · split at hk
      · exact absurd hk (by decide)
      · split at hk <;> omega
    · split at hk
      · split at hk
        · exact absurd hk (by decide)
        · have g := tk_nv_lt (b := b) (i := p) (n := tk_de b L p - p) (fun k hk => tk_e_all (q := fun j => tk_d (b j)) (L := L) (f := L - p) (i := p) (by omega) (by unfold tk_de tk_end at hk; omega))
          exact Nat.lt_of_lt_of_le g (Nat.pow_le_pow_right (by decide) (show tk_de b L p - p ≤ 4 by omega))
      · exact absurd hk (tk_sg_no _).1
def ce_ok (b : Nat → Nat) (L q : Nat) (I : Nat → Nat → Int32) (J : Nat → Nat → Int64) (Q : Option Value → em_M → Prop) (s : List Int32) (lp : Bool) (r : rd_R) : Prop := match r with
  | .inl e => ∀ I' : Nat → Nat → Int32, xf q I I' → I' 40 6 = nI e.1 → I' 40 7 = nI (tk_P b L e.2) → Q (some (.int 0)) (em_SH, I', J, em_RT q)
  | .inr w => ∀ I' : Nat → Nat → Int32, xf q I I' → cat b L w.1 I' → cw I' q (s ++ w.2.map cst) (lp || hp w.2) → Q (some (.int 1)) (em_SH, I', J, em_RT q)
section CEXP2
variable {lw : Nat} {b : Nat → Nat} {L n : Nat} {J J0 J' J'' : Nat → Nat → Int64}
theorem xf.of {q : Nat} {I I' : Nat → Nat → Int32} (h : xf 0 I I') (h2 : ∀ a, a ≠ 40 → I' a = I a) (hq : q ≠ 40 := by decide) : xf q I I' := ⟨fun a z1 _ _ => h2 a z1, h.2.1, fun j _ _ => by rw [h2 q hq]⟩
theorem xf.law {q : Nat} {I I' : Nat → Nat → Int32} (hq : q < 40) (hq2 : q + 1 < 40) (h : af q I I') : xf q I I' := ⟨fun a _ z2 z3 => h.1 a z2 z3, fun j _ => by rw [h.1 40 (by omega) (by omega)], h.2⟩
theorem cat.keep {t : Nat} {I I' : Nat → Nat → Int32} (h : cat b L t I) (e : I' 40 = I 40) : cat b L t I' := by
  unfold cat
  rw [e]
  exact h
theorem cw.keep {q : Nat} {I I' : Nat → Nat → Int32} {s : List Int32} {lp : Bool} (h : cw I q s lp) (e : I' q = I q) (e1 : I' (q + 1) = I (q + 1)) : cw I' q s lp := by
  unfold cw
  rw [e, e1]
  exact h
theorem hp_op (k : Nat) (c : ek_cd) : hp ((rd_op k, 0) :: c) = hp c := by
  unfold hp
  rw [List.any_cons, decide_eq_false (fun e => absurd (Prod.mk.inj e).2 (by decide)), Bool.false_or]
theorem kr (b : Nat → Nat) (L t : Nat) : tk_K b L t < 41 := by have := tk_Kr b L t; omega
theorem ce_rd_draft_lies (f : Nat) :
    (∀ (nt t : Nat) (I : Nat → Nat → Int32) (s : List Int32) (lp : Bool) (Q : Option Value → em_M → Prop) (d : Nat), nt ≤ 6 → rd_nd 0 t ≤ f → cx b L n I J → cat b L t I → cw I 11 s lp → s.length ≤ t → ce_ok b L 11 I J Q s lp (rd (tk_K b L) (tk_V b L) f 0 nt t) → em_call (d + 3 * (6 - nt) + 1) 80 [.ref 40, .int (nI nt)] (em_SH, I, J, em_RT 11) Q) ∧
    (∀ (nt t : Nat) (I : Nat → Nat → Int32) (s : List Int32) (lp : Bool) (Q : Option Value → em_M → Prop) (d : Nat), nt ≤ 6 → rd_nd 1 t ≤ f → cx b L n I J → cat b L t I → cw I 11 s lp → s.length ≤ t → ce_ok b L 11 I J Q s lp (rd (tk_K b L) (tk_V b L) f 1 nt t) → em_call (d + 3 * (6 - nt) + 2) 79 [.ref 40, .int (nI nt)] (em_SH, I, J, em_RT 11) Q) ∧
    (∀ (nt t : Nat) (I : Nat → Nat → Int32) (s : List Int32) (lp : Bool) (Q : Option Value → em_M → Prop) (d : Nat), nt ≤ 6 → rd_nd 2 t ≤ f → cx b L n I J → cat b L t I → cw I 11 s lp → s.length ≤ t → ce_ok b L 11 I J Q s lp (rd (tk_K b L) (tk_V b L) f 2 nt t) → em_call (d + 3 * (6 - nt) + 3) 78 [.ref 40, .int (nI nt)] (em_SH, I, J, em_RT 11) Q) ∧
    (∀ (nt t : Nat) (I : Nat → Nat → Int32) (s : List Int32) (lp : Bool) (Q : Option Value → em_M → Prop) (d i : Nat) (o : Option Value), nt ≤ 6 → rd_nd 3 t ≤ f → i ≤ t → cx b L n I J → cat b L t I → cw I 11 s lp → s.length ≤ t → ce_ok b L 11 I J Q s lp (rd (tk_K b L) (tk_V b L) f 3 nt t) → em_wp em_sc0 (d + 3 * (6 - nt) + 2) 79 12 [some (.ref 40), some (.int (nI nt)), some (.int (nI i)), o] [] (em_SH, I, J, em_RT 11) Q) ∧
    (∀ (nt t : Nat) (I : Nat → Nat → Int32) (s : List Int32) (lp : Bool) (Q : Option Value → em_M → Prop) (d i : Nat) (o : Option Value), nt ≤ 6 → rd_nd 4 t ≤ f → i ≤ t → cx b L n I J → cat b L t I → cw I 11 s lp → s.length ≤ t → ce_ok b L 11 I J Q s lp (rd (tk_K b L) (tk_V b L) f 4 nt t) → em_wp em_sc0 (d + 3 * (6 - nt) + 3) 78 12 [some (.ref 40), some (.int (nI nt)), some (.int (nI i)), o] [] (em_SH, I, J, em_RT 11) Q) := by
  have hV : ∀ t, tk_K b L t = 2 → tk_V b L t < 10000 := fun t h => tk_V_lt h
  have kx : ∀ {I I' : Nat → Nat → Int32}, xf 11 I I' → cx b L n I J → cx b L n I' J := fun f h => h.keep (f.1 _ (by decide) (by decide) (by decide)) (f.1 _ (by decide) (by decide) (by decide)) rfl
  induction f with
  | zero => exact ⟨fun nt t _ _ _ _ _ _ h => by unfold rd_nd at h; rw [if_pos rfl] at h; omega, fun nt t _ _ _ _ _ _ h => by unfold rd_nd at h; rw [if_neg (by decide), if_pos rfl] at h; omega, fun nt t _ _ _ _ _ _ h => by unfold rd_nd at h; rw [if_neg (by decide), if_neg (by decide), if_pos rfl] at h; omega, fun nt t I s lp Q d i o _ h h2 h3 h4 => by unfold rd_nd at h; have := h4.1; omega, fun nt t I s lp Q d i o _ h h2 h3 h4 => by unfold rd_nd at h; have := h4.1; omega⟩
  | succ f ih =>
    obtain ⟨iu, ip, is, ipt, ist⟩ := ih
    refine ⟨?_, ?_, ?_, ?_, ?_⟩
    · intro nt t I s lp Q d hnt hnd hx hc hw hsl h
      unfold rd_nd at hnd
      rw [if_pos rfl] at hnd
      have hck := ck_is (tk_K b L t) (kr b L t)
      have ht := hc.1
      rw [rd, if_pos rfl] at h
      -- a token taken, its step added before
      have one : ∀ (x : Int32) (q : Nat × Nat) (I1 : Nat → Nat → Int32) (Q' : Option Value → em_M → Prop), (∀ (v : Int32) (M : em_M), (v = 0 ∨ v = 1) → Q (some (.int v)) M → Q' (some (.int v)) M) → cst q = x → decide (x = -9) = decide (q = (1, 8)) → ¬ tk_K b L t = 0 ∧ ¬ tk_K b L t = 3 → af 11 I I1 → (s.length < 400 → cw I1 11 (s ++ [x]) (lp || decide (x = -9))) → ce_ok b L 11 I J Q s lp (if t < 400 then .inr (t + 1, [q]) else .inl (2, t)) → em_call (d + 3 * (6 - nt)) 84 [.ref 40] (em_SH, I1, J, em_RT 11) Q' := fun x q I1 Q' hQ e1 e2 hg k1 k2 hok => by
        have kf : xf 11 I I1 := xf.law (by decide) (by decide) k1
        refine ce_accept (kx kf hx) (hc.keep (k1.1 _ (by decide) (by decide))) hg (fun z I2 a1 a2 a3 => ?_) (fun z I2 a1 a2 a3 a4 => ?_)
        · rw [if_pos z] at hok
          refine hQ 1 _ (Or.inr rfl) (hok I2 (kf.tr (a1.of a2)) a3 ?_)
          have := (k2 (by omega)).keep (a2 _ (by decide)) (a2 _ (by decide))
          rw [e2] at this
          rw [← e1] at this
          have eh : hp [q] = decide (q = (1, 8)) := by unfold hp; rw [List.any_cons, List.any_nil, Bool.or_false]
          show cw I2 11 (s ++ [cst q]) (lp || hp [q])
          rw [eh]
          exact this
        · rw [if_neg z] at hok
          exact hQ 0 _ (Or.inl rfl) (hok I2 (kf.tr (a1.of a2)) a3 a4)
      iterate 4 refine em_next rfl ?_
      refine em_c_neE hc.2.2.2 (y' := nI 2) rfl (fun z => ?_) (fun z => ?_)
      · have z2 : ¬ tk_K b L t = 2 := fun e => z (by rw [hck.1.mpr e])
        rw [if_neg z2] at h
        have rest : ¬ (32 ≤ tk_K b L t ∧ tk_K b L t ≤ 40) → em_wp em_sc0 (d + 3 * (6 - nt) + 1) 80 75 [some (.ref 40), some (.int (nI nt))] [] (em_SH, I, J, em_RT 11) Q := fun hv => by
          rw [if_neg hv] at h
          iterate 4 refine em_next rfl ?_
          refine em_c_eqE hc.2.2.2 (y' := nI 40) rfl (fun y => ?_) (fun y => ?_)
          · have y2 := hck.2.1.mp ((nI_eq (by omega) (by decide)).mp y)
            rw [if_neg (fun e => e y2)] at h
            iterate 3 refine em_next rfl ?_
            refine em_c_ltE rfl (y' := nI 6) rfl (fun w => ?_) (fun w => ?_)
            · have w2 := (nI_ltI (by omega) (by decide)).mp w
              rw [if_neg (by omega)] at h
              rw [show d + 3 * (6 - nt) + 1 = (d + 3 * (6 - (nt + 1)) + 3) + 1 by omega]
              iterate 1 refine em_next rfl ?_
              refine em_inv_call rfl (ce_accept hx hc (by omega) (fun z I2 a1 a2 a3 => ?_) (fun z I2 a1 a2 a3 a4 => ?_))
              · rw [if_pos z] at h
                iterate 1 refine em_next rfl ?_
                refine em_z_eq (fun q => absurd q (by decide)) (fun _ => ?_)
                iterate 3 refine em_next rfl ?_
                refine em_next rfl ?_
                have xf2 : xf 11 I I2 := a1.of a2
                have hx2 := kx xf2 hx
                refine em_tp (y := nI (nt + 1)) (by rw [nI_succ]; rfl) ?_
                refine em_inv_call rfl (is (nt + 1) (t + 1) I2 s lp _ d (by omega) (by unfold rd_nd; rw [if_neg (by decide), if_neg (by decide), if_pos rfl]; omega) hx2 a3 (hw.keep (a2 _ (by decide)) (a2 _ (by decide))) (by omega) ?_)
                cases hr : rd (tk_K b L) (tk_V b L) f 2 (nt + 1) (t + 1) with
                | inl e =>
                  rw [hr] at h
                  intro I3 b1 b2 b3
                  iterate 1 refine em_next rfl ?_
                  refine em_z_ne (fun q => absurd rfl q) (fun _ => ?_)
                  iterate 1 refine em_next rfl ?_
                  exact em_done rfl (h I3 (xf2.tr b1) b2 b3)
                | inr w =>
                  rw [hr] at h
                  intro I3 b1 b2 b3
                  have hck2 := ck_is (tk_K b L w.1) (kr b L w.1)
                  iterate 1 refine em_next rfl ?_
                  refine em_z_ne (fun _ => ?_) (fun q => absurd q (by decide))
                  iterate 4 refine em_next rfl ?_
                  refine em_c_neE b2.2.2.2 (y' := nI 41) rfl (fun y => ?_) (fun y => ?_)
                  · have y2 : ¬ tk_K b L w.1 = 7 := fun e => y (by rw [hck2.2.2.1.mpr e])
                    have h' : ce_ok b L 11 I J Q s lp (if tk_K b L w.1 = 7 then (if w.1 < 400 then .inr (w.1 + 1, w.2) else .inl (2, w.1)) else .inl (1, w.1)) := h
                    rw [if_neg y2] at h'
                    iterate 2 refine em_next rfl ?_
                    refine em_inv_call rfl (ce_refuse (k := 1) (kx (xf2.tr b1) hx) b2 (fun I4 c1 c2 c3 c4 => ?_))
                    exact em_done rfl (h' I4 ((xf2.tr b1).tr (c1.of c2)) c3 c4)
                  · have y2 := hck2.2.2.1.mp ((nI_eq (by omega) (by decide)).mp y)
                    have h' : ce_ok b L 11 I J Q s lp (if tk_K b L w.1 = 7 then (if w.1 < 400 then .inr (w.1 + 1, w.2) else .inl (2, w.1)) else .inl (1, w.1)) := h
                    rw [if_pos y2] at h'
                    iterate 1 refine em_next rfl ?_
                    refine em_inv_call rfl (ce_accept (kx (xf2.tr b1) hx) b2 (by omega) (fun z I4 c1 c2 c3 => ?_) (fun z I4 c1 c2 c3 c4 => ?_))
                    · rw [if_pos z] at h'
                      iterate 1 refine em_next rfl ?_
                      exact em_done rfl (h' I4 ((xf2.tr b1).tr (c1.of c2)) c3 (b3.keep (c2 _ (by decide)) (c2 _ (by decide))))
                    · rw [if_neg z] at h'
                      iterate 1 refine em_next rfl ?_
                      exact em_done rfl (h' I4 ((xf2.tr b1).tr (c1.of c2)) c3 c4)
              · rw [if_neg z] at h
                iterate 1 refine em_next rfl ?_
                refine em_z_eq (fun _ => ?_) (fun q => absurd rfl q)
                iterate 1 refine em_next rfl ?_
                exact em_done rfl (h I2 (a1.of a2) a3 a4)
            · have w2 : 6 ≤ nt := Nat.not_lt.mp (fun e => w (nI_lt e (by decide)))
              rw [if_pos w2] at h
              iterate 2 refine em_next rfl ?_
              refine em_inv_call rfl (ce_refuse (k := 2) hx hc (fun I2 a1 a2 a3 a4 => ?_))
              exact em_done rfl (h I2 (a1.of a2) a3 a4)
          · have y2 : ¬ tk_K b L t = 6 := fun e => y (by rw [hck.2.1.mpr e])
            rw [if_pos y2] at h
            iterate 2 refine em_next rfl ?_
            refine em_inv_call rfl (ce_refuse (k := 1) hx hc (fun I2 a1 a2 a3 a4 => ?_))
            exact em_done rfl (h I2 (a1.of a2) a3 a4)
        iterate 4 refine em_next rfl ?_
        refine em_c_ltE hc.2.2.2 (y' := nI 268) rfl (fun y => ?_) (fun y => ?_)
        · have := (nI_ltI (by omega) (by decide)).mp y
          exact rest (fun e => by have := hck.2.2.2.2.2.2.2.1.mpr e; omega)
        · have y1 : 268 ≤ ck (tk_K b L t) := Nat.not_lt.mp (fun e => y (nI_lt e (by omega)))
          iterate 4 refine em_next rfl ?_
          refine em_c_gtE hc.2.2.2 (y' := nI 276) rfl (fun w => ?_) (fun w => ?_)
          · have := (nI_ltI (by decide) (by omega)).mp w
            exact rest (fun e => by have := hck.2.2.2.2.2.2.2.1.mpr e; omega)
          · have w1 : ck (tk_K b L t) ≤ 276 := Nat.not_lt.mp (fun e => w (nI_lt e (by omega)))
            have hv := hck.2.2.2.2.2.2.2.1.mp ⟨y1, w1⟩
            have hs2 := hck.2.2.2.2.2.2.2.2.2.1 hv.1
            rw [if_pos hv] at h
            iterate 6 refine em_next rfl ?_
            refine em_next rfl ?_
            refine em_tp (y := nI (tk_K b L t - 32)) ?_ ?_
            · show I 40 5 - nI 268 = _
              rw [hc.2.2.2]
              have e := em_nadd (ck (tk_K b L t) - 268) 268
              rw [Nat.sub_add_cancel y1] at e
              rw [e, Int32.add_sub_cancel, hs2]
            iterate 1 refine em_next rfl ?_
            refine em_inv_call rfl (ce_add_draft_lies hw (fun I1 k1 k2 => ?_))
            iterate 1 refine em_next rfl ?_
            have h9 : ∀ x, x < 9 → (decide (-1 - nI x = -9) = decide (((1, x) : Nat × Nat) = (1, 8))) := by decide +kernel
            refine em_inv_call rfl (one (-1 - nI (tk_K b L t - 32)) (1, tk_K b L t - 32) I1 _ (fun v M hv q => em_done (if_pos (Or.inr (Or.inl ⟨rfl, hv⟩))) q) rfl (h9 _ (by omega)) (by omega) k1 k2 h)
      · have z2 := hck.1.mp ((nI_eq (by omega) (by decide)).mp z)
        have hT := hx.1 t (hx.lt ht hc.2.1)
        have v1 := hV t z2
        rw [if_pos z2] at h
        iterate 7 refine em_next rfl ?_
        refine em_lalE (k := t) rfl rfl hc.2.2.1 (by omega) (by decide) ?_
        refine em_tl (hT.2.2.1 z2) ?_
        iterate 1 refine em_next rfl ?_
        refine em_tp (lN_i (tk_V b L t)) ?_
        refine em_inv_call rfl (ce_add_draft_lies hw (fun I1 k1 k2 => ?_))
        iterate 1 refine em_next rfl ?_
        have hne : decide (nI (tk_V b L t) = -9) = false := decide_eq_false (fun e => by
          have h1 := nI_pos (n := tk_V b L t) (by omega)
          rw [e] at h1
          exact h1 (by decide))
        refine em_inv_call rfl (one (nI (tk_V b L t)) (0, tk_V b L t) I1 _ (fun v M hv q => em_done (if_pos (Or.inr (Or.inl ⟨rfl, hv⟩))) q) rfl (by rw [hne]; exact (decide_eq_false (fun e => by cases e)).symm) (by omega) k1 k2 h)
    · intro nt t I s lp Q d hnt hnd hx hc hw hsl h
      unfold rd_nd at hnd
      rw [if_neg (by decide), if_pos rfl] at hnd
      have ht := hc.1
      rw [rd, if_neg (by decide), if_pos rfl] at h
      iterate 2 refine em_next rfl ?_
      refine em_inv_call rfl (iu nt t I s lp _ d hnt (by unfold rd_nd; rw [if_pos rfl]; omega) hx hc hw hsl ?_)
      cases hr : rd (tk_K b L) (tk_V b L) f 0 nt t with
      | inl e =>
        rw [hr] at h
        intro I3 b1 b2 b3
        iterate 1 refine em_next rfl ?_
        refine em_z_ne (fun q => absurd rfl q) (fun _ => ?_)
        iterate 1 refine em_next rfl ?_
        exact em_done rfl (h I3 b1 b2 b3)
      | inr w =>
        rw [hr] at h
        intro I3 b1 b2 b3
        obtain ⟨⟨g1, g2, g3, g4⟩, -, -⟩ := rd_pr hV (by decide) hnt ht hr
        have g3' := g3 (by decide)
        iterate 1 refine em_next rfl ?_
        refine em_z_ne (fun _ => ?_) (fun q => absurd q (by decide))
        iterate 2 refine em_next rfl ?_
        refine ipt nt w.1 I3 _ (lp || hp w.2) Q d 0 none hnt (by unfold rd_nd; rw [if_neg (by decide), if_neg (by decide), if_neg (by decide)]; omega) (by omega) (kx b1 hx) b2 b3 (by rw [List.length_append, List.length_map]; omega) ?_
        have h' : ce_ok b L 11 I J Q s lp (rd_b (rd (tk_K b L) (tk_V b L) f 3 nt w.1) (fun t2 c2 => .inr (t2, w.2 ++ c2))) := h
        cases hr2 : rd (tk_K b L) (tk_V b L) f 3 nt w.1 with
        | inl e =>
          rw [hr2] at h'
          exact fun I5 e1 e2 e3 => h' I5 (b1.tr e1) e2 e3
        | inr u =>
          rw [hr2] at h'
          intro I5 e1 e2 e3
          refine h' I5 (b1.tr e1) e2 ?_
          show cw I5 11 (s ++ (w.2 ++ u.2).map cst) (lp || hp (w.2 ++ u.2))
          rw [hp_app, List.map_append, ← Bool.or_assoc]
          rw [List.append_assoc] at e3
          exact e3
    · intro nt t I s lp Q d hnt hnd hx hc hw hsl h
      unfold rd_nd at hnd
      rw [if_neg (by decide), if_neg (by decide), if_pos rfl] at hnd
      have ht := hc.1
      rw [rd, if_neg (by decide), if_neg (by decide), if_pos rfl] at h
      iterate 2 refine em_next rfl ?_
      refine em_inv_call rfl (ip nt t I s lp _ d hnt (by unfold rd_nd; rw [if_neg (by decide), if_pos rfl]; omega) hx hc hw hsl ?_)
      cases hr : rd (tk_K b L) (tk_V b L) f 1 nt t with
      | inl e =>
        rw [hr] at h
        intro I3 b1 b2 b3
        iterate 1 refine em_next rfl ?_
        refine em_z_ne (fun q => absurd rfl q) (fun _ => ?_)
        iterate 1 refine em_next rfl ?_
        exact em_done rfl (h I3 b1 b2 b3)
      | inr w =>
        rw [hr] at h
        intro I3 b1 b2 b3
        obtain ⟨⟨g1, g2, g3, g4⟩, -, -⟩ := rd_pr hV (by decide) hnt ht hr
        have g3' := g3 (by decide)
        iterate 1 refine em_next rfl ?_
        refine em_z_ne (fun _ => ?_) (fun q => absurd q (by decide))
        iterate 2 refine em_next rfl ?_
        refine ist nt w.1 I3 _ (lp || hp w.2) Q d 0 none hnt (by unfold rd_nd; rw [if_neg (by decide), if_neg (by decide), if_neg (by decide)]; omega) (by omega) (kx b1 hx) b2 b3 (by rw [List.length_append, List.length_map]; omega) ?_
        have h' : ce_ok b L 11 I J Q s lp (rd_b (rd (tk_K b L) (tk_V b L) f 4 nt w.1) (fun t2 c2 => .inr (t2, w.2 ++ c2))) := h
        cases hr2 : rd (tk_K b L) (tk_V b L) f 4 nt w.1 with
        | inl e =>
          rw [hr2] at h'
          exact fun I5 e1 e2 e3 => h' I5 (b1.tr e1) e2 e3
        | inr u =>
          rw [hr2] at h'
          intro I5 e1 e2 e3
          refine h' I5 (b1.tr e1) e2 ?_
          show cw I5 11 (s ++ (w.2 ++ u.2).map cst) (lp || hp (w.2 ++ u.2))
          rw [hp_app, List.map_append, ← Bool.or_assoc]
          rw [List.append_assoc] at e3
          exact e3
    · intro nt t I s lp Q d i o hnt hnd hit hx hc hw hsl h
      unfold rd_nd at hnd
      have hck := ck_is (tk_K b L t) (kr b L t)
      have ht := hc.1
      rw [rd, if_neg (by decide), if_neg (by decide), if_neg (by decide), if_pos rfl] at h
      have go : (tk_K b L t = 10 ∨ tk_K b L t = 15) → em_wp em_sc0 (d + 3 * (6 - nt) + 2) 79 37 [some (.ref 40), some (.int (nI nt)), some (.int (nI i)), o] [] (em_SH, I, J, em_RT 11) Q := fun hk => by
        rw [if_pos hk] at h
        iterate 2 refine em_next rfl ?_
        refine em_tp hc.2.2.2 ?_
        iterate 2 refine em_next rfl ?_
        refine em_inv_call rfl (ce_accept hx hc (by omega) (fun z I2 a1 a2 a3 => ?_) (fun z I2 a1 a2 a3 a4 => ?_))
        · rw [if_pos z] at h
          have xf2 : xf 11 I I2 := a1.of a2
          iterate 1 refine em_next rfl ?_
          refine em_z_eq (fun q => absurd q (by decide)) (fun _ => ?_)
          iterate 2 refine em_next rfl ?_
          refine em_inv_call rfl (iu nt (t + 1) I2 s lp _ d hnt (by unfold rd_nd; rw [if_pos rfl]; omega) (kx xf2 hx) a3 (hw.keep (a2 _ (by decide)) (a2 _ (by decide))) (by omega) ?_)
          cases hr : rd (tk_K b L) (tk_V b L) f 0 nt (t + 1) with
          | inl e =>
            rw [hr] at h
            intro I3 b1 b2 b3
            iterate 1 refine em_next rfl ?_
            refine em_z_ne (fun q => absurd rfl q) (fun _ => ?_)
            iterate 1 refine em_next rfl ?_
            exact em_done rfl (h I3 (xf2.tr b1) b2 b3)
          | inr w =>
            rw [hr] at h
            intro I3 b1 b2 b3
            obtain ⟨⟨g1, g2, g3, g4⟩, -, -⟩ := rd_pr hV (by decide) hnt (by omega) hr
            have g3' := g3 (by decide)
            have xf3 := xf2.tr b1
            iterate 1 refine em_next rfl ?_
            refine em_z_ne (fun _ => ?_) (fun q => absurd q (by decide))
            iterate 3 refine em_next rfl ?_
            refine em_inv_call rfl (ce_addSign_draft_lies (k := tk_K b L t) (by omega) b3 (by rw [List.length_append, List.length_map]; omega) (fun I4 c1 c2 => ?_))
            have xf4 : xf 11 I I4 := xf3.tr (xf.law (by decide) (by decide) c1)
            have g := ipt nt w.1 I4 _ (lp || hp w.2) Q d (i + 1) (some (.int (nI (ck (tk_K b L t))))) hnt (by unfold rd_nd; omega) (by omega) (kx xf4 hx) (b2.keep (c1.1 _ (by decide) (by decide))) c2 (by rw [List.length_append, List.length_append, List.length_map]; dsimp only [List.length]; omega) ?_
            · rw [nI_succ] at g
              iterate 2 refine em_next rfl ?_
              exact g
            cases hr2 : rd (tk_K b L) (tk_V b L) f 3 nt w.1 with
            | inl e =>
              have h' : ce_ok b L 11 I J Q s lp (rd_b (rd (tk_K b L) (tk_V b L) f 3 nt w.1) (fun t2 c2 => .inr (t2, w.2 ++ (rd_op (tk_K b L t), 0) :: c2))) := h
              rw [hr2] at h'
              exact fun I5 e1 e2 e3 => h' I5 (xf4.tr e1) e2 e3
            | inr u =>
              have h' : ce_ok b L 11 I J Q s lp (rd_b (rd (tk_K b L) (tk_V b L) f 3 nt w.1) (fun t2 c2 => .inr (t2, w.2 ++ (rd_op (tk_K b L t), 0) :: c2))) := h
              rw [hr2] at h'
              intro I5 e1 e2 e3
              refine h' I5 (xf4.tr e1) e2 ?_
              have eh : (lp || hp (w.2 ++ (rd_op (tk_K b L t), 0) :: u.2)) = (lp || hp w.2 || hp u.2) := by
                rw [hp_app, show hp ((rd_op (tk_K b L t), 0) :: u.2) = hp u.2 from hp_op _ _, Bool.or_assoc]
              show cw I5 11 (s ++ (w.2 ++ (rd_op (tk_K b L t), 0) :: u.2).map cst) (lp || hp (w.2 ++ (rd_op (tk_K b L t), 0) :: u.2))
              rw [eh, List.map_append, List.map_cons]
              rw [List.append_assoc, List.append_assoc] at e3
              exact e3
        · rw [if_neg z] at h
          iterate 1 refine em_next rfl ?_
          refine em_z_eq (fun _ => ?_) (fun q => absurd rfl q)
          iterate 1 refine em_next rfl ?_
          exact em_done rfl (h I2 (a1.of a2) a3 a4)
      iterate 3 refine em_next rfl ?_
      refine em_c_gtE rfl (y' := nI 400) rfl (fun z => absurd z (nI_nlt (by omega) (by decide))) (fun _ => ?_)
      iterate 4 refine em_next rfl ?_
      refine em_c_eqE hc.2.2.2 (y' := nI 42) rfl (fun y => ?_) (fun y => ?_)
      · exact go (Or.inl (hck.2.2.2.2.2.1.mp ((nI_eq (by omega) (by decide)).mp y)))
      · have y2 : ¬ tk_K b L t = 10 := fun e => y (by rw [hck.2.2.2.2.2.1.mpr e])
        iterate 4 refine em_next rfl ?_
        refine em_c_neE hc.2.2.2 (y' := nI 47) rfl (fun y => ?_) (fun y => ?_)
        · have y3 : ¬ tk_K b L t = 15 := fun e => y (by rw [hck.2.2.2.2.2.2.1.mpr e])
          rw [if_neg (fun e => e.elim y2 y3)] at h
          iterate 1 refine em_next rfl ?_
          refine em_done rfl (h I xf.rf hc ?_)
          show cw I 11 (s ++ []) (lp || hp [])
          rw [List.append_nil, show hp [] = false from rfl, Bool.or_false]
          exact hw
        · exact go (Or.inr (hck.2.2.2.2.2.2.1.mp ((nI_eq (by omega) (by decide)).mp y)))
    · intro nt t I s lp Q d i o hnt hnd hit hx hc hw hsl h
      unfold rd_nd at hnd
      have hck := ck_is (tk_K b L t) (kr b L t)
      have ht := hc.1
      rw [rd, if_neg (by decide), if_neg (by decide), if_neg (by decide), if_neg (by decide)] at h
      have go : (tk_K b L t = 8 ∨ tk_K b L t = 9) → em_wp em_sc0 (d + 3 * (6 - nt) + 3) 78 37 [some (.ref 40), some (.int (nI nt)), some (.int (nI i)), o] [] (em_SH, I, J, em_RT 11) Q := fun hk => by
        rw [if_pos hk] at h
        iterate 2 refine em_next rfl ?_
        refine em_tp hc.2.2.2 ?_
        iterate 2 refine em_next rfl ?_
        refine em_inv_call rfl (ce_accept hx hc (by omega) (fun z I2 a1 a2 a3 => ?_) (fun z I2 a1 a2 a3 a4 => ?_))
        · rw [if_pos z] at h
          have xf2 : xf 11 I I2 := a1.of a2
          iterate 1 refine em_next rfl ?_
          refine em_z_eq (fun q => absurd q (by decide)) (fun _ => ?_)
          iterate 2 refine em_next rfl ?_
          refine em_inv_call rfl (ip nt (t + 1) I2 s lp _ d hnt (by unfold rd_nd; rw [if_neg (by decide), if_pos rfl]; omega) (kx xf2 hx) a3 (hw.keep (a2 _ (by decide)) (a2 _ (by decide))) (by omega) ?_)
          cases hr : rd (tk_K b L) (tk_V b L) f 1 nt (t + 1) with
          | inl e =>
            rw [hr] at h
            intro I3 b1 b2 b3
            iterate 1 refine em_next rfl ?_
            refine em_z_ne (fun q => absurd rfl q) (fun _ => ?_)
            iterate 1 refine em_next rfl ?_
            exact em_done rfl (h I3 (xf2.tr b1) b2 b3)
          | inr w =>
            rw [hr] at h
            intro I3 b1 b2 b3
            obtain ⟨⟨g1, g2, g3, g4⟩, -, -⟩ := rd_pr hV (by decide) hnt (by omega) hr
            have g3' := g3 (by decide)
            have xf3 := xf2.tr b1
            iterate 1 refine em_next rfl ?_
            refine em_z_ne (fun _ => ?_) (fun q => absurd q (by decide))
            iterate 3 refine em_next rfl ?_
            refine em_inv_call rfl (ce_addSign_draft_lies (k := tk_K b L t) (by omega) b3 (by rw [List.length_append, List.length_map]; omega) (fun I4 c1 c2 => ?_))
            have xf4 : xf 11 I I4 := xf3.tr (xf.law (by decide) (by decide) c1)
            have g := ist nt w.1 I4 _ (lp || hp w.2) Q d (i + 1) (some (.int (nI (ck (tk_K b L t))))) hnt (by unfold rd_nd; omega) (by omega) (kx xf4 hx) (b2.keep (c1.1 _ (by decide) (by decide))) c2 (by rw [List.length_append, List.length_append, List.length_map]; dsimp only [List.length]; omega) ?_
            · rw [nI_succ] at g
              iterate 2 refine em_next rfl ?_
              exact g
            cases hr2 : rd (tk_K b L) (tk_V b L) f 4 nt w.1 with
            | inl e =>
              have h' : ce_ok b L 11 I J Q s lp (rd_b (rd (tk_K b L) (tk_V b L) f 4 nt w.1) (fun t2 c2 => .inr (t2, w.2 ++ (rd_op (tk_K b L t), 0) :: c2))) := h
              rw [hr2] at h'
              exact fun I5 e1 e2 e3 => h' I5 (xf4.tr e1) e2 e3
            | inr u =>
              have h' : ce_ok b L 11 I J Q s lp (rd_b (rd (tk_K b L) (tk_V b L) f 4 nt w.1) (fun t2 c2 => .inr (t2, w.2 ++ (rd_op (tk_K b L t), 0) :: c2))) := h
              rw [hr2] at h'
              intro I5 e1 e2 e3
              refine h' I5 (xf4.tr e1) e2 ?_
              have eh : (lp || hp (w.2 ++ (rd_op (tk_K b L t), 0) :: u.2)) = (lp || hp w.2 || hp u.2) := by
                rw [hp_app, show hp ((rd_op (tk_K b L t), 0) :: u.2) = hp u.2 from hp_op _ _, Bool.or_assoc]
              show cw I5 11 (s ++ (w.2 ++ (rd_op (tk_K b L t), 0) :: u.2).map cst) (lp || hp (w.2 ++ (rd_op (tk_K b L t), 0) :: u.2))
              rw [eh, List.map_append, List.map_cons]
              rw [List.append_assoc, List.append_assoc] at e3
              exact e3
        · rw [if_neg z] at h
          iterate 1 refine em_next rfl ?_
          refine em_z_eq (fun _ => ?_) (fun q => absurd rfl q)
          iterate 1 refine em_next rfl ?_
          exact em_done rfl (h I2 (a1.of a2) a3 a4)
      iterate 3 refine em_next rfl ?_
      refine em_c_gtE rfl (y' := nI 400) rfl (fun z => absurd z (nI_nlt (by omega) (by decide))) (fun _ => ?_)
      iterate 4 refine em_next rfl ?_
      refine em_c_eqE hc.2.2.2 (y' := nI 43) rfl (fun y => ?_) (fun y => ?_)
      · exact go (Or.inl (hck.2.2.2.1.mp ((nI_eq (by omega) (by decide)).mp y)))
      · have y2 : ¬ tk_K b L t = 8 := fun e => y (by rw [hck.2.2.2.1.mpr e])
        iterate 4 refine em_next rfl ?_
        refine em_c_neE hc.2.2.2 (y' := nI 45) rfl (fun y => ?_) (fun y => ?_)
        · have y3 : ¬ tk_K b L t = 9 := fun e => y (by rw [hck.2.2.2.2.1.mpr e])
          rw [if_neg (fun e => e.elim y2 y3)] at h
          iterate 1 refine em_next rfl ?_
          refine em_done rfl (h I xf.rf hc ?_)
          show cw I 11 (s ++ []) (lp || hp [])
          rw [List.append_nil, show hp [] = false from rfl, Bool.or_false]
          exact hw
        · exact go (Or.inr (hck.2.2.2.2.1.mp ((nI_eq (by omega) (by decide)).mp y)))
/-- a whole sum -/
theorem ce_sum_draft_lies {t : Nat} {I : Nat → Nat → Int32} {s : List Int32} {lp : Bool} {Q : Option Value → em_M → Prop} {d : Nat} (hx : cx b L n I J) (hc : cat b L t I) (hw : cw I 11 s lp) (hsl : s.length ≤ t) (h : ce_ok b L 11 I J Q s lp (rd_sum (tk_K b L) (tk_V b L) t)) : em_call (d + 21) 78 [.ref 40, .int (nI 0)] (em_SH, I, J, em_RT 11) Q := (ce_rd_draft_lies 1700).2.2.1 0 t I s lp Q d (by decide) (by unfold rd_nd; rw [if_neg (by decide), if_neg (by decide), if_pos rfl]; omega) hx hc hw hsl h
theorem ce_rd_draft_parts (f : Nat) :
    (∀ (nt t : Nat) (I : Nat → Nat → Int32) (s : List Int32) (lp : Bool) (Q : Option Value → em_M → Prop) (d : Nat), nt ≤ 6 → rd_nd 0 t ≤ f → cx b L n I J → cat b L t I → cw I 14 s lp → s.length ≤ t → ce_ok b L 14 I J Q s lp (rd (tk_K b L) (tk_V b L) f 0 nt t) → em_call (d + 3 * (6 - nt) + 1) 80 [.ref 40, .int (nI nt)] (em_SH, I, J, em_RT 14) Q) ∧
    (∀ (nt t : Nat) (I : Nat → Nat → Int32) (s : List Int32) (lp : Bool) (Q : Option Value → em_M → Prop) (d : Nat), nt ≤ 6 → rd_nd 1 t ≤ f → cx b L n I J → cat b L t I → cw I 14 s lp → s.length ≤ t → ce_ok b L 14 I J Q s lp (rd (tk_K b L) (tk_V b L) f 1 nt t) → em_call (d + 3 * (6 - nt) + 2) 79 [.ref 40, .int (nI nt)] (em_SH, I, J, em_RT 14) Q) ∧
    (∀ (nt t : Nat) (I : Nat → Nat → Int32) (s : List Int32) (lp : Bool) (Q : Option Value → em_M → Prop) (d : Nat), nt ≤ 6 → rd_nd 2 t ≤ f → cx b L n I J → cat b L t I → cw I 14 s lp → s.length ≤ t → ce_ok b L 14 I J Q s lp (rd (tk_K b L) (tk_V b L) f 2 nt t) → em_call (d + 3 * (6 - nt) + 3) 78 [.ref 40, .int (nI nt)] (em_SH, I, J, em_RT 14) Q) ∧
    (∀ (nt t : Nat) (I : Nat → Nat → Int32) (s : List Int32) (lp : Bool) (Q : Option Value → em_M → Prop) (d i : Nat) (o : Option Value), nt ≤ 6 → rd_nd 3 t ≤ f → i ≤ t → cx b L n I J → cat b L t I → cw I 14 s lp → s.length ≤ t → ce_ok b L 14 I J Q s lp (rd (tk_K b L) (tk_V b L) f 3 nt t) → em_wp em_sc0 (d + 3 * (6 - nt) + 2) 79 12 [some (.ref 40), some (.int (nI nt)), some (.int (nI i)), o] [] (em_SH, I, J, em_RT 14) Q) ∧
    (∀ (nt t : Nat) (I : Nat → Nat → Int32) (s : List Int32) (lp : Bool) (Q : Option Value → em_M → Prop) (d i : Nat) (o : Option Value), nt ≤ 6 → rd_nd 4 t ≤ f → i ≤ t → cx b L n I J → cat b L t I → cw I 14 s lp → s.length ≤ t → ce_ok b L 14 I J Q s lp (rd (tk_K b L) (tk_V b L) f 4 nt t) → em_wp em_sc0 (d + 3 * (6 - nt) + 3) 78 12 [some (.ref 40), some (.int (nI nt)), some (.int (nI i)), o] [] (em_SH, I, J, em_RT 14) Q) := by
  have hV : ∀ t, tk_K b L t = 2 → tk_V b L t < 10000 := fun t h => tk_V_lt h
  have kx : ∀ {I I' : Nat → Nat → Int32}, xf 14 I I' → cx b L n I J → cx b L n I' J := fun f h => h.keep (f.1 _ (by decide) (by decide) (by decide)) (f.1 _ (by decide) (by decide) (by decide)) rfl
  induction f with
  | zero => exact ⟨fun nt t _ _ _ _ _ _ h => by unfold rd_nd at h; rw [if_pos rfl] at h; omega, fun nt t _ _ _ _ _ _ h => by unfold rd_nd at h; rw [if_neg (by decide), if_pos rfl] at h; omega, fun nt t _ _ _ _ _ _ h => by unfold rd_nd at h; rw [if_neg (by decide), if_neg (by decide), if_pos rfl] at h; omega, fun nt t I s lp Q d i o _ h h2 h3 h4 => by unfold rd_nd at h; have := h4.1; omega, fun nt t I s lp Q d i o _ h h2 h3 h4 => by unfold rd_nd at h; have := h4.1; omega⟩
  | succ f ih =>
    obtain ⟨iu, ip, is, ipt, ist⟩ := ih
    refine ⟨?_, ?_, ?_, ?_, ?_⟩
    · intro nt t I s lp Q d hnt hnd hx hc hw hsl h
      unfold rd_nd at hnd
      rw [if_pos rfl] at hnd
      have hck := ck_is (tk_K b L t) (kr b L t)
      have ht := hc.1
      rw [rd, if_pos rfl] at h
      -- a token taken, its step added before
      have one : ∀ (x : Int32) (q : Nat × Nat) (I1 : Nat → Nat → Int32) (Q' : Option Value → em_M → Prop), (∀ (v : Int32) (M : em_M), (v = 0 ∨ v = 1) → Q (some (.int v)) M → Q' (some (.int v)) M) → cst q = x → decide (x = -9) = decide (q = (1, 8)) → ¬ tk_K b L t = 0 ∧ ¬ tk_K b L t = 3 → af 14 I I1 → (s.length < 400 → cw I1 14 (s ++ [x]) (lp || decide (x = -9))) → ce_ok b L 14 I J Q s lp (if t < 400 then .inr (t + 1, [q]) else .inl (2, t)) → em_call (d + 3 * (6 - nt)) 84 [.ref 40] (em_SH, I1, J, em_RT 14) Q' := fun x q I1 Q' hQ e1 e2 hg k1 k2 hok => by
        have kf : xf 14 I I1 := xf.law (by decide) (by decide) k1
        refine ce_accept (kx kf hx) (hc.keep (k1.1 _ (by decide) (by decide))) hg (fun z I2 a1 a2 a3 => ?_) (fun z I2 a1 a2 a3 a4 => ?_)
        · rw [if_pos z] at hok
          refine hQ 1 _ (Or.inr rfl) (hok I2 (kf.tr (a1.of a2)) a3 ?_)
          have := (k2 (by omega)).keep (a2 _ (by decide)) (a2 _ (by decide))
          rw [e2] at this
          rw [← e1] at this
          have eh : hp [q] = decide (q = (1, 8)) := by unfold hp; rw [List.any_cons, List.any_nil, Bool.or_false]
          show cw I2 14 (s ++ [cst q]) (lp || hp [q])
          rw [eh]
          exact this
        · rw [if_neg z] at hok
          exact hQ 0 _ (Or.inl rfl) (hok I2 (kf.tr (a1.of a2)) a3 a4)
      iterate 4 refine em_next rfl ?_
      refine em_c_neE hc.2.2.2 (y' := nI 2) rfl (fun z => ?_) (fun z => ?_)
      · have z2 : ¬ tk_K b L t = 2 := fun e => z (by rw [hck.1.mpr e])
        rw [if_neg z2] at h
        have rest : ¬ (32 ≤ tk_K b L t ∧ tk_K b L t ≤ 40) → em_wp em_sc0 (d + 3 * (6 - nt) + 1) 80 75 [some (.ref 40), some (.int (nI nt))] [] (em_SH, I, J, em_RT 14) Q := fun hv => by
          rw [if_neg hv] at h
          iterate 4 refine em_next rfl ?_
          refine em_c_eqE hc.2.2.2 (y' := nI 40) rfl (fun y => ?_) (fun y => ?_)
          · have y2 := hck.2.1.mp ((nI_eq (by omega) (by decide)).mp y)
            rw [if_neg (fun e => e y2)] at h
            iterate 3 refine em_next rfl ?_
            refine em_c_ltE rfl (y' := nI 6) rfl (fun w => ?_) (fun w => ?_)
            · have w2 := (nI_ltI (by omega) (by decide)).mp w
              rw [if_neg (by omega)] at h
              rw [show d + 3 * (6 - nt) + 1 = (d + 3 * (6 - (nt + 1)) + 3) + 1 by omega]
              iterate 1 refine em_next rfl ?_
              refine em_inv_call rfl (ce_accept hx hc (by omega) (fun z I2 a1 a2 a3 => ?_) (fun z I2 a1 a2 a3 a4 => ?_))
              · rw [if_pos z] at h
                iterate 1 refine em_next rfl ?_
                refine em_z_eq (fun q => absurd q (by decide)) (fun _ => ?_)
                iterate 3 refine em_next rfl ?_
                refine em_next rfl ?_
                have xf2 : xf 14 I I2 := a1.of a2
                have hx2 := kx xf2 hx
                refine em_tp (y := nI (nt + 1)) (by rw [nI_succ]; rfl) ?_
                refine em_inv_call rfl (is (nt + 1) (t + 1) I2 s lp _ d (by omega) (by unfold rd_nd; rw [if_neg (by decide), if_neg (by decide), if_pos rfl]; omega) hx2 a3 (hw.keep (a2 _ (by decide)) (a2 _ (by decide))) (by omega) ?_)
                cases hr : rd (tk_K b L) (tk_V b L) f 2 (nt + 1) (t + 1) with
                | inl e =>
                  rw [hr] at h
                  intro I3 b1 b2 b3
                  iterate 1 refine em_next rfl ?_
                  refine em_z_ne (fun q => absurd rfl q) (fun _ => ?_)
                  iterate 1 refine em_next rfl ?_
                  exact em_done rfl (h I3 (xf2.tr b1) b2 b3)
                | inr w =>
                  rw [hr] at h
                  intro I3 b1 b2 b3
                  have hck2 := ck_is (tk_K b L w.1) (kr b L w.1)
                  iterate 1 refine em_next rfl ?_
                  refine em_z_ne (fun _ => ?_) (fun q => absurd q (by decide))
                  iterate 4 refine em_next rfl ?_
                  refine em_c_neE b2.2.2.2 (y' := nI 41) rfl (fun y => ?_) (fun y => ?_)
                  · have y2 : ¬ tk_K b L w.1 = 7 := fun e => y (by rw [hck2.2.2.1.mpr e])
                    have h' : ce_ok b L 14 I J Q s lp (if tk_K b L w.1 = 7 then (if w.1 < 400 then .inr (w.1 + 1, w.2) else .inl (2, w.1)) else .inl (1, w.1)) := h
                    rw [if_neg y2] at h'
                    iterate 2 refine em_next rfl ?_
                    refine em_inv_call rfl (ce_refuse (k := 1) (kx (xf2.tr b1) hx) b2 (fun I4 c1 c2 c3 c4 => ?_))
                    exact em_done rfl (h' I4 ((xf2.tr b1).tr (c1.of c2)) c3 c4)
                  · have y2 := hck2.2.2.1.mp ((nI_eq (by omega) (by decide)).mp y)
                    have h' : ce_ok b L 14 I J Q s lp (if tk_K b L w.1 = 7 then (if w.1 < 400 then .inr (w.1 + 1, w.2) else .inl (2, w.1)) else .inl (1, w.1)) := h
                    rw [if_pos y2] at h'
                    iterate 1 refine em_next rfl ?_
                    refine em_inv_call rfl (ce_accept (kx (xf2.tr b1) hx) b2 (by omega) (fun z I4 c1 c2 c3 => ?_) (fun z I4 c1 c2 c3 c4 => ?_))
                    · rw [if_pos z] at h'
                      iterate 1 refine em_next rfl ?_
                      exact em_done rfl (h' I4 ((xf2.tr b1).tr (c1.of c2)) c3 (b3.keep (c2 _ (by decide)) (c2 _ (by decide))))
                    · rw [if_neg z] at h'
                      iterate 1 refine em_next rfl ?_
                      exact em_done rfl (h' I4 ((xf2.tr b1).tr (c1.of c2)) c3 c4)
              · rw [if_neg z] at h
                iterate 1 refine em_next rfl ?_
                refine em_z_eq (fun _ => ?_) (fun q => absurd rfl q)
                iterate 1 refine em_next rfl ?_
                exact em_done rfl (h I2 (a1.of a2) a3 a4)
            · have w2 : 6 ≤ nt := Nat.not_lt.mp (fun e => w (nI_lt e (by decide)))
              rw [if_pos w2] at h
              iterate 2 refine em_next rfl ?_
              refine em_inv_call rfl (ce_refuse (k := 2) hx hc (fun I2 a1 a2 a3 a4 => ?_))
              exact em_done rfl (h I2 (a1.of a2) a3 a4)
          · have y2 : ¬ tk_K b L t = 6 := fun e => y (by rw [hck.2.1.mpr e])
            rw [if_pos y2] at h
            iterate 2 refine em_next rfl ?_
            refine em_inv_call rfl (ce_refuse (k := 1) hx hc (fun I2 a1 a2 a3 a4 => ?_))
            exact em_done rfl (h I2 (a1.of a2) a3 a4)
        iterate 4 refine em_next rfl ?_
        refine em_c_ltE hc.2.2.2 (y' := nI 268) rfl (fun y => ?_) (fun y => ?_)
        · have := (nI_ltI (by omega) (by decide)).mp y
          exact rest (fun e => by have := hck.2.2.2.2.2.2.2.1.mpr e; omega)
        · have y1 : 268 ≤ ck (tk_K b L t) := Nat.not_lt.mp (fun e => y (nI_lt e (by omega)))
          iterate 4 refine em_next rfl ?_
          refine em_c_gtE hc.2.2.2 (y' := nI 276) rfl (fun w => ?_) (fun w => ?_)
          · have := (nI_ltI (by decide) (by omega)).mp w
            exact rest (fun e => by have := hck.2.2.2.2.2.2.2.1.mpr e; omega)
          · have w1 : ck (tk_K b L t) ≤ 276 := Nat.not_lt.mp (fun e => w (nI_lt e (by omega)))
            have hv := hck.2.2.2.2.2.2.2.1.mp ⟨y1, w1⟩
            have hs2 := hck.2.2.2.2.2.2.2.2.2.1 hv.1
            rw [if_pos hv] at h
            iterate 6 refine em_next rfl ?_
            refine em_next rfl ?_
            refine em_tp (y := nI (tk_K b L t - 32)) ?_ ?_
            · show I 40 5 - nI 268 = _
              rw [hc.2.2.2]
              have e := em_nadd (ck (tk_K b L t) - 268) 268
              rw [Nat.sub_add_cancel y1] at e
              rw [e, Int32.add_sub_cancel, hs2]
            iterate 1 refine em_next rfl ?_
            refine em_inv_call rfl (ce_add_draft_parts hw (fun I1 k1 k2 => ?_))
            iterate 1 refine em_next rfl ?_
            have h9 : ∀ x, x < 9 → (decide (-1 - nI x = -9) = decide (((1, x) : Nat × Nat) = (1, 8))) := by decide +kernel
            refine em_inv_call rfl (one (-1 - nI (tk_K b L t - 32)) (1, tk_K b L t - 32) I1 _ (fun v M hv q => em_done (if_pos (Or.inr (Or.inl ⟨rfl, hv⟩))) q) rfl (h9 _ (by omega)) (by omega) k1 k2 h)
      · have z2 := hck.1.mp ((nI_eq (by omega) (by decide)).mp z)
        have hT := hx.1 t (hx.lt ht hc.2.1)
        have v1 := hV t z2
        rw [if_pos z2] at h
        iterate 7 refine em_next rfl ?_
        refine em_lalE (k := t) rfl rfl hc.2.2.1 (by omega) (by decide) ?_
        refine em_tl (hT.2.2.1 z2) ?_
        iterate 1 refine em_next rfl ?_
        refine em_tp (lN_i (tk_V b L t)) ?_
        refine em_inv_call rfl (ce_add_draft_parts hw (fun I1 k1 k2 => ?_))
        iterate 1 refine em_next rfl ?_
        have hne : decide (nI (tk_V b L t) = -9) = false := decide_eq_false (fun e => by
          have h1 := nI_pos (n := tk_V b L t) (by omega)
          rw [e] at h1
          exact h1 (by decide))
        refine em_inv_call rfl (one (nI (tk_V b L t)) (0, tk_V b L t) I1 _ (fun v M hv q => em_done (if_pos (Or.inr (Or.inl ⟨rfl, hv⟩))) q) rfl (by rw [hne]; exact (decide_eq_false (fun e => by cases e)).symm) (by omega) k1 k2 h)
    · intro nt t I s lp Q d hnt hnd hx hc hw hsl h
      unfold rd_nd at hnd
      rw [if_neg (by decide), if_pos rfl] at hnd
      have ht := hc.1
      rw [rd, if_neg (by decide), if_pos rfl] at h
      iterate 2 refine em_next rfl ?_
      refine em_inv_call rfl (iu nt t I s lp _ d hnt (by unfold rd_nd; rw [if_pos rfl]; omega) hx hc hw hsl ?_)
      cases hr : rd (tk_K b L) (tk_V b L) f 0 nt t with
      | inl e =>
        rw [hr] at h
        intro I3 b1 b2 b3
        iterate 1 refine em_next rfl ?_
        refine em_z_ne (fun q => absurd rfl q) (fun _ => ?_)
        iterate 1 refine em_next rfl ?_
        exact em_done rfl (h I3 b1 b2 b3)
      | inr w =>
        rw [hr] at h
        intro I3 b1 b2 b3
        obtain ⟨⟨g1, g2, g3, g4⟩, -, -⟩ := rd_pr hV (by decide) hnt ht hr
        have g3' := g3 (by decide)
        iterate 1 refine em_next rfl ?_
        refine em_z_ne (fun _ => ?_) (fun q => absurd q (by decide))
        iterate 2 refine em_next rfl ?_
        refine ipt nt w.1 I3 _ (lp || hp w.2) Q d 0 none hnt (by unfold rd_nd; rw [if_neg (by decide), if_neg (by decide), if_neg (by decide)]; omega) (by omega) (kx b1 hx) b2 b3 (by rw [List.length_append, List.length_map]; omega) ?_
        have h' : ce_ok b L 14 I J Q s lp (rd_b (rd (tk_K b L) (tk_V b L) f 3 nt w.1) (fun t2 c2 => .inr (t2, w.2 ++ c2))) := h
        cases hr2 : rd (tk_K b L) (tk_V b L) f 3 nt w.1 with
        | inl e =>
          rw [hr2] at h'
          exact fun I5 e1 e2 e3 => h' I5 (b1.tr e1) e2 e3
        | inr u =>
          rw [hr2] at h'
          intro I5 e1 e2 e3
          refine h' I5 (b1.tr e1) e2 ?_
          show cw I5 14 (s ++ (w.2 ++ u.2).map cst) (lp || hp (w.2 ++ u.2))
          rw [hp_app, List.map_append, ← Bool.or_assoc]
          rw [List.append_assoc] at e3
          exact e3
    · intro nt t I s lp Q d hnt hnd hx hc hw hsl h
      unfold rd_nd at hnd
      rw [if_neg (by decide), if_neg (by decide), if_pos rfl] at hnd
      have ht := hc.1
      rw [rd, if_neg (by decide), if_neg (by decide), if_pos rfl] at h
      iterate 2 refine em_next rfl ?_
      refine em_inv_call rfl (ip nt t I s lp _ d hnt (by unfold rd_nd; rw [if_neg (by decide), if_pos rfl]; omega) hx hc hw hsl ?_)
      cases hr : rd (tk_K b L) (tk_V b L) f 1 nt t with
      | inl e =>
        rw [hr] at h
        intro I3 b1 b2 b3
        iterate 1 refine em_next rfl ?_
        refine em_z_ne (fun q => absurd rfl q) (fun _ => ?_)
        iterate 1 refine em_next rfl ?_
        exact em_done rfl (h I3 b1 b2 b3)
      | inr w =>
        rw [hr] at h
        intro I3 b1 b2 b3
        obtain ⟨⟨g1, g2, g3, g4⟩, -, -⟩ := rd_pr hV (by decide) hnt ht hr
        have g3' := g3 (by decide)
        iterate 1 refine em_next rfl ?_
        refine em_z_ne (fun _ => ?_) (fun q => absurd q (by decide))
        iterate 2 refine em_next rfl ?_
        refine ist nt w.1 I3 _ (lp || hp w.2) Q d 0 none hnt (by unfold rd_nd; rw [if_neg (by decide), if_neg (by decide), if_neg (by decide)]; omega) (by omega) (kx b1 hx) b2 b3 (by rw [List.length_append, List.length_map]; omega) ?_
        have h' : ce_ok b L 14 I J Q s lp (rd_b (rd (tk_K b L) (tk_V b L) f 4 nt w.1) (fun t2 c2 => .inr (t2, w.2 ++ c2))) := h
        cases hr2 : rd (tk_K b L) (tk_V b L) f 4 nt w.1 with
        | inl e =>
          rw [hr2] at h'
          exact fun I5 e1 e2 e3 => h' I5 (b1.tr e1) e2 e3
        | inr u =>
          rw [hr2] at h'
          intro I5 e1 e2 e3
          refine h' I5 (b1.tr e1) e2 ?_
          show cw I5 14 (s ++ (w.2 ++ u.2).map cst) (lp || hp (w.2 ++ u.2))
          rw [hp_app, List.map_append, ← Bool.or_assoc]
          rw [List.append_assoc] at e3
          exact e3
    · intro nt t I s lp Q d i o hnt hnd hit hx hc hw hsl h
      unfold rd_nd at hnd
      have hck := ck_is (tk_K b L t) (kr b L t)
      have ht := hc.1
      rw [rd, if_neg (by decide), if_neg (by decide), if_neg (by decide), if_pos rfl] at h
      have go : (tk_K b L t = 10 ∨ tk_K b L t = 15) → em_wp em_sc0 (d + 3 * (6 - nt) + 2) 79 37 [some (.ref 40), some (.int (nI nt)), some (.int (nI i)), o] [] (em_SH, I, J, em_RT 14) Q := fun hk => by
        rw [if_pos hk] at h
        iterate 2 refine em_next rfl ?_
        refine em_tp hc.2.2.2 ?_
        iterate 2 refine em_next rfl ?_
        refine em_inv_call rfl (ce_accept hx hc (by omega) (fun z I2 a1 a2 a3 => ?_) (fun z I2 a1 a2 a3 a4 => ?_))
        · rw [if_pos z] at h
          have xf2 : xf 14 I I2 := a1.of a2
          iterate 1 refine em_next rfl ?_
          refine em_z_eq (fun q => absurd q (by decide)) (fun _ => ?_)
          iterate 2 refine em_next rfl ?_
          refine em_inv_call rfl (iu nt (t + 1) I2 s lp _ d hnt (by unfold rd_nd; rw [if_pos rfl]; omega) (kx xf2 hx) a3 (hw.keep (a2 _ (by decide)) (a2 _ (by decide))) (by omega) ?_)
          cases hr : rd (tk_K b L) (tk_V b L) f 0 nt (t + 1) with
          | inl e =>
            rw [hr] at h
            intro I3 b1 b2 b3
            iterate 1 refine em_next rfl ?_
            refine em_z_ne (fun q => absurd rfl q) (fun _ => ?_)
            iterate 1 refine em_next rfl ?_
            exact em_done rfl (h I3 (xf2.tr b1) b2 b3)
          | inr w =>
            rw [hr] at h
            intro I3 b1 b2 b3
            obtain ⟨⟨g1, g2, g3, g4⟩, -, -⟩ := rd_pr hV (by decide) hnt (by omega) hr
            have g3' := g3 (by decide)
            have xf3 := xf2.tr b1
            iterate 1 refine em_next rfl ?_
            refine em_z_ne (fun _ => ?_) (fun q => absurd q (by decide))
            iterate 3 refine em_next rfl ?_
            refine em_inv_call rfl (ce_addSign_draft_parts (k := tk_K b L t) (by omega) b3 (by rw [List.length_append, List.length_map]; omega) (fun I4 c1 c2 => ?_))
            have xf4 : xf 14 I I4 := xf3.tr (xf.law (by decide) (by decide) c1)
            have g := ipt nt w.1 I4 _ (lp || hp w.2) Q d (i + 1) (some (.int (nI (ck (tk_K b L t))))) hnt (by unfold rd_nd; omega) (by omega) (kx xf4 hx) (b2.keep (c1.1 _ (by decide) (by decide))) c2 (by rw [List.length_append, List.length_append, List.length_map]; dsimp only [List.length]; omega) ?_
            · rw [nI_succ] at g
              iterate 2 refine em_next rfl ?_
              exact g
            cases hr2 : rd (tk_K b L) (tk_V b L) f 3 nt w.1 with
            | inl e =>
              have h' : ce_ok b L 14 I J Q s lp (rd_b (rd (tk_K b L) (tk_V b L) f 3 nt w.1) (fun t2 c2 => .inr (t2, w.2 ++ (rd_op (tk_K b L t), 0) :: c2))) := h
              rw [hr2] at h'
              exact fun I5 e1 e2 e3 => h' I5 (xf4.tr e1) e2 e3
            | inr u =>
              have h' : ce_ok b L 14 I J Q s lp (rd_b (rd (tk_K b L) (tk_V b L) f 3 nt w.1) (fun t2 c2 => .inr (t2, w.2 ++ (rd_op (tk_K b L t), 0) :: c2))) := h
              rw [hr2] at h'
              intro I5 e1 e2 e3
              refine h' I5 (xf4.tr e1) e2 ?_
              have eh : (lp || hp (w.2 ++ (rd_op (tk_K b L t), 0) :: u.2)) = (lp || hp w.2 || hp u.2) := by
                rw [hp_app, show hp ((rd_op (tk_K b L t), 0) :: u.2) = hp u.2 from hp_op _ _, Bool.or_assoc]
              show cw I5 14 (s ++ (w.2 ++ (rd_op (tk_K b L t), 0) :: u.2).map cst) (lp || hp (w.2 ++ (rd_op (tk_K b L t), 0) :: u.2))
              rw [eh, List.map_append, List.map_cons]
              rw [List.append_assoc, List.append_assoc] at e3
              exact e3
        · rw [if_neg z] at h
          iterate 1 refine em_next rfl ?_
          refine em_z_eq (fun _ => ?_) (fun q => absurd rfl q)
          iterate 1 refine em_next rfl ?_
          exact em_done rfl (h I2 (a1.of a2) a3 a4)
      iterate 3 refine em_next rfl ?_
      refine em_c_gtE rfl (y' := nI 400) rfl (fun z => absurd z (nI_nlt (by omega) (by decide))) (fun _ => ?_)
      iterate 4 refine em_next rfl ?_
      refine em_c_eqE hc.2.2.2 (y' := nI 42) rfl (fun y => ?_) (fun y => ?_)
      · exact go (Or.inl (hck.2.2.2.2.2.1.mp ((nI_eq (by omega) (by decide)).mp y)))
      · have y2 : ¬ tk_K b L t = 10 := fun e => y (by rw [hck.2.2.2.2.2.1.mpr e])
        iterate 4 refine em_next rfl ?_
        refine em_c_neE hc.2.2.2 (y' := nI 47) rfl (fun y => ?_) (fun y => ?_)
        · have y3 : ¬ tk_K b L t = 15 := fun e => y (by rw [hck.2.2.2.2.2.2.1.mpr e])
          rw [if_neg (fun e => e.elim y2 y3)] at h
          iterate 1 refine em_next rfl ?_
          refine em_done rfl (h I xf.rf hc ?_)
          show cw I 14 (s ++ []) (lp || hp [])
          rw [List.append_nil, show hp [] = false from rfl, Bool.or_false]
          exact hw
        · exact go (Or.inr (hck.2.2.2.2.2.2.1.mp ((nI_eq (by omega) (by decide)).mp y)))
    · intro nt t I s lp Q d i o hnt hnd hit hx hc hw hsl h
      unfold rd_nd at hnd
      have hck := ck_is (tk_K b L t) (kr b L t)
      have ht := hc.1
      rw [rd, if_neg (by decide), if_neg (by decide), if_neg (by decide), if_neg (by decide)] at h
      have go : (tk_K b L t = 8 ∨ tk_K b L t = 9) → em_wp em_sc0 (d + 3 * (6 - nt) + 3) 78 37 [some (.ref 40), some (.int (nI nt)), some (.int (nI i)), o] [] (em_SH, I, J, em_RT 14) Q := fun hk => by
        rw [if_pos hk] at h
        iterate 2 refine em_next rfl ?_
        refine em_tp hc.2.2.2 ?_
        iterate 2 refine em_next rfl ?_
        refine em_inv_call rfl (ce_accept hx hc (by omega) (fun z I2 a1 a2 a3 => ?_) (fun z I2 a1 a2 a3 a4 => ?_))
        · rw [if_pos z] at h
          have xf2 : xf 14 I I2 := a1.of a2
          iterate 1 refine em_next rfl ?_
          refine em_z_eq (fun q => absurd q (by decide)) (fun _ => ?_)
          iterate 2 refine em_next rfl ?_
          refine em_inv_call rfl (ip nt (t + 1) I2 s lp _ d hnt (by unfold rd_nd; rw [if_neg (by decide), if_pos rfl]; omega) (kx xf2 hx) a3 (hw.keep (a2 _ (by decide)) (a2 _ (by decide))) (by omega) ?_)
          cases hr : rd (tk_K b L) (tk_V b L) f 1 nt (t + 1) with
          | inl e =>
            rw [hr] at h
            intro I3 b1 b2 b3
            iterate 1 refine em_next rfl ?_
            refine em_z_ne (fun q => absurd rfl q) (fun _ => ?_)
            iterate 1 refine em_next rfl ?_
            exact em_done rfl (h I3 (xf2.tr b1) b2 b3)
          | inr w =>
            rw [hr] at h
            intro I3 b1 b2 b3
            obtain ⟨⟨g1, g2, g3, g4⟩, -, -⟩ := rd_pr hV (by decide) hnt (by omega) hr
            have g3' := g3 (by decide)
            have xf3 := xf2.tr b1
            iterate 1 refine em_next rfl ?_
            refine em_z_ne (fun _ => ?_) (fun q => absurd q (by decide))
            iterate 3 refine em_next rfl ?_
            refine em_inv_call rfl (ce_addSign_draft_parts (k := tk_K b L t) (by omega) b3 (by rw [List.length_append, List.length_map]; omega) (fun I4 c1 c2 => ?_))
            have xf4 : xf 14 I I4 := xf3.tr (xf.law (by decide) (by decide) c1)
            have g := ist nt w.1 I4 _ (lp || hp w.2) Q d (i + 1) (some (.int (nI (ck (tk_K b L t))))) hnt (by unfold rd_nd; omega) (by omega) (kx xf4 hx) (b2.keep (c1.1 _ (by decide) (by decide))) c2 (by rw [List.length_append, List.length_append, List.length_map]; dsimp only [List.length]; omega) ?_
            · rw [nI_succ] at g
              iterate 2 refine em_next rfl ?_
              exact g
            cases hr2 : rd (tk_K b L) (tk_V b L) f 4 nt w.1 with
            | inl e =>
              have h' : ce_ok b L 14 I J Q s lp (rd_b (rd (tk_K b L) (tk_V b L) f 4 nt w.1) (fun t2 c2 => .inr (t2, w.2 ++ (rd_op (tk_K b L t), 0) :: c2))) := h
              rw [hr2] at h'
              exact fun I5 e1 e2 e3 => h' I5 (xf4.tr e1) e2 e3
            | inr u =>
              have h' : ce_ok b L 14 I J Q s lp (rd_b (rd (tk_K b L) (tk_V b L) f 4 nt w.1) (fun t2 c2 => .inr (t2, w.2 ++ (rd_op (tk_K b L t), 0) :: c2))) := h
              rw [hr2] at h'
              intro I5 e1 e2 e3
              refine h' I5 (xf4.tr e1) e2 ?_
              have eh : (lp || hp (w.2 ++ (rd_op (tk_K b L t), 0) :: u.2)) = (lp || hp w.2 || hp u.2) := by
                rw [hp_app, show hp ((rd_op (tk_K b L t), 0) :: u.2) = hp u.2 from hp_op _ _, Bool.or_assoc]
              show cw I5 14 (s ++ (w.2 ++ (rd_op (tk_K b L t), 0) :: u.2).map cst) (lp || hp (w.2 ++ (rd_op (tk_K b L t), 0) :: u.2))
              rw [eh, List.map_append, List.map_cons]
              rw [List.append_assoc, List.append_assoc] at e3
              exact e3
        · rw [if_neg z] at h
          iterate 1 refine em_next rfl ?_
          refine em_z_eq (fun _ => ?_) (fun q => absurd rfl q)
          iterate 1 refine em_next rfl ?_
          exact em_done rfl (h I2 (a1.of a2) a3 a4)
      iterate 3 refine em_next rfl ?_
      refine em_c_gtE rfl (y' := nI 400) rfl (fun z => absurd z (nI_nlt (by omega) (by decide))) (fun _ => ?_)
      iterate 4 refine em_next rfl ?_
      refine em_c_eqE hc.2.2.2 (y' := nI 43) rfl (fun y => ?_) (fun y => ?_)
      · exact go (Or.inl (hck.2.2.2.1.mp ((nI_eq (by omega) (by decide)).mp y)))
      · have y2 : ¬ tk_K b L t = 8 := fun e => y (by rw [hck.2.2.2.1.mpr e])
        iterate 4 refine em_next rfl ?_
        refine em_c_neE hc.2.2.2 (y' := nI 45) rfl (fun y => ?_) (fun y => ?_)
        · have y3 : ¬ tk_K b L t = 9 := fun e => y (by rw [hck.2.2.2.2.1.mpr e])
          rw [if_neg (fun e => e.elim y2 y3)] at h
          iterate 1 refine em_next rfl ?_
          refine em_done rfl (h I xf.rf hc ?_)
          show cw I 14 (s ++ []) (lp || hp [])
          rw [List.append_nil, show hp [] = false from rfl, Bool.or_false]
          exact hw
        · exact go (Or.inr (hck.2.2.2.2.1.mp ((nI_eq (by omega) (by decide)).mp y)))
/-- a whole sum -/
theorem ce_sum_draft_parts {t : Nat} {I : Nat → Nat → Int32} {s : List Int32} {lp : Bool} {Q : Option Value → em_M → Prop} {d : Nat} (hx : cx b L n I J) (hc : cat b L t I) (hw : cw I 14 s lp) (hsl : s.length ≤ t) (h : ce_ok b L 14 I J Q s lp (rd_sum (tk_K b L) (tk_V b L) t)) : em_call (d + 21) 78 [.ref 40, .int (nI 0)] (em_SH, I, J, em_RT 14) Q := (ce_rd_draft_parts 1700).2.2.1 0 t I s lp Q d (by decide) (by unfold rd_nd; rw [if_neg (by decide), if_neg (by decide), if_pos rfl]; omega) hx hc hw hsl h
theorem ce_rd_draft_chills (f : Nat) :
    (∀ (nt t : Nat) (I : Nat → Nat → Int32) (s : List Int32) (lp : Bool) (Q : Option Value → em_M → Prop) (d : Nat), nt ≤ 6 → rd_nd 0 t ≤ f → cx b L n I J → cat b L t I → cw I 17 s lp → s.length ≤ t → ce_ok b L 17 I J Q s lp (rd (tk_K b L) (tk_V b L) f 0 nt t) → em_call (d + 3 * (6 - nt) + 1) 80 [.ref 40, .int (nI nt)] (em_SH, I, J, em_RT 17) Q) ∧
    (∀ (nt t : Nat) (I : Nat → Nat → Int32) (s : List Int32) (lp : Bool) (Q : Option Value → em_M → Prop) (d : Nat), nt ≤ 6 → rd_nd 1 t ≤ f → cx b L n I J → cat b L t I → cw I 17 s lp → s.length ≤ t → ce_ok b L 17 I J Q s lp (rd (tk_K b L) (tk_V b L) f 1 nt t) → em_call (d + 3 * (6 - nt) + 2) 79 [.ref 40, .int (nI nt)] (em_SH, I, J, em_RT 17) Q) ∧
    (∀ (nt t : Nat) (I : Nat → Nat → Int32) (s : List Int32) (lp : Bool) (Q : Option Value → em_M → Prop) (d : Nat), nt ≤ 6 → rd_nd 2 t ≤ f → cx b L n I J → cat b L t I → cw I 17 s lp → s.length ≤ t → ce_ok b L 17 I J Q s lp (rd (tk_K b L) (tk_V b L) f 2 nt t) → em_call (d + 3 * (6 - nt) + 3) 78 [.ref 40, .int (nI nt)] (em_SH, I, J, em_RT 17) Q) ∧
    (∀ (nt t : Nat) (I : Nat → Nat → Int32) (s : List Int32) (lp : Bool) (Q : Option Value → em_M → Prop) (d i : Nat) (o : Option Value), nt ≤ 6 → rd_nd 3 t ≤ f → i ≤ t → cx b L n I J → cat b L t I → cw I 17 s lp → s.length ≤ t → ce_ok b L 17 I J Q s lp (rd (tk_K b L) (tk_V b L) f 3 nt t) → em_wp em_sc0 (d + 3 * (6 - nt) + 2) 79 12 [some (.ref 40), some (.int (nI nt)), some (.int (nI i)), o] [] (em_SH, I, J, em_RT 17) Q) ∧
    (∀ (nt t : Nat) (I : Nat → Nat → Int32) (s : List Int32) (lp : Bool) (Q : Option Value → em_M → Prop) (d i : Nat) (o : Option Value), nt ≤ 6 → rd_nd 4 t ≤ f → i ≤ t → cx b L n I J → cat b L t I → cw I 17 s lp → s.length ≤ t → ce_ok b L 17 I J Q s lp (rd (tk_K b L) (tk_V b L) f 4 nt t) → em_wp em_sc0 (d + 3 * (6 - nt) + 3) 78 12 [some (.ref 40), some (.int (nI nt)), some (.int (nI i)), o] [] (em_SH, I, J, em_RT 17) Q) := by
  have hV : ∀ t, tk_K b L t = 2 → tk_V b L t < 10000 := fun t h => tk_V_lt h
  have kx : ∀ {I I' : Nat → Nat → Int32}, xf 17 I I' → cx b L n I J → cx b L n I' J := fun f h => h.keep (f.1 _ (by decide) (by decide) (by decide)) (f.1 _ (by decide) (by decide) (by decide)) rfl
  induction f with
  | zero => exact ⟨fun nt t _ _ _ _ _ _ h => by unfold rd_nd at h; rw [if_pos rfl] at h; omega, fun nt t _ _ _ _ _ _ h => by unfold rd_nd at h; rw [if_neg (by decide), if_pos rfl] at h; omega, fun nt t _ _ _ _ _ _ h => by unfold rd_nd at h; rw [if_neg (by decide), if_neg (by decide), if_pos rfl] at h; omega, fun nt t I s lp Q d i o _ h h2 h3 h4 => by unfold rd_nd at h; have := h4.1; omega, fun nt t I s lp Q d i o _ h h2 h3 h4 => by unfold rd_nd at h; have := h4.1; omega⟩
  | succ f ih =>
    obtain ⟨iu, ip, is, ipt, ist⟩ := ih
    refine ⟨?_, ?_, ?_, ?_, ?_⟩
    · intro nt t I s lp Q d hnt hnd hx hc hw hsl h
      unfold rd_nd at hnd
      rw [if_pos rfl] at hnd
      have hck := ck_is (tk_K b L t) (kr b L t)
      have ht := hc.1
      rw [rd, if_pos rfl] at h
      -- a token taken, its step added before
      have one : ∀ (x : Int32) (q : Nat × Nat) (I1 : Nat → Nat → Int32) (Q' : Option Value → em_M → Prop), (∀ (v : Int32) (M : em_M), (v = 0 ∨ v = 1) → Q (some (.int v)) M → Q' (some (.int v)) M) → cst q = x → decide (x = -9) = decide (q = (1, 8)) → ¬ tk_K b L t = 0 ∧ ¬ tk_K b L t = 3 → af 17 I I1 → (s.length < 400 → cw I1 17 (s ++ [x]) (lp || decide (x = -9))) → ce_ok b L 17 I J Q s lp (if t < 400 then .inr (t + 1, [q]) else .inl (2, t)) → em_call (d + 3 * (6 - nt)) 84 [.ref 40] (em_SH, I1, J, em_RT 17) Q' := fun x q I1 Q' hQ e1 e2 hg k1 k2 hok => by
        have kf : xf 17 I I1 := xf.law (by decide) (by decide) k1
        refine ce_accept (kx kf hx) (hc.keep (k1.1 _ (by decide) (by decide))) hg (fun z I2 a1 a2 a3 => ?_) (fun z I2 a1 a2 a3 a4 => ?_)
        · rw [if_pos z] at hok
          refine hQ 1 _ (Or.inr rfl) (hok I2 (kf.tr (a1.of a2)) a3 ?_)
          have := (k2 (by omega)).keep (a2 _ (by decide)) (a2 _ (by decide))
          rw [e2] at this
          rw [← e1] at this
          have eh : hp [q] = decide (q = (1, 8)) := by unfold hp; rw [List.any_cons, List.any_nil, Bool.or_false]
          show cw I2 17 (s ++ [cst q]) (lp || hp [q])
          rw [eh]
          exact this
        · rw [if_neg z] at hok
          exact hQ 0 _ (Or.inl rfl) (hok I2 (kf.tr (a1.of a2)) a3 a4)
      iterate 4 refine em_next rfl ?_
      refine em_c_neE hc.2.2.2 (y' := nI 2) rfl (fun z => ?_) (fun z => ?_)
      · have z2 : ¬ tk_K b L t = 2 := fun e => z (by rw [hck.1.mpr e])
        rw [if_neg z2] at h
        have rest : ¬ (32 ≤ tk_K b L t ∧ tk_K b L t ≤ 40) → em_wp em_sc0 (d + 3 * (6 - nt) + 1) 80 75 [some (.ref 40), some (.int (nI nt))] [] (em_SH, I, J, em_RT 17) Q := fun hv => by
          rw [if_neg hv] at h
          iterate 4 refine em_next rfl ?_
          refine em_c_eqE hc.2.2.2 (y' := nI 40) rfl (fun y => ?_) (fun y => ?_)
          · have y2 := hck.2.1.mp ((nI_eq (by omega) (by decide)).mp y)
            rw [if_neg (fun e => e y2)] at h
            iterate 3 refine em_next rfl ?_
            refine em_c_ltE rfl (y' := nI 6) rfl (fun w => ?_) (fun w => ?_)
            · have w2 := (nI_ltI (by omega) (by decide)).mp w
              rw [if_neg (by omega)] at h
              rw [show d + 3 * (6 - nt) + 1 = (d + 3 * (6 - (nt + 1)) + 3) + 1 by omega]
              iterate 1 refine em_next rfl ?_
              refine em_inv_call rfl (ce_accept hx hc (by omega) (fun z I2 a1 a2 a3 => ?_) (fun z I2 a1 a2 a3 a4 => ?_))
              · rw [if_pos z] at h
                iterate 1 refine em_next rfl ?_
                refine em_z_eq (fun q => absurd q (by decide)) (fun _ => ?_)
                iterate 3 refine em_next rfl ?_
                refine em_next rfl ?_
                have xf2 : xf 17 I I2 := a1.of a2
                have hx2 := kx xf2 hx
                refine em_tp (y := nI (nt + 1)) (by rw [nI_succ]; rfl) ?_
                refine em_inv_call rfl (is (nt + 1) (t + 1) I2 s lp _ d (by omega) (by unfold rd_nd; rw [if_neg (by decide), if_neg (by decide), if_pos rfl]; omega) hx2 a3 (hw.keep (a2 _ (by decide)) (a2 _ (by decide))) (by omega) ?_)
                cases hr : rd (tk_K b L) (tk_V b L) f 2 (nt + 1) (t + 1) with
                | inl e =>
                  rw [hr] at h
                  intro I3 b1 b2 b3
                  iterate 1 refine em_next rfl ?_
                  refine em_z_ne (fun q => absurd rfl q) (fun _ => ?_)
                  iterate 1 refine em_next rfl ?_
                  exact em_done rfl (h I3 (xf2.tr b1) b2 b3)
                | inr w =>
                  rw [hr] at h
                  intro I3 b1 b2 b3
                  have hck2 := ck_is (tk_K b L w.1) (kr b L w.1)
                  iterate 1 refine em_next rfl ?_
                  refine em_z_ne (fun _ => ?_) (fun q => absurd q (by decide))
                  iterate 4 refine em_next rfl ?_
                  refine em_c_neE b2.2.2.2 (y' := nI 41) rfl (fun y => ?_) (fun y => ?_)
                  · have y2 : ¬ tk_K b L w.1 = 7 := fun e => y (by rw [hck2.2.2.1.mpr e])
                    have h' : ce_ok b L 17 I J Q s lp (if tk_K b L w.1 = 7 then (if w.1 < 400 then .inr (w.1 + 1, w.2) else .inl (2, w.1)) else .inl (1, w.1)) := h
                    rw [if_neg y2] at h'
                    iterate 2 refine em_next rfl ?_
                    refine em_inv_call rfl (ce_refuse (k := 1) (kx (xf2.tr b1) hx) b2 (fun I4 c1 c2 c3 c4 => ?_))
                    exact em_done rfl (h' I4 ((xf2.tr b1).tr (c1.of c2)) c3 c4)
                  · have y2 := hck2.2.2.1.mp ((nI_eq (by omega) (by decide)).mp y)
                    have h' : ce_ok b L 17 I J Q s lp (if tk_K b L w.1 = 7 then (if w.1 < 400 then .inr (w.1 + 1, w.2) else .inl (2, w.1)) else .inl (1, w.1)) := h
                    rw [if_pos y2] at h'
                    iterate 1 refine em_next rfl ?_
                    refine em_inv_call rfl (ce_accept (kx (xf2.tr b1) hx) b2 (by omega) (fun z I4 c1 c2 c3 => ?_) (fun z I4 c1 c2 c3 c4 => ?_))
                    · rw [if_pos z] at h'
                      iterate 1 refine em_next rfl ?_
                      exact em_done rfl (h' I4 ((xf2.tr b1).tr (c1.of c2)) c3 (b3.keep (c2 _ (by decide)) (c2 _ (by decide))))
                    · rw [if_neg z] at h'
                      iterate 1 refine em_next rfl ?_
                      exact em_done rfl (h' I4 ((xf2.tr b1).tr (c1.of c2)) c3 c4)
              · rw [if_neg z] at h
                iterate 1 refine em_next rfl ?_
                refine em_z_eq (fun _ => ?_) (fun q => absurd rfl q)
                iterate 1 refine em_next rfl ?_
                exact em_done rfl (h I2 (a1.of a2) a3 a4)
            · have w2 : 6 ≤ nt := Nat.not_lt.mp (fun e => w (nI_lt e (by decide)))
              rw [if_pos w2] at h
              iterate 2 refine em_next rfl ?_
              refine em_inv_call rfl (ce_refuse (k := 2) hx hc (fun I2 a1 a2 a3 a4 => ?_))
              exact em_done rfl (h I2 (a1.of a2) a3 a4)
          · have y2 : ¬ tk_K b L t = 6 := fun e => y (by rw [hck.2.1.mpr e])
            rw [if_pos y2] at h
            iterate 2 refine em_next rfl ?_
            refine em_inv_call rfl (ce_refuse (k := 1) hx hc (fun I2 a1 a2 a3 a4 => ?_))
            exact em_done rfl (h I2 (a1.of a2) a3 a4)
        iterate 4 refine em_next rfl ?_
        refine em_c_ltE hc.2.2.2 (y' := nI 268) rfl (fun y => ?_) (fun y => ?_)
        · have := (nI_ltI (by omega) (by decide)).mp y
          exact rest (fun e => by have := hck.2.2.2.2.2.2.2.1.mpr e; omega)
        · have y1 : 268 ≤ ck (tk_K b L t) := Nat.not_lt.mp (fun e => y (nI_lt e (by omega)))
          iterate 4 refine em_next rfl ?_
          refine em_c_gtE hc.2.2.2 (y' := nI 276) rfl (fun w => ?_) (fun w => ?_)
          · have := (nI_ltI (by decide) (by omega)).mp w
            exact rest (fun e => by have := hck.2.2.2.2.2.2.2.1.mpr e; omega)
          · have w1 : ck (tk_K b L t) ≤ 276 := Nat.not_lt.mp (fun e => w (nI_lt e (by omega)))
            have hv := hck.2.2.2.2.2.2.2.1.mp ⟨y1, w1⟩
            have hs2 := hck.2.2.2.2.2.2.2.2.2.1 hv.1
            rw [if_pos hv] at h
            iterate 6 refine em_next rfl ?_
            refine em_next rfl ?_
            refine em_tp (y := nI (tk_K b L t - 32)) ?_ ?_
            · show I 40 5 - nI 268 = _
              rw [hc.2.2.2]
              have e := em_nadd (ck (tk_K b L t) - 268) 268
              rw [Nat.sub_add_cancel y1] at e
              rw [e, Int32.add_sub_cancel, hs2]
            iterate 1 refine em_next rfl ?_
            refine em_inv_call rfl (ce_add_draft_chills hw (fun I1 k1 k2 => ?_))
            iterate 1 refine em_next rfl ?_
            have h9 : ∀ x, x < 9 → (decide (-1 - nI x = -9) = decide (((1, x) : Nat × Nat) = (1, 8))) := by decide +kernel
            refine em_inv_call rfl (one (-1 - nI (tk_K b L t - 32)) (1, tk_K b L t - 32) I1 _ (fun v M hv q => em_done (if_pos (Or.inr (Or.inl ⟨rfl, hv⟩))) q) rfl (h9 _ (by omega)) (by omega) k1 k2 h)
      · have z2 := hck.1.mp ((nI_eq (by omega) (by decide)).mp z)
        have hT := hx.1 t (hx.lt ht hc.2.1)
        have v1 := hV t z2
        rw [if_pos z2] at h
        iterate 7 refine em_next rfl ?_
        refine em_lalE (k := t) rfl rfl hc.2.2.1 (by omega) (by decide) ?_
        refine em_tl (hT.2.2.1 z2) ?_
        iterate 1 refine em_next rfl ?_
        refine em_tp (lN_i (tk_V b L t)) ?_
        refine em_inv_call rfl (ce_add_draft_chills hw (fun I1 k1 k2 => ?_))
        iterate 1 refine em_next rfl ?_
        have hne : decide (nI (tk_V b L t) = -9) = false := decide_eq_false (fun e => by
          have h1 := nI_pos (n := tk_V b L t) (by omega)
          rw [e] at h1
          exact h1 (by decide))
        refine em_inv_call rfl (one (nI (tk_V b L t)) (0, tk_V b L t) I1 _ (fun v M hv q => em_done (if_pos (Or.inr (Or.inl ⟨rfl, hv⟩))) q) rfl (by rw [hne]; exact (decide_eq_false (fun e => by cases e)).symm) (by omega) k1 k2 h)
    · intro nt t I s lp Q d hnt hnd hx hc hw hsl h
      unfold rd_nd at hnd
      rw [if_neg (by decide), if_pos rfl] at hnd
      have ht := hc.1
      rw [rd, if_neg (by decide), if_pos rfl] at h
      iterate 2 refine em_next rfl ?_
      refine em_inv_call rfl (iu nt t I s lp _ d hnt (by unfold rd_nd; rw [if_pos rfl]; omega) hx hc hw hsl ?_)
      cases hr : rd (tk_K b L) (tk_V b L) f 0 nt t with
      | inl e =>
        rw [hr] at h
        intro I3 b1 b2 b3
        iterate 1 refine em_next rfl ?_
        refine em_z_ne (fun q => absurd rfl q) (fun _ => ?_)
        iterate 1 refine em_next rfl ?_
        exact em_done rfl (h I3 b1 b2 b3)
      | inr w =>
        rw [hr] at h
        intro I3 b1 b2 b3
        obtain ⟨⟨g1, g2, g3, g4⟩, -, -⟩ := rd_pr hV (by decide) hnt ht hr
        have g3' := g3 (by decide)
        iterate 1 refine em_next rfl ?_
        refine em_z_ne (fun _ => ?_) (fun q => absurd q (by decide))
        iterate 2 refine em_next rfl ?_
        refine ipt nt w.1 I3 _ (lp || hp w.2) Q d 0 none hnt (by unfold rd_nd; rw [if_neg (by decide), if_neg (by decide), if_neg (by decide)]; omega) (by omega) (kx b1 hx) b2 b3 (by rw [List.length_append, List.length_map]; omega) ?_
        have h' : ce_ok b L 17 I J Q s lp (rd_b (rd (tk_K b L) (tk_V b L) f 3 nt w.1) (fun t2 c2 => .inr (t2, w.2 ++ c2))) := h
        cases hr2 : rd (tk_K b L) (tk_V b L) f 3 nt w.1 with
        | inl e =>
          rw [hr2] at h'
          exact fun I5 e1 e2 e3 => h' I5 (b1.tr e1) e2 e3
        | inr u =>
          rw [hr2] at h'
          intro I5 e1 e2 e3
          refine h' I5 (b1.tr e1) e2 ?_
          show cw I5 17 (s ++ (w.2 ++ u.2).map cst) (lp || hp (w.2 ++ u.2))
          rw [hp_app, List.map_append, ← Bool.or_assoc]
          rw [List.append_assoc] at e3
          exact e3
    · intro nt t I s lp Q d hnt hnd hx hc hw hsl h
      unfold rd_nd at hnd
      rw [if_neg (by decide), if_neg (by decide), if_pos rfl] at hnd
      have ht := hc.1
      rw [rd, if_neg (by decide), if_neg (by decide), if_pos rfl] at h
      iterate 2 refine em_next rfl ?_
      refine em_inv_call rfl (ip nt t I s lp _ d hnt (by unfold rd_nd; rw [if_neg (by decide), if_pos rfl]; omega) hx hc hw hsl ?_)
      cases hr : rd (tk_K b L) (tk_V b L) f 1 nt t with
      | inl e =>
        rw [hr] at h
        intro I3 b1 b2 b3
        iterate 1 refine em_next rfl ?_
        refine em_z_ne (fun q => absurd rfl q) (fun _ => ?_)
        iterate 1 refine em_next rfl ?_
        exact em_done rfl (h I3 b1 b2 b3)
      | inr w =>
        rw [hr] at h
        intro I3 b1 b2 b3
        obtain ⟨⟨g1, g2, g3, g4⟩, -, -⟩ := rd_pr hV (by decide) hnt ht hr
        have g3' := g3 (by decide)
        iterate 1 refine em_next rfl ?_
        refine em_z_ne (fun _ => ?_) (fun q => absurd q (by decide))
        iterate 2 refine em_next rfl ?_
        refine ist nt w.1 I3 _ (lp || hp w.2) Q d 0 none hnt (by unfold rd_nd; rw [if_neg (by decide), if_neg (by decide), if_neg (by decide)]; omega) (by omega) (kx b1 hx) b2 b3 (by rw [List.length_append, List.length_map]; omega) ?_
        have h' : ce_ok b L 17 I J Q s lp (rd_b (rd (tk_K b L) (tk_V b L) f 4 nt w.1) (fun t2 c2 => .inr (t2, w.2 ++ c2))) := h
        cases hr2 : rd (tk_K b L) (tk_V b L) f 4 nt w.1 with
        | inl e =>
          rw [hr2] at h'
          exact fun I5 e1 e2 e3 => h' I5 (b1.tr e1) e2 e3
        | inr u =>
          rw [hr2] at h'
          intro I5 e1 e2 e3
          refine h' I5 (b1.tr e1) e2 ?_
          show cw I5 17 (s ++ (w.2 ++ u.2).map cst) (lp || hp (w.2 ++ u.2))
          rw [hp_app, List.map_append, ← Bool.or_assoc]
          rw [List.append_assoc] at e3
          exact e3
    · intro nt t I s lp Q d i o hnt hnd hit hx hc hw hsl h
      unfold rd_nd at hnd
      have hck := ck_is (tk_K b L t) (kr b L t)
      have ht := hc.1
      rw [rd, if_neg (by decide), if_neg (by decide), if_neg (by decide), if_pos rfl] at h
      have go : (tk_K b L t = 10 ∨ tk_K b L t = 15) → em_wp em_sc0 (d + 3 * (6 - nt) + 2) 79 37 [some (.ref 40), some (.int (nI nt)), some (.int (nI i)), o] [] (em_SH, I, J, em_RT 17) Q := fun hk => by
        rw [if_pos hk] at h
        iterate 2 refine em_next rfl ?_
        refine em_tp hc.2.2.2 ?_
        iterate 2 refine em_next rfl ?_
        refine em_inv_call rfl (ce_accept hx hc (by omega) (fun z I2 a1 a2 a3 => ?_) (fun z I2 a1 a2 a3 a4 => ?_))
        · rw [if_pos z] at h
          have xf2 : xf 17 I I2 := a1.of a2
          iterate 1 refine em_next rfl ?_
          refine em_z_eq (fun q => absurd q (by decide)) (fun _ => ?_)
          iterate 2 refine em_next rfl ?_
          refine em_inv_call rfl (iu nt (t + 1) I2 s lp _ d hnt (by unfold rd_nd; rw [if_pos rfl]; omega) (kx xf2 hx) a3 (hw.keep (a2 _ (by decide)) (a2 _ (by decide))) (by omega) ?_)
          cases hr : rd (tk_K b L) (tk_V b L) f 0 nt (t + 1) with
          | inl e =>
            rw [hr] at h
            intro I3 b1 b2 b3
            iterate 1 refine em_next rfl ?_
            refine em_z_ne (fun q => absurd rfl q) (fun _ => ?_)
            iterate 1 refine em_next rfl ?_
            exact em_done rfl (h I3 (xf2.tr b1) b2 b3)
          | inr w =>
            rw [hr] at h
            intro I3 b1 b2 b3
            obtain ⟨⟨g1, g2, g3, g4⟩, -, -⟩ := rd_pr hV (by decide) hnt (by omega) hr
            have g3' := g3 (by decide)
            have xf3 := xf2.tr b1
            iterate 1 refine em_next rfl ?_
            refine em_z_ne (fun _ => ?_) (fun q => absurd q (by decide))
            iterate 3 refine em_next rfl ?_
            refine em_inv_call rfl (ce_addSign_draft_chills (k := tk_K b L t) (by omega) b3 (by rw [List.length_append, List.length_map]; omega) (fun I4 c1 c2 => ?_))
            have xf4 : xf 17 I I4 := xf3.tr (xf.law (by decide) (by decide) c1)
            have g := ipt nt w.1 I4 _ (lp || hp w.2) Q d (i + 1) (some (.int (nI (ck (tk_K b L t))))) hnt (by unfold rd_nd; omega) (by omega) (kx xf4 hx) (b2.keep (c1.1 _ (by decide) (by decide))) c2 (by rw [List.length_append, List.length_append, List.length_map]; dsimp only [List.length]; omega) ?_
            · rw [nI_succ] at g
              iterate 2 refine em_next rfl ?_
              exact g
            cases hr2 : rd (tk_K b L) (tk_V b L) f 3 nt w.1 with
            | inl e =>
              have h' : ce_ok b L 17 I J Q s lp (rd_b (rd (tk_K b L) (tk_V b L) f 3 nt w.1) (fun t2 c2 => .inr (t2, w.2 ++ (rd_op (tk_K b L t), 0) :: c2))) := h
              rw [hr2] at h'
              exact fun I5 e1 e2 e3 => h' I5 (xf4.tr e1) e2 e3
            | inr u =>
              have h' : ce_ok b L 17 I J Q s lp (rd_b (rd (tk_K b L) (tk_V b L) f 3 nt w.1) (fun t2 c2 => .inr (t2, w.2 ++ (rd_op (tk_K b L t), 0) :: c2))) := h
              rw [hr2] at h'
              intro I5 e1 e2 e3
              refine h' I5 (xf4.tr e1) e2 ?_
              have eh : (lp || hp (w.2 ++ (rd_op (tk_K b L t), 0) :: u.2)) = (lp || hp w.2 || hp u.2) := by
                rw [hp_app, show hp ((rd_op (tk_K b L t), 0) :: u.2) = hp u.2 from hp_op _ _, Bool.or_assoc]
              show cw I5 17 (s ++ (w.2 ++ (rd_op (tk_K b L t), 0) :: u.2).map cst) (lp || hp (w.2 ++ (rd_op (tk_K b L t), 0) :: u.2))
              rw [eh, List.map_append, List.map_cons]
              rw [List.append_assoc, List.append_assoc] at e3
              exact e3
        · rw [if_neg z] at h
          iterate 1 refine em_next rfl ?_
          refine em_z_eq (fun _ => ?_) (fun q => absurd rfl q)
          iterate 1 refine em_next rfl ?_
          exact em_done rfl (h I2 (a1.of a2) a3 a4)
      iterate 3 refine em_next rfl ?_
      refine em_c_gtE rfl (y' := nI 400) rfl (fun z => absurd z (nI_nlt (by omega) (by decide))) (fun _ => ?_)
      iterate 4 refine em_next rfl ?_
      refine em_c_eqE hc.2.2.2 (y' := nI 42) rfl (fun y => ?_) (fun y => ?_)
      · exact go (Or.inl (hck.2.2.2.2.2.1.mp ((nI_eq (by omega) (by decide)).mp y)))
      · have y2 : ¬ tk_K b L t = 10 := fun e => y (by rw [hck.2.2.2.2.2.1.mpr e])
        iterate 4 refine em_next rfl ?_
        refine em_c_neE hc.2.2.2 (y' := nI 47) rfl (fun y => ?_) (fun y => ?_)
        · have y3 : ¬ tk_K b L t = 15 := fun e => y (by rw [hck.2.2.2.2.2.2.1.mpr e])
          rw [if_neg (fun e => e.elim y2 y3)] at h
          iterate 1 refine em_next rfl ?_
          refine em_done rfl (h I xf.rf hc ?_)
          show cw I 17 (s ++ []) (lp || hp [])
          rw [List.append_nil, show hp [] = false from rfl, Bool.or_false]
          exact hw
        · exact go (Or.inr (hck.2.2.2.2.2.2.1.mp ((nI_eq (by omega) (by decide)).mp y)))
    · intro nt t I s lp Q d i o hnt hnd hit hx hc hw hsl h
      unfold rd_nd at hnd
      have hck := ck_is (tk_K b L t) (kr b L t)
      have ht := hc.1
      rw [rd, if_neg (by decide), if_neg (by decide), if_neg (by decide), if_neg (by decide)] at h
      have go : (tk_K b L t = 8 ∨ tk_K b L t = 9) → em_wp em_sc0 (d + 3 * (6 - nt) + 3) 78 37 [some (.ref 40), some (.int (nI nt)), some (.int (nI i)), o] [] (em_SH, I, J, em_RT 17) Q := fun hk => by
        rw [if_pos hk] at h
        iterate 2 refine em_next rfl ?_
        refine em_tp hc.2.2.2 ?_
        iterate 2 refine em_next rfl ?_
        refine em_inv_call rfl (ce_accept hx hc (by omega) (fun z I2 a1 a2 a3 => ?_) (fun z I2 a1 a2 a3 a4 => ?_))
        · rw [if_pos z] at h
          have xf2 : xf 17 I I2 := a1.of a2
          iterate 1 refine em_next rfl ?_
          refine em_z_eq (fun q => absurd q (by decide)) (fun _ => ?_)
          iterate 2 refine em_next rfl ?_
          refine em_inv_call rfl (ip nt (t + 1) I2 s lp _ d hnt (by unfold rd_nd; rw [if_neg (by decide), if_pos rfl]; omega) (kx xf2 hx) a3 (hw.keep (a2 _ (by decide)) (a2 _ (by decide))) (by omega) ?_)
          cases hr : rd (tk_K b L) (tk_V b L) f 1 nt (t + 1) with
          | inl e =>
            rw [hr] at h
            intro I3 b1 b2 b3
            iterate 1 refine em_next rfl ?_
            refine em_z_ne (fun q => absurd rfl q) (fun _ => ?_)
            iterate 1 refine em_next rfl ?_
            exact em_done rfl (h I3 (xf2.tr b1) b2 b3)
          | inr w =>
            rw [hr] at h
            intro I3 b1 b2 b3
            obtain ⟨⟨g1, g2, g3, g4⟩, -, -⟩ := rd_pr hV (by decide) hnt (by omega) hr
            have g3' := g3 (by decide)
            have xf3 := xf2.tr b1
            iterate 1 refine em_next rfl ?_
            refine em_z_ne (fun _ => ?_) (fun q => absurd q (by decide))
            iterate 3 refine em_next rfl ?_
            refine em_inv_call rfl (ce_addSign_draft_chills (k := tk_K b L t) (by omega) b3 (by rw [List.length_append, List.length_map]; omega) (fun I4 c1 c2 => ?_))
            have xf4 : xf 17 I I4 := xf3.tr (xf.law (by decide) (by decide) c1)
            have g := ist nt w.1 I4 _ (lp || hp w.2) Q d (i + 1) (some (.int (nI (ck (tk_K b L t))))) hnt (by unfold rd_nd; omega) (by omega) (kx xf4 hx) (b2.keep (c1.1 _ (by decide) (by decide))) c2 (by rw [List.length_append, List.length_append, List.length_map]; dsimp only [List.length]; omega) ?_
            · rw [nI_succ] at g
              iterate 2 refine em_next rfl ?_
              exact g
            cases hr2 : rd (tk_K b L) (tk_V b L) f 4 nt w.1 with
            | inl e =>
              have h' : ce_ok b L 17 I J Q s lp (rd_b (rd (tk_K b L) (tk_V b L) f 4 nt w.1) (fun t2 c2 => .inr (t2, w.2 ++ (rd_op (tk_K b L t), 0) :: c2))) := h
              rw [hr2] at h'
              exact fun I5 e1 e2 e3 => h' I5 (xf4.tr e1) e2 e3
            | inr u =>
              have h' : ce_ok b L 17 I J Q s lp (rd_b (rd (tk_K b L) (tk_V b L) f 4 nt w.1) (fun t2 c2 => .inr (t2, w.2 ++ (rd_op (tk_K b L t), 0) :: c2))) := h
              rw [hr2] at h'
              intro I5 e1 e2 e3
              refine h' I5 (xf4.tr e1) e2 ?_
              have eh : (lp || hp (w.2 ++ (rd_op (tk_K b L t), 0) :: u.2)) = (lp || hp w.2 || hp u.2) := by
                rw [hp_app, show hp ((rd_op (tk_K b L t), 0) :: u.2) = hp u.2 from hp_op _ _, Bool.or_assoc]
              show cw I5 17 (s ++ (w.2 ++ (rd_op (tk_K b L t), 0) :: u.2).map cst) (lp || hp (w.2 ++ (rd_op (tk_K b L t), 0) :: u.2))
              rw [eh, List.map_append, List.map_cons]
              rw [List.append_assoc, List.append_assoc] at e3
              exact e3
        · rw [if_neg z] at h
          iterate 1 refine em_next rfl ?_
          refine em_z_eq (fun _ => ?_) (fun q => absurd rfl q)
          iterate 1 refine em_next rfl ?_
          exact em_done rfl (h I2 (a1.of a2) a3 a4)
      iterate 3 refine em_next rfl ?_
      refine em_c_gtE rfl (y' := nI 400) rfl (fun z => absurd z (nI_nlt (by omega) (by decide))) (fun _ => ?_)
      iterate 4 refine em_next rfl ?_
      refine em_c_eqE hc.2.2.2 (y' := nI 43) rfl (fun y => ?_) (fun y => ?_)
      · exact go (Or.inl (hck.2.2.2.1.mp ((nI_eq (by omega) (by decide)).mp y)))
      · have y2 : ¬ tk_K b L t = 8 := fun e => y (by rw [hck.2.2.2.1.mpr e])
        iterate 4 refine em_next rfl ?_
        refine em_c_neE hc.2.2.2 (y' := nI 45) rfl (fun y => ?_) (fun y => ?_)
        · have y3 : ¬ tk_K b L t = 9 := fun e => y (by rw [hck.2.2.2.2.1.mpr e])
          rw [if_neg (fun e => e.elim y2 y3)] at h
          iterate 1 refine em_next rfl ?_
          refine em_done rfl (h I xf.rf hc ?_)
          show cw I 17 (s ++ []) (lp || hp [])
          rw [List.append_nil, show hp [] = false from rfl, Bool.or_false]
          exact hw
        · exact go (Or.inr (hck.2.2.2.2.1.mp ((nI_eq (by omega) (by decide)).mp y)))
/-- a whole sum -/
theorem ce_sum_draft_chills {t : Nat} {I : Nat → Nat → Int32} {s : List Int32} {lp : Bool} {Q : Option Value → em_M → Prop} {d : Nat} (hx : cx b L n I J) (hc : cat b L t I) (hw : cw I 17 s lp) (hsl : s.length ≤ t) (h : ce_ok b L 17 I J Q s lp (rd_sum (tk_K b L) (tk_V b L) t)) : em_call (d + 21) 78 [.ref 40, .int (nI 0)] (em_SH, I, J, em_RT 17) Q := (ce_rd_draft_chills 1700).2.2.1 0 t I s lp Q d (by decide) (by unfold rd_nd; rw [if_neg (by decide), if_neg (by decide), if_pos rfl]; omega) hx hc hw hsl h
theorem ce_rd_draft_costs (f : Nat) :
    (∀ (nt t : Nat) (I : Nat → Nat → Int32) (s : List Int32) (lp : Bool) (Q : Option Value → em_M → Prop) (d : Nat), nt ≤ 6 → rd_nd 0 t ≤ f → cx b L n I J → cat b L t I → cw I 20 s lp → s.length ≤ t → ce_ok b L 20 I J Q s lp (rd (tk_K b L) (tk_V b L) f 0 nt t) → em_call (d + 3 * (6 - nt) + 1) 80 [.ref 40, .int (nI nt)] (em_SH, I, J, em_RT 20) Q) ∧
    (∀ (nt t : Nat) (I : Nat → Nat → Int32) (s : List Int32) (lp : Bool) (Q : Option Value → em_M → Prop) (d : Nat), nt ≤ 6 → rd_nd 1 t ≤ f → cx b L n I J → cat b L t I → cw I 20 s lp → s.length ≤ t → ce_ok b L 20 I J Q s lp (rd (tk_K b L) (tk_V b L) f 1 nt t) → em_call (d + 3 * (6 - nt) + 2) 79 [.ref 40, .int (nI nt)] (em_SH, I, J, em_RT 20) Q) ∧
    (∀ (nt t : Nat) (I : Nat → Nat → Int32) (s : List Int32) (lp : Bool) (Q : Option Value → em_M → Prop) (d : Nat), nt ≤ 6 → rd_nd 2 t ≤ f → cx b L n I J → cat b L t I → cw I 20 s lp → s.length ≤ t → ce_ok b L 20 I J Q s lp (rd (tk_K b L) (tk_V b L) f 2 nt t) → em_call (d + 3 * (6 - nt) + 3) 78 [.ref 40, .int (nI nt)] (em_SH, I, J, em_RT 20) Q) ∧
    (∀ (nt t : Nat) (I : Nat → Nat → Int32) (s : List Int32) (lp : Bool) (Q : Option Value → em_M → Prop) (d i : Nat) (o : Option Value), nt ≤ 6 → rd_nd 3 t ≤ f → i ≤ t → cx b L n I J → cat b L t I → cw I 20 s lp → s.length ≤ t → ce_ok b L 20 I J Q s lp (rd (tk_K b L) (tk_V b L) f 3 nt t) → em_wp em_sc0 (d + 3 * (6 - nt) + 2) 79 12 [some (.ref 40), some (.int (nI nt)), some (.int (nI i)), o] [] (em_SH, I, J, em_RT 20) Q) ∧
    (∀ (nt t : Nat) (I : Nat → Nat → Int32) (s : List Int32) (lp : Bool) (Q : Option Value → em_M → Prop) (d i : Nat) (o : Option Value), nt ≤ 6 → rd_nd 4 t ≤ f → i ≤ t → cx b L n I J → cat b L t I → cw I 20 s lp → s.length ≤ t → ce_ok b L 20 I J Q s lp (rd (tk_K b L) (tk_V b L) f 4 nt t) → em_wp em_sc0 (d + 3 * (6 - nt) + 3) 78 12 [some (.ref 40), some (.int (nI nt)), some (.int (nI i)), o] [] (em_SH, I, J, em_RT 20) Q) := by
  have hV : ∀ t, tk_K b L t = 2 → tk_V b L t < 10000 := fun t h => tk_V_lt h
  have kx : ∀ {I I' : Nat → Nat → Int32}, xf 20 I I' → cx b L n I J → cx b L n I' J := fun f h => h.keep (f.1 _ (by decide) (by decide) (by decide)) (f.1 _ (by decide) (by decide) (by decide)) rfl
  induction f with
  | zero => exact ⟨fun nt t _ _ _ _ _ _ h => by unfold rd_nd at h; rw [if_pos rfl] at h; omega, fun nt t _ _ _ _ _ _ h => by unfold rd_nd at h; rw [if_neg (by decide), if_pos rfl] at h; omega, fun nt t _ _ _ _ _ _ h => by unfold rd_nd at h; rw [if_neg (by decide), if_neg (by decide), if_pos rfl] at h; omega, fun nt t I s lp Q d i o _ h h2 h3 h4 => by unfold rd_nd at h; have := h4.1; omega, fun nt t I s lp Q d i o _ h h2 h3 h4 => by unfold rd_nd at h; have := h4.1; omega⟩
  | succ f ih =>
    obtain ⟨iu, ip, is, ipt, ist⟩ := ih
    refine ⟨?_, ?_, ?_, ?_, ?_⟩
    · intro nt t I s lp Q d hnt hnd hx hc hw hsl h
      unfold rd_nd at hnd
      rw [if_pos rfl] at hnd
      have hck := ck_is (tk_K b L t) (kr b L t)
      have ht := hc.1
      rw [rd, if_pos rfl] at h
      -- a token taken, its step added before
      have one : ∀ (x : Int32) (q : Nat × Nat) (I1 : Nat → Nat → Int32) (Q' : Option Value → em_M → Prop), (∀ (v : Int32) (M : em_M), (v = 0 ∨ v = 1) → Q (some (.int v)) M → Q' (some (.int v)) M) → cst q = x → decide (x = -9) = decide (q = (1, 8)) → ¬ tk_K b L t = 0 ∧ ¬ tk_K b L t = 3 → af 20 I I1 → (s.length < 400 → cw I1 20 (s ++ [x]) (lp || decide (x = -9))) → ce_ok b L 20 I J Q s lp (if t < 400 then .inr (t + 1, [q]) else .inl (2, t)) → em_call (d + 3 * (6 - nt)) 84 [.ref 40] (em_SH, I1, J, em_RT 20) Q' := fun x q I1 Q' hQ e1 e2 hg k1 k2 hok => by
        have kf : xf 20 I I1 := xf.law (by decide) (by decide) k1
        refine ce_accept (kx kf hx) (hc.keep (k1.1 _ (by decide) (by decide))) hg (fun z I2 a1 a2 a3 => ?_) (fun z I2 a1 a2 a3 a4 => ?_)
        · rw [if_pos z] at hok
          refine hQ 1 _ (Or.inr rfl) (hok I2 (kf.tr (a1.of a2)) a3 ?_)
          have := (k2 (by omega)).keep (a2 _ (by decide)) (a2 _ (by decide))
          rw [e2] at this
          rw [← e1] at this
          have eh : hp [q] = decide (q = (1, 8)) := by unfold hp; rw [List.any_cons, List.any_nil, Bool.or_false]
          show cw I2 20 (s ++ [cst q]) (lp || hp [q])
          rw [eh]
          exact this
        · rw [if_neg z] at hok
          exact hQ 0 _ (Or.inl rfl) (hok I2 (kf.tr (a1.of a2)) a3 a4)
      iterate 4 refine em_next rfl ?_
      refine em_c_neE hc.2.2.2 (y' := nI 2) rfl (fun z => ?_) (fun z => ?_)
      · have z2 : ¬ tk_K b L t = 2 := fun e => z (by rw [hck.1.mpr e])
        rw [if_neg z2] at h
        have rest : ¬ (32 ≤ tk_K b L t ∧ tk_K b L t ≤ 40) → em_wp em_sc0 (d + 3 * (6 - nt) + 1) 80 75 [some (.ref 40), some (.int (nI nt))] [] (em_SH, I, J, em_RT 20) Q := fun hv => by
          rw [if_neg hv] at h
          iterate 4 refine em_next rfl ?_
          refine em_c_eqE hc.2.2.2 (y' := nI 40) rfl (fun y => ?_) (fun y => ?_)
          · have y2 := hck.2.1.mp ((nI_eq (by omega) (by decide)).mp y)
            rw [if_neg (fun e => e y2)] at h
            iterate 3 refine em_next rfl ?_
            refine em_c_ltE rfl (y' := nI 6) rfl (fun w => ?_) (fun w => ?_)
            · have w2 := (nI_ltI (by omega) (by decide)).mp w
              rw [if_neg (by omega)] at h
              rw [show d + 3 * (6 - nt) + 1 = (d + 3 * (6 - (nt + 1)) + 3) + 1 by omega]
              iterate 1 refine em_next rfl ?_
              refine em_inv_call rfl (ce_accept hx hc (by omega) (fun z I2 a1 a2 a3 => ?_) (fun z I2 a1 a2 a3 a4 => ?_))
              · rw [if_pos z] at h
                iterate 1 refine em_next rfl ?_
                refine em_z_eq (fun q => absurd q (by decide)) (fun _ => ?_)
                iterate 3 refine em_next rfl ?_
                refine em_next rfl ?_
                have xf2 : xf 20 I I2 := a1.of a2
                have hx2 := kx xf2 hx
                refine em_tp (y := nI (nt + 1)) (by rw [nI_succ]; rfl) ?_
                refine em_inv_call rfl (is (nt + 1) (t + 1) I2 s lp _ d (by omega) (by unfold rd_nd; rw [if_neg (by decide), if_neg (by decide), if_pos rfl]; omega) hx2 a3 (hw.keep (a2 _ (by decide)) (a2 _ (by decide))) (by omega) ?_)
                cases hr : rd (tk_K b L) (tk_V b L) f 2 (nt + 1) (t + 1) with
                | inl e =>
                  rw [hr] at h
                  intro I3 b1 b2 b3
                  iterate 1 refine em_next rfl ?_
                  refine em_z_ne (fun q => absurd rfl q) (fun _ => ?_)
                  iterate 1 refine em_next rfl ?_
                  exact em_done rfl (h I3 (xf2.tr b1) b2 b3)
                | inr w =>
                  rw [hr] at h
                  intro I3 b1 b2 b3
                  have hck2 := ck_is (tk_K b L w.1) (kr b L w.1)
                  iterate 1 refine em_next rfl ?_
                  refine em_z_ne (fun _ => ?_) (fun q => absurd q (by decide))
                  iterate 4 refine em_next rfl ?_
                  refine em_c_neE b2.2.2.2 (y' := nI 41) rfl (fun y => ?_) (fun y => ?_)
                  · have y2 : ¬ tk_K b L w.1 = 7 := fun e => y (by rw [hck2.2.2.1.mpr e])
                    have h' : ce_ok b L 20 I J Q s lp (if tk_K b L w.1 = 7 then (if w.1 < 400 then .inr (w.1 + 1, w.2) else .inl (2, w.1)) else .inl (1, w.1)) := h
                    rw [if_neg y2] at h'
                    iterate 2 refine em_next rfl ?_
                    refine em_inv_call rfl (ce_refuse (k := 1) (kx (xf2.tr b1) hx) b2 (fun I4 c1 c2 c3 c4 => ?_))
                    exact em_done rfl (h' I4 ((xf2.tr b1).tr (c1.of c2)) c3 c4)
                  · have y2 := hck2.2.2.1.mp ((nI_eq (by omega) (by decide)).mp y)
                    have h' : ce_ok b L 20 I J Q s lp (if tk_K b L w.1 = 7 then (if w.1 < 400 then .inr (w.1 + 1, w.2) else .inl (2, w.1)) else .inl (1, w.1)) := h
                    rw [if_pos y2] at h'
                    iterate 1 refine em_next rfl ?_
                    refine em_inv_call rfl (ce_accept (kx (xf2.tr b1) hx) b2 (by omega) (fun z I4 c1 c2 c3 => ?_) (fun z I4 c1 c2 c3 c4 => ?_))
                    · rw [if_pos z] at h'
                      iterate 1 refine em_next rfl ?_
                      exact em_done rfl (h' I4 ((xf2.tr b1).tr (c1.of c2)) c3 (b3.keep (c2 _ (by decide)) (c2 _ (by decide))))
                    · rw [if_neg z] at h'
                      iterate 1 refine em_next rfl ?_
                      exact em_done rfl (h' I4 ((xf2.tr b1).tr (c1.of c2)) c3 c4)
              · rw [if_neg z] at h
                iterate 1 refine em_next rfl ?_
                refine em_z_eq (fun _ => ?_) (fun q => absurd rfl q)
                iterate 1 refine em_next rfl ?_
                exact em_done rfl (h I2 (a1.of a2) a3 a4)
            · have w2 : 6 ≤ nt := Nat.not_lt.mp (fun e => w (nI_lt e (by decide)))
              rw [if_pos w2] at h
              iterate 2 refine em_next rfl ?_
              refine em_inv_call rfl (ce_refuse (k := 2) hx hc (fun I2 a1 a2 a3 a4 => ?_))
              exact em_done rfl (h I2 (a1.of a2) a3 a4)
          · have y2 : ¬ tk_K b L t = 6 := fun e => y (by rw [hck.2.1.mpr e])
            rw [if_pos y2] at h
            iterate 2 refine em_next rfl ?_
            refine em_inv_call rfl (ce_refuse (k := 1) hx hc (fun I2 a1 a2 a3 a4 => ?_))
            exact em_done rfl (h I2 (a1.of a2) a3 a4)
        iterate 4 refine em_next rfl ?_
        refine em_c_ltE hc.2.2.2 (y' := nI 268) rfl (fun y => ?_) (fun y => ?_)
        · have := (nI_ltI (by omega) (by decide)).mp y
          exact rest (fun e => by have := hck.2.2.2.2.2.2.2.1.mpr e; omega)
        · have y1 : 268 ≤ ck (tk_K b L t) := Nat.not_lt.mp (fun e => y (nI_lt e (by omega)))
          iterate 4 refine em_next rfl ?_
          refine em_c_gtE hc.2.2.2 (y' := nI 276) rfl (fun w => ?_) (fun w => ?_)
          · have := (nI_ltI (by decide) (by omega)).mp w
            exact rest (fun e => by have := hck.2.2.2.2.2.2.2.1.mpr e; omega)
          · have w1 : ck (tk_K b L t) ≤ 276 := Nat.not_lt.mp (fun e => w (nI_lt e (by omega)))
            have hv := hck.2.2.2.2.2.2.2.1.mp ⟨y1, w1⟩
            have hs2 := hck.2.2.2.2.2.2.2.2.2.1 hv.1
            rw [if_pos hv] at h
            iterate 6 refine em_next rfl ?_
            refine em_next rfl ?_
            refine em_tp (y := nI (tk_K b L t - 32)) ?_ ?_
            · show I 40 5 - nI 268 = _
              rw [hc.2.2.2]
              have e := em_nadd (ck (tk_K b L t) - 268) 268
              rw [Nat.sub_add_cancel y1] at e
              rw [e, Int32.add_sub_cancel, hs2]
            iterate 1 refine em_next rfl ?_
            refine em_inv_call rfl (ce_add_draft_costs hw (fun I1 k1 k2 => ?_))
            iterate 1 refine em_next rfl ?_
            have h9 : ∀ x, x < 9 → (decide (-1 - nI x = -9) = decide (((1, x) : Nat × Nat) = (1, 8))) := by decide +kernel
            refine em_inv_call rfl (one (-1 - nI (tk_K b L t - 32)) (1, tk_K b L t - 32) I1 _ (fun v M hv q => em_done (if_pos (Or.inr (Or.inl ⟨rfl, hv⟩))) q) rfl (h9 _ (by omega)) (by omega) k1 k2 h)
      · have z2 := hck.1.mp ((nI_eq (by omega) (by decide)).mp z)
        have hT := hx.1 t (hx.lt ht hc.2.1)
        have v1 := hV t z2
        rw [if_pos z2] at h
        iterate 7 refine em_next rfl ?_
        refine em_lalE (k := t) rfl rfl hc.2.2.1 (by omega) (by decide) ?_
        refine em_tl (hT.2.2.1 z2) ?_
        iterate 1 refine em_next rfl ?_
        refine em_tp (lN_i (tk_V b L t)) ?_
        refine em_inv_call rfl (ce_add_draft_costs hw (fun I1 k1 k2 => ?_))
        iterate 1 refine em_next rfl ?_
        have hne : decide (nI (tk_V b L t) = -9) = false := decide_eq_false (fun e => by
          have h1 := nI_pos (n := tk_V b L t) (by omega)
          rw [e] at h1
          exact h1 (by decide))
        refine em_inv_call rfl (one (nI (tk_V b L t)) (0, tk_V b L t) I1 _ (fun v M hv q => em_done (if_pos (Or.inr (Or.inl ⟨rfl, hv⟩))) q) rfl (by rw [hne]; exact (decide_eq_false (fun e => by cases e)).symm) (by omega) k1 k2 h)
    · intro nt t I s lp Q d hnt hnd hx hc hw hsl h
      unfold rd_nd at hnd
      rw [if_neg (by decide), if_pos rfl] at hnd
      have ht := hc.1
      rw [rd, if_neg (by decide), if_pos rfl] at h
      iterate 2 refine em_next rfl ?_
      refine em_inv_call rfl (iu nt t I s lp _ d hnt (by unfold rd_nd; rw [if_pos rfl]; omega) hx hc hw hsl ?_)
      cases hr : rd (tk_K b L) (tk_V b L) f 0 nt t with
      | inl e =>
        rw [hr] at h
        intro I3 b1 b2 b3
        iterate 1 refine em_next rfl ?_
        refine em_z_ne (fun q => absurd rfl q) (fun _ => ?_)
        iterate 1 refine em_next rfl ?_
        exact em_done rfl (h I3 b1 b2 b3)
      | inr w =>
        rw [hr] at h
        intro I3 b1 b2 b3
        obtain ⟨⟨g1, g2, g3, g4⟩, -, -⟩ := rd_pr hV (by decide) hnt ht hr
        have g3' := g3 (by decide)
        iterate 1 refine em_next rfl ?_
        refine em_z_ne (fun _ => ?_) (fun q => absurd q (by decide))
        iterate 2 refine em_next rfl ?_
        refine ipt nt w.1 I3 _ (lp || hp w.2) Q d 0 none hnt (by unfold rd_nd; rw [if_neg (by decide), if_neg (by decide), if_neg (by decide)]; omega) (by omega) (kx b1 hx) b2 b3 (by rw [List.length_append, List.length_map]; omega) ?_
        have h' : ce_ok b L 20 I J Q s lp (rd_b (rd (tk_K b L) (tk_V b L) f 3 nt w.1) (fun t2 c2 => .inr (t2, w.2 ++ c2))) := h
        cases hr2 : rd (tk_K b L) (tk_V b L) f 3 nt w.1 with
        | inl e =>
          rw [hr2] at h'
          exact fun I5 e1 e2 e3 => h' I5 (b1.tr e1) e2 e3
        | inr u =>
          rw [hr2] at h'
          intro I5 e1 e2 e3
          refine h' I5 (b1.tr e1) e2 ?_
          show cw I5 20 (s ++ (w.2 ++ u.2).map cst) (lp || hp (w.2 ++ u.2))
          rw [hp_app, List.map_append, ← Bool.or_assoc]
          rw [List.append_assoc] at e3
          exact e3
    · intro nt t I s lp Q d hnt hnd hx hc hw hsl h
      unfold rd_nd at hnd
      rw [if_neg (by decide), if_neg (by decide), if_pos rfl] at hnd
      have ht := hc.1
      rw [rd, if_neg (by decide), if_neg (by decide), if_pos rfl] at h
      iterate 2 refine em_next rfl ?_
      refine em_inv_call rfl (ip nt t I s lp _ d hnt (by unfold rd_nd; rw [if_neg (by decide), if_pos rfl]; omega) hx hc hw hsl ?_)
      cases hr : rd (tk_K b L) (tk_V b L) f 1 nt t with
      | inl e =>
        rw [hr] at h
        intro I3 b1 b2 b3
        iterate 1 refine em_next rfl ?_
        refine em_z_ne (fun q => absurd rfl q) (fun _ => ?_)
        iterate 1 refine em_next rfl ?_
        exact em_done rfl (h I3 b1 b2 b3)
      | inr w =>
        rw [hr] at h
        intro I3 b1 b2 b3
        obtain ⟨⟨g1, g2, g3, g4⟩, -, -⟩ := rd_pr hV (by decide) hnt ht hr
        have g3' := g3 (by decide)
        iterate 1 refine em_next rfl ?_
        refine em_z_ne (fun _ => ?_) (fun q => absurd q (by decide))
        iterate 2 refine em_next rfl ?_
        refine ist nt w.1 I3 _ (lp || hp w.2) Q d 0 none hnt (by unfold rd_nd; rw [if_neg (by decide), if_neg (by decide), if_neg (by decide)]; omega) (by omega) (kx b1 hx) b2 b3 (by rw [List.length_append, List.length_map]; omega) ?_
        have h' : ce_ok b L 20 I J Q s lp (rd_b (rd (tk_K b L) (tk_V b L) f 4 nt w.1) (fun t2 c2 => .inr (t2, w.2 ++ c2))) := h
        cases hr2 : rd (tk_K b L) (tk_V b L) f 4 nt w.1 with
        | inl e =>
          rw [hr2] at h'
          exact fun I5 e1 e2 e3 => h' I5 (b1.tr e1) e2 e3
        | inr u =>
          rw [hr2] at h'
          intro I5 e1 e2 e3
          refine h' I5 (b1.tr e1) e2 ?_
          show cw I5 20 (s ++ (w.2 ++ u.2).map cst) (lp || hp (w.2 ++ u.2))
          rw [hp_app, List.map_append, ← Bool.or_assoc]
          rw [List.append_assoc] at e3
          exact e3
    · intro nt t I s lp Q d i o hnt hnd hit hx hc hw hsl h
      unfold rd_nd at hnd
      have hck := ck_is (tk_K b L t) (kr b L t)
      have ht := hc.1
      rw [rd, if_neg (by decide), if_neg (by decide), if_neg (by decide), if_pos rfl] at h
      have go : (tk_K b L t = 10 ∨ tk_K b L t = 15) → em_wp em_sc0 (d + 3 * (6 - nt) + 2) 79 37 [some (.ref 40), some (.int (nI nt)), some (.int (nI i)), o] [] (em_SH, I, J, em_RT 20) Q := fun hk => by
        rw [if_pos hk] at h
        iterate 2 refine em_next rfl ?_
        refine em_tp hc.2.2.2 ?_
        iterate 2 refine em_next rfl ?_
        refine em_inv_call rfl (ce_accept hx hc (by omega) (fun z I2 a1 a2 a3 => ?_) (fun z I2 a1 a2 a3 a4 => ?_))
        · rw [if_pos z] at h
          have xf2 : xf 20 I I2 := a1.of a2
          iterate 1 refine em_next rfl ?_
          refine em_z_eq (fun q => absurd q (by decide)) (fun _ => ?_)
          iterate 2 refine em_next rfl ?_
          refine em_inv_call rfl (iu nt (t + 1) I2 s lp _ d hnt (by unfold rd_nd; rw [if_pos rfl]; omega) (kx xf2 hx) a3 (hw.keep (a2 _ (by decide)) (a2 _ (by decide))) (by omega) ?_)
          cases hr : rd (tk_K b L) (tk_V b L) f 0 nt (t + 1) with
          | inl e =>
            rw [hr] at h
            intro I3 b1 b2 b3
            iterate 1 refine em_next rfl ?_
            refine em_z_ne (fun q => absurd rfl q) (fun _ => ?_)
            iterate 1 refine em_next rfl ?_
            exact em_done rfl (h I3 (xf2.tr b1) b2 b3)
          | inr w =>
            rw [hr] at h
            intro I3 b1 b2 b3
            obtain ⟨⟨g1, g2, g3, g4⟩, -, -⟩ := rd_pr hV (by decide) hnt (by omega) hr
            have g3' := g3 (by decide)
            have xf3 := xf2.tr b1
            iterate 1 refine em_next rfl ?_
            refine em_z_ne (fun _ => ?_) (fun q => absurd q (by decide))
            iterate 3 refine em_next rfl ?_
            refine em_inv_call rfl (ce_addSign_draft_costs (k := tk_K b L t) (by omega) b3 (by rw [List.length_append, List.length_map]; omega) (fun I4 c1 c2 => ?_))
            have xf4 : xf 20 I I4 := xf3.tr (xf.law (by decide) (by decide) c1)
            have g := ipt nt w.1 I4 _ (lp || hp w.2) Q d (i + 1) (some (.int (nI (ck (tk_K b L t))))) hnt (by unfold rd_nd; omega) (by omega) (kx xf4 hx) (b2.keep (c1.1 _ (by decide) (by decide))) c2 (by rw [List.length_append, List.length_append, List.length_map]; dsimp only [List.length]; omega) ?_
            · rw [nI_succ] at g
              iterate 2 refine em_next rfl ?_
              exact g
            cases hr2 : rd (tk_K b L) (tk_V b L) f 3 nt w.1 with
            | inl e =>
              have h' : ce_ok b L 20 I J Q s lp (rd_b (rd (tk_K b L) (tk_V b L) f 3 nt w.1) (fun t2 c2 => .inr (t2, w.2 ++ (rd_op (tk_K b L t), 0) :: c2))) := h
              rw [hr2] at h'
              exact fun I5 e1 e2 e3 => h' I5 (xf4.tr e1) e2 e3
            | inr u =>
              have h' : ce_ok b L 20 I J Q s lp (rd_b (rd (tk_K b L) (tk_V b L) f 3 nt w.1) (fun t2 c2 => .inr (t2, w.2 ++ (rd_op (tk_K b L t), 0) :: c2))) := h
              rw [hr2] at h'
              intro I5 e1 e2 e3
              refine h' I5 (xf4.tr e1) e2 ?_
              have eh : (lp || hp (w.2 ++ (rd_op (tk_K b L t), 0) :: u.2)) = (lp || hp w.2 || hp u.2) := by
                rw [hp_app, show hp ((rd_op (tk_K b L t), 0) :: u.2) = hp u.2 from hp_op _ _, Bool.or_assoc]
              show cw I5 20 (s ++ (w.2 ++ (rd_op (tk_K b L t), 0) :: u.2).map cst) (lp || hp (w.2 ++ (rd_op (tk_K b L t), 0) :: u.2))
              rw [eh, List.map_append, List.map_cons]
              rw [List.append_assoc, List.append_assoc] at e3
              exact e3
        · rw [if_neg z] at h
          iterate 1 refine em_next rfl ?_
          refine em_z_eq (fun _ => ?_) (fun q => absurd rfl q)
          iterate 1 refine em_next rfl ?_
          exact em_done rfl (h I2 (a1.of a2) a3 a4)
      iterate 3 refine em_next rfl ?_
      refine em_c_gtE rfl (y' := nI 400) rfl (fun z => absurd z (nI_nlt (by omega) (by decide))) (fun _ => ?_)
      iterate 4 refine em_next rfl ?_
      refine em_c_eqE hc.2.2.2 (y' := nI 42) rfl (fun y => ?_) (fun y => ?_)
      · exact go (Or.inl (hck.2.2.2.2.2.1.mp ((nI_eq (by omega) (by decide)).mp y)))
      · have y2 : ¬ tk_K b L t = 10 := fun e => y (by rw [hck.2.2.2.2.2.1.mpr e])
        iterate 4 refine em_next rfl ?_
        refine em_c_neE hc.2.2.2 (y' := nI 47) rfl (fun y => ?_) (fun y => ?_)
        · have y3 : ¬ tk_K b L t = 15 := fun e => y (by rw [hck.2.2.2.2.2.2.1.mpr e])
          rw [if_neg (fun e => e.elim y2 y3)] at h
          iterate 1 refine em_next rfl ?_
          refine em_done rfl (h I xf.rf hc ?_)
          show cw I 20 (s ++ []) (lp || hp [])
          rw [List.append_nil, show hp [] = false from rfl, Bool.or_false]
          exact hw
        · exact go (Or.inr (hck.2.2.2.2.2.2.1.mp ((nI_eq (by omega) (by decide)).mp y)))
    · intro nt t I s lp Q d i o hnt hnd hit hx hc hw hsl h
      unfold rd_nd at hnd
      have hck := ck_is (tk_K b L t) (kr b L t)
      have ht := hc.1
      rw [rd, if_neg (by decide), if_neg (by decide), if_neg (by decide), if_neg (by decide)] at h
      have go : (tk_K b L t = 8 ∨ tk_K b L t = 9) → em_wp em_sc0 (d + 3 * (6 - nt) + 3) 78 37 [some (.ref 40), some (.int (nI nt)), some (.int (nI i)), o] [] (em_SH, I, J, em_RT 20) Q := fun hk => by
        rw [if_pos hk] at h
        iterate 2 refine em_next rfl ?_
        refine em_tp hc.2.2.2 ?_
        iterate 2 refine em_next rfl ?_
        refine em_inv_call rfl (ce_accept hx hc (by omega) (fun z I2 a1 a2 a3 => ?_) (fun z I2 a1 a2 a3 a4 => ?_))
        · rw [if_pos z] at h
          have xf2 : xf 20 I I2 := a1.of a2
          iterate 1 refine em_next rfl ?_
          refine em_z_eq (fun q => absurd q (by decide)) (fun _ => ?_)
          iterate 2 refine em_next rfl ?_
          refine em_inv_call rfl (ip nt (t + 1) I2 s lp _ d hnt (by unfold rd_nd; rw [if_neg (by decide), if_pos rfl]; omega) (kx xf2 hx) a3 (hw.keep (a2 _ (by decide)) (a2 _ (by decide))) (by omega) ?_)
          cases hr : rd (tk_K b L) (tk_V b L) f 1 nt (t + 1) with
          | inl e =>
            rw [hr] at h
            intro I3 b1 b2 b3
            iterate 1 refine em_next rfl ?_
            refine em_z_ne (fun q => absurd rfl q) (fun _ => ?_)
            iterate 1 refine em_next rfl ?_
            exact em_done rfl (h I3 (xf2.tr b1) b2 b3)
          | inr w =>
            rw [hr] at h
            intro I3 b1 b2 b3
            obtain ⟨⟨g1, g2, g3, g4⟩, -, -⟩ := rd_pr hV (by decide) hnt (by omega) hr
            have g3' := g3 (by decide)
            have xf3 := xf2.tr b1
            iterate 1 refine em_next rfl ?_
            refine em_z_ne (fun _ => ?_) (fun q => absurd q (by decide))
            iterate 3 refine em_next rfl ?_
            refine em_inv_call rfl (ce_addSign_draft_costs (k := tk_K b L t) (by omega) b3 (by rw [List.length_append, List.length_map]; omega) (fun I4 c1 c2 => ?_))
            have xf4 : xf 20 I I4 := xf3.tr (xf.law (by decide) (by decide) c1)
            have g := ist nt w.1 I4 _ (lp || hp w.2) Q d (i + 1) (some (.int (nI (ck (tk_K b L t))))) hnt (by unfold rd_nd; omega) (by omega) (kx xf4 hx) (b2.keep (c1.1 _ (by decide) (by decide))) c2 (by rw [List.length_append, List.length_append, List.length_map]; dsimp only [List.length]; omega) ?_
            · rw [nI_succ] at g
              iterate 2 refine em_next rfl ?_
              exact g
            cases hr2 : rd (tk_K b L) (tk_V b L) f 4 nt w.1 with
            | inl e =>
              have h' : ce_ok b L 20 I J Q s lp (rd_b (rd (tk_K b L) (tk_V b L) f 4 nt w.1) (fun t2 c2 => .inr (t2, w.2 ++ (rd_op (tk_K b L t), 0) :: c2))) := h
              rw [hr2] at h'
              exact fun I5 e1 e2 e3 => h' I5 (xf4.tr e1) e2 e3
            | inr u =>
              have h' : ce_ok b L 20 I J Q s lp (rd_b (rd (tk_K b L) (tk_V b L) f 4 nt w.1) (fun t2 c2 => .inr (t2, w.2 ++ (rd_op (tk_K b L t), 0) :: c2))) := h
              rw [hr2] at h'
              intro I5 e1 e2 e3
              refine h' I5 (xf4.tr e1) e2 ?_
              have eh : (lp || hp (w.2 ++ (rd_op (tk_K b L t), 0) :: u.2)) = (lp || hp w.2 || hp u.2) := by
                rw [hp_app, show hp ((rd_op (tk_K b L t), 0) :: u.2) = hp u.2 from hp_op _ _, Bool.or_assoc]
              show cw I5 20 (s ++ (w.2 ++ (rd_op (tk_K b L t), 0) :: u.2).map cst) (lp || hp (w.2 ++ (rd_op (tk_K b L t), 0) :: u.2))
              rw [eh, List.map_append, List.map_cons]
              rw [List.append_assoc, List.append_assoc] at e3
              exact e3
        · rw [if_neg z] at h
          iterate 1 refine em_next rfl ?_
          refine em_z_eq (fun _ => ?_) (fun q => absurd rfl q)
          iterate 1 refine em_next rfl ?_
          exact em_done rfl (h I2 (a1.of a2) a3 a4)
      iterate 3 refine em_next rfl ?_
      refine em_c_gtE rfl (y' := nI 400) rfl (fun z => absurd z (nI_nlt (by omega) (by decide))) (fun _ => ?_)
      iterate 4 refine em_next rfl ?_
      refine em_c_eqE hc.2.2.2 (y' := nI 43) rfl (fun y => ?_) (fun y => ?_)
      · exact go (Or.inl (hck.2.2.2.1.mp ((nI_eq (by omega) (by decide)).mp y)))
      · have y2 : ¬ tk_K b L t = 8 := fun e => y (by rw [hck.2.2.2.1.mpr e])
        iterate 4 refine em_next rfl ?_
        refine em_c_neE hc.2.2.2 (y' := nI 45) rfl (fun y => ?_) (fun y => ?_)
        · have y3 : ¬ tk_K b L t = 9 := fun e => y (by rw [hck.2.2.2.2.1.mpr e])
          rw [if_neg (fun e => e.elim y2 y3)] at h
          iterate 1 refine em_next rfl ?_
          refine em_done rfl (h I xf.rf hc ?_)
          show cw I 20 (s ++ []) (lp || hp [])
          rw [List.append_nil, show hp [] = false from rfl, Bool.or_false]
          exact hw
        · exact go (Or.inr (hck.2.2.2.2.1.mp ((nI_eq (by omega) (by decide)).mp y)))
/-- a whole sum -/
theorem ce_sum_draft_costs {t : Nat} {I : Nat → Nat → Int32} {s : List Int32} {lp : Bool} {Q : Option Value → em_M → Prop} {d : Nat} (hx : cx b L n I J) (hc : cat b L t I) (hw : cw I 20 s lp) (hsl : s.length ≤ t) (h : ce_ok b L 20 I J Q s lp (rd_sum (tk_K b L) (tk_V b L) t)) : em_call (d + 21) 78 [.ref 40, .int (nI 0)] (em_SH, I, J, em_RT 20) Q := (ce_rd_draft_costs 1700).2.2.1 0 t I s lp Q d (by decide) (by unfold rd_nd; rw [if_neg (by decide), if_neg (by decide), if_pos rfl]; omega) hx hc hw hsl h
end CEXP2
