/-! places of tokens; the reference's bounds -/
theorem tk_e_le {q : Nat → Bool} {L f i : Nat} (h : i ≤ L) : tk_e q L f i ≤ L := by
  induction f generalizing i with
  | zero => exact h
  | succ f ih =>
    rw [tk_e]
    split
    · rename_i z
      exact ih z.1
    · exact h
theorem tk_end_le {q : Nat → Bool} {L i : Nat} (h : i ≤ L) : tk_end q L i ≤ L := tk_e_le h
theorem tk_np_le {b : Nat → Nat} {L p : Nat} (h : p ≤ L) : tk_np b L p ≤ L := by
  unfold tk_np
  split
  · exact h
  · split
    · exact tk_end_le h
    · split
      · exact tk_end_le h
      · omega
theorem tk_x_le {b : Nat → Nat} {L t : Nat} : tk_x b L t ≤ L := by
  induction t with
  | zero => exact Nat.zero_le _
  | succ t ih => exact tk_np_le (tk_end_le ih)
theorem tk_P_le {b : Nat → Nat} {L t : Nat} : tk_P b L t ≤ L := tk_end_le tk_x_le
theorem tk_np_gt {b : Nat → Nat} {L p : Nat} (h : p < L) : p < tk_np b L p := by
  unfold tk_np
  rw [if_neg (by omega)]
  split
  · rename_i z
    have g1 := tk_end_ge (fun j => tk_l (b j)) L p
    have g2 := tk_pos (q := fun j => tk_l (b j)) (k := tk_end (fun j => tk_l (b j)) L p - p) h z (by omega)
    unfold tk_le
    omega
  · split
    · rename_i z
      have g1 := tk_end_ge (fun j => tk_d (b j)) L p
      have g2 := tk_pos (q := fun j => tk_d (b j)) (k := tk_end (fun j => tk_d (b j)) L p - p) h z (by omega)
      unfold tk_de
      omega
    · omega
theorem tk_K_lt {b : Nat → Nat} {L t : Nat} (h : ¬ tk_K b L t = 0) : tk_P b L t < L := by
  by_cases e : L ≤ tk_P b L t
  · exact absurd (by unfold tk_K tk_Kp; rw [if_pos e]) h
  · omega
theorem tk_K_end {b : Nat → Nat} {L t : Nat} (h : tk_K b L t = 0) : tk_P b L t = L := by
  have g := tk_P_le (b := b) (L := L) (t := t)
  by_cases e : L ≤ tk_P b L t
  · omega
  · unfold tk_K tk_Kp at h
    rw [if_neg e] at h
    split at h
    · split at h
      · exact absurd h (by decide)
      · split at h <;> omega
    · split at h
      · split at h <;> exact absurd h (by decide)
      · exact absurd h (tk_sg_no _).2.2
theorem tk_P_s {b : Nat → Nat} {L t : Nat} (h : ¬ tk_K b L t = 0) : tk_P b L t < tk_P b L (t + 1) := Nat.lt_of_lt_of_le (tk_np_gt (tk_K_lt h)) (tk_end_ge _ _ _)
theorem tk_P_lt {b : Nat → Nat} {L s u : Nat} (h : s < u) (hg : tk_gd (tk_K b L) u) : tk_P b L s < tk_P b L u := by
  induction u with
  | zero => omega
  | succ u ih =>
    have g1 := tk_P_s (hg u (Nat.lt_succ_self _)).1
    by_cases e : s = u
    · subst e; exact g1
    · exact Nat.lt_trans (ih (by omega) (fun r hr => hg r (by omega))) g1
/-- what was noted, of tokens before t -/
def mlt (b : Nat → Nat) (L t : Nat) (I : Nat → Nat → Int32) (la : tl_F) : Prop := match la with
  | none => I 284 15 = nI 0
  | some q => I 284 15 = nI q.1 ∧ I 284 16 = nI q.2 ∧ (1 ≤ q.1 ∧ q.1 < 9) ∧ ∃ s, s < t ∧ q.2 = tk_P b L s
/-- what bounds change -/
def bg (I I' : Nat → Nat → Int32) : Prop := (∀ a, a ≠ 284 → I' a = I a) ∧ ∀ j, j ∉ [11, 13, 14, 15, 16] → I' 284 j = I 284 j
section MBOUND
variable {d lw : Nat} {b : Nat → Nat} {L n : Nat} {I I0 I' I'' : Nat → Nat → Int32} {J J0 J' J'' : Nat → Nat → Int64} {M : em_M} {Q : Option Value → em_M → Prop}
theorem bg.rf : bg I I := ⟨fun _ _ => rfl, fun _ _ => rfl⟩
theorem bg.tr (h : bg I I') (h' : bg I' I'') : bg I I'' := ⟨fun a z => (h'.1 a z).trans (h.1 a z), fun j hj => (h'.2 j hj).trans (h.2 j hj)⟩
theorem bg.g (h : mg I I') : bg I I' := ⟨h.1, fun j hj => h.2 j (fun q => hj (by revert q; simp; omega))⟩
theorem mx.bg (h : mx b L n I J) (hf : bg I I') : mx b L n I' J := h.keep (hf.1 _ (by decide)) (hf.1 _ (by decide)) (hf.1 _ (by decide)) rfl
theorem mlt.keep {t : Nat} {la : tl_F} (h : mlt b L t I la) (h1 : I' 284 15 = I 284 15) (h2 : I' 284 16 = I 284 16) : mlt b L t I' la := by
  unfold mlt
  rw [h1, h2]
  exact h
theorem mlt.g {t : Nat} {la : tl_F} (h : mlt b L t I la) (hf : mg I I') : mlt b L t I' la := h.keep (hf.2 _ (by decide)) (hf.2 _ (by decide))
theorem mlt.mono {t u : Nat} {la : tl_F} (h : mlt b L t I la) (hu : t ≤ u) : mlt b L u I la := by
  cases la with
  | none => exact h
  | some q =>
    obtain ⟨h1, h2, h3, s, h4, h5⟩ := h
    exact ⟨h1, h2, h3, s, by omega, h5⟩
/-- a later fault is noted, of the token u -/
theorem me_wrong (hL : L ≤ 2000) (hx : mx b L n I J) {u k : Nat} {la : tl_F} (hu : u ≤ 400) (hun : u < n) (hg : tk_gd (tk_K b L) u) (hf : I 284 13 = nI 0) (hk : 1 ≤ k ∧ k < 9) (hl : mlt b L u I la ∨ (la = some (k, tk_P b L u) ∧ mlt b L (u + 1) I la)) (h : ∀ I' : Nat → Nat → Int32, (∀ a, a ≠ 284 → I' a = I a) → (∀ j, j ≠ 15 → j ≠ 16 → I' 284 j = I 284 j) → mlt b L (u + 1) I' (tl_note k (tk_P b L u) la) → Q none (em_SH, I', J, em_RT lw)) : em_call d 181 [.ref 284, .int (nI k), .int (nI u)] (em_SH, I, J, em_RT lw) Q := by
  have hT := hx.1 u hun
  have hP := tk_P_le (b := b) (L := L) (t := u)
  iterate 3 refine em_next rfl ?_
  refine em_ialE (k := u) rfl rfl rfl (by omega) (by decide) ?_
  refine em_tp hT.2.1 ?_
  iterate 1 refine em_next rfl ?_
  iterate 2 refine em_next rfl ?_
  refine em_next rfl ?_
  have z0 : ¬ (0 : Int32) < I 284 13 := by rw [hf]; decide
  refine em_z_gt (fun z => absurd z z0) (fun _ => ?_)
  iterate 3 refine em_next rfl ?_
  cases la with
  | none =>
    have e : I 284 15 = nI 0 := by
      rcases hl with hl | ⟨hl, -⟩
      · exact hl
      · exact absurd hl (by simp)
    refine em_z_eqE e (fun _ => ?_) (fun z => absurd rfl z)
    iterate 6 refine em_next rfl ?_
    refine em_done rfl ?_
    show Q none (em_SH, em_u (em_u I 284 15 (nI k)) 284 16 (nI (tk_P b L u)), J, em_RT lw)
    exact h _ (fun a ha => by rw [em_u_row ha, em_u_row ha]) (fun j z1 z2 => by rw [em_u_ne z2, em_u_ne z1]) ⟨by rw [em_u_ne (by decide), em_u_self], em_u_self, hk, u, by omega, rfl⟩
  | some q =>
    have hq : I 284 15 = nI q.1 ∧ I 284 16 = nI q.2 ∧ (1 ≤ q.1 ∧ q.1 < 9) ∧ (q.2 < tk_P b L u ∨ q = (k, tk_P b L u)) ∧ mlt b L (u + 1) I (some q) := by
      rcases hl with hl | ⟨hl, hm⟩
      · obtain ⟨h1, h2, h3, s, h4, h5⟩ := hl
        exact ⟨h1, h2, h3, Or.inl (by rw [h5]; exact tk_P_lt h4 hg), h1, h2, h3, s, by omega, h5⟩
      · obtain ⟨h1, h2, h3, s, h4, h5⟩ := hm
        exact ⟨h1, h2, h3, Or.inr (Option.some.inj hl), h1, h2, h3, s, by omega, h5⟩
    obtain ⟨h1, h2, h3, h4, h5⟩ := hq
    have fin := h I (fun _ _ => rfl) (fun _ _ _ => rfl) h5
    refine em_z_eqE h1 (fun z => absurd ((nI_eq (a := q.1) (b := 0) (by omega) (by decide)).mp z) (by omega)) (fun _ => ?_)
    iterate 4 refine em_next rfl ?_
    rcases h4 with h4 | h4
    · refine em_c_gtE (x' := nI (tk_P b L u)) rfl h2 (fun _ => ?_) (fun z => absurd (nI_lt h4 (by omega)) z)
      exact em_done rfl fin
    · rw [h4] at h1 h2
      refine em_c_gtE (x' := nI (tk_P b L u)) rfl h2 (fun _ => em_done rfl fin) (fun _ => ?_)
      iterate 4 refine em_next rfl ?_
      refine em_c_neE (x' := nI (tk_P b L u)) rfl h2 (fun z => absurd rfl z) (fun _ => ?_)
      iterate 4 refine em_next rfl ?_
      refine em_c_ltE (x' := nI k) rfl h1 (fun z => absurd ((nI_ltI (by omega) (by omega)).mp z) (by dsimp only; omega)) (fun _ => ?_)
      exact em_done rfl fin
theorem me_bounded_b {e : tl_E} {x2 : Int32} (hf : mfl b L I e) (h : Q (some (.int (nI 0))) (em_SH, I, J, em_RT lw)) : em_call (d + 2) 191 [.ref 284, .int (nI 0), .int x2] (em_SH, I, J, em_RT lw) Q := by
  have z0 : (0 : Int32) < I 284 13 := by
    rw [hf.1]
    exact nI_lt (a := 0) hf.2.2.1 (by have := hf.2.2.2; omega)
  iterate 2 refine em_next rfl ?_
  refine em_next rfl ?_
  refine em_z_gt (fun _ => ?_) (fun z => absurd z0 z)
  iterate 2 refine em_next rfl ?_
  refine em_inv_call rfl (me_fail_b hf ?_)
  iterate 1 refine em_next rfl ?_
  exact em_done rfl h
theorem me_bounded (hL : L ≤ 2000) (hx : mx b L n I J) {t m : Nat} {la : tl_F} (hm : mat b L t I) (hl : mlt b L t I la) (hm2 : m < 10000) (h1 : tk_K b L t = 2 → t < 400 → tl_int (tk_K b L) (tk_V b L) (tk_P b L) m t la = .inr (t + 1, if m < tk_V b L t then tl_note 5 (tk_P b L t) la else la) → ∀ I' : Nat → Nat → Int32, bg I I' → mat b L (t + 1) I' → mlt b L (t + 1) I' (if m < tk_V b L t then tl_note 5 (tk_P b L t) la else la) → Q (some (.int (nI (tk_V b L t)))) (em_SH, I', J, em_RT lw)) (h2 : ∀ e, (∀ la, tl_int (tk_K b L) (tk_V b L) (tk_P b L) m t la = .inl e) → ∀ (I' : Nat → Nat → Int32) (j : Nat), j < 10000 → bg I I' → mfl b L I' e → Q (some (.int (nI j))) (em_SH, I', J, em_RT lw)) : em_call (d + 2) 191 [.ref 284, .int (nI 0), .int (nI m)] (em_SH, I, J, em_RT lw) Q := by
  have hT := hx.tok hm
  have ht := hm.1
  have z0 : ¬ (0 : Int32) < I 284 13 := by rw [hm.2.2.2]; decide
  iterate 2 refine em_next rfl ?_
  refine em_next rfl ?_
  refine em_z_gt (fun z => absurd z z0) (fun _ => ?_)
  iterate 2 refine em_next rfl ?_
  refine em_inv_call rfl (me_is (k := 2) hx hm (by decide) (fun z => ?_) (fun z => ?_))
  · have hV := tk_V_lt z
    iterate 1 refine em_next rfl ?_
    refine em_z_ne (fun _ => ?_) (fun z => absurd z (by decide))
    iterate 4 refine em_next rfl ?_
    refine em_ialE (k := t) rfl rfl hm.2.2.1 (by omega) (by decide) ?_
    refine em_tp (hT.2.2.1 z) ?_
    have go : ∀ K : Nat → Nat → Int32, bg I K → mat b L t K → mlt b L (t + 1) K (if m < tk_V b L t then tl_note 5 (tk_P b L t) la else la) → em_wp em_sc0 (d + 2) 191 51 [some (.ref 284), some (.int (nI 0)), some (.int (nI m)), some (.int (nI (tk_V b L t)))] [] (em_SH, K, J, em_RT lw) Q := fun K k1 k2 k3 => by
      iterate 1 refine em_next rfl ?_
      refine em_inv_call rfl (me_goesOn (hx.bg k1) k2 (by omega) (fun y I2 b1 b2 => ?_) (fun y I2 b1 b2 => ?_))
      · iterate 1 refine em_next rfl ?_
        refine em_done rfl (h1 z y ?_ I2 (k1.tr (bg.g b1)) b2 (k3.g b1))
        unfold tl_int tl_acc
        rw [if_pos z, if_pos y]
      · iterate 1 refine em_next rfl ?_
        refine em_done rfl (h2 (2, t) (fun la => ?_) I2 _ hV (k1.tr (bg.g b1)) b2)
        unfold tl_int tl_acc
        rw [if_pos z, if_neg y]
    iterate 3 refine em_next rfl ?_
    refine em_next rfl ?_
    refine em_c_ltE (x' := nI (tk_V b L t)) rfl (y' := nI 0) rfl (fun y => absurd ((nI_ltI (by omega) (by decide)).mp y) (by omega)) (fun _ => ?_)
    iterate 3 refine em_next rfl ?_
    refine em_c_leE (x' := nI (tk_V b L t)) rfl (y' := nI m) rfl (fun y => ?_) (fun y => ?_)
    · have y2 := (nI_leI (by omega) (by omega)).mp y
      exact go I bg.rf hm (by rw [if_neg (by omega)]; exact hl.mono (by omega))
    · have y2 := Nat.not_le.mp (fun e => y ((nI_leI (by omega) (by omega)).mpr e))
      iterate 4 refine em_next rfl ?_
      refine em_tp hm.2.2.1 ?_
      refine em_inv_call rfl (me_wrong (k := 5) (la := la) hL hx ht (hx.lt ht hm.2.1) hm.2.1 hm.2.2.2 (by decide) (Or.inl hl) (fun I1 a1 a2 a3 => ?_))
      refine go I1 ⟨a1, fun j hj => a2 j (fun e => hj (by rw [e]; decide)) (fun e => hj (by rw [e]; decide))⟩ (hm.keep (a2 _ (by decide) (by decide)) (a2 _ (by decide) (by decide))) ?_
      rw [if_pos y2]
      exact a3
  · iterate 1 refine em_next rfl ?_
    refine em_z_ne (fun z => absurd rfl z) (fun _ => ?_)
    iterate 2 refine em_next rfl ?_
    refine em_inv_call rfl (me_fail (k := 1) hx hm (by decide) (by decide) (fun I1 a1 a2 _ => ?_))
    iterate 1 refine em_next rfl ?_
    refine em_done rfl (h2 (1, t) (fun la => ?_) I1 0 (by decide) (bg.g a1) a2)
    unfold tl_int
    rw [if_neg z]
/-- a told int -/
theorem me_toldInt (hL : L ≤ 2000) (hx : mx b L n I J) {t m : Nat} {la : tl_F} (hm : mat b L t I) (hg : ¬ tk_K b L t = 0 ∧ ¬ tk_K b L t = 3) (hl : mlt b L t I la) (hm2 : m < 10000) (h : ∀ (I' : Nat → Nat → Int32) (j : Nat), bg I I' → (match tl_b (tl_acc t la) (fun a => tl_b (tl_int (tk_K b L) (tk_V b L) (tk_P b L) m a.1 a.2) (fun c => tl_b (tl_tk (tk_K b L) 4 c.1 c.2) (fun x => .inr (x.1, x.2)))) with
    | .inl e => mfl b L I' e
    | .inr (w : Nat × tl_F) => j = tk_V b L (t + 1) ∧ mat b L w.1 I' ∧ mlt b L w.1 I' w.2) → Q (some (.int (nI j))) (em_SH, I', J, em_RT lw)) : em_call (d + 3) 189 [.ref 284, .int (nI 0), .int (nI m)] (em_SH, I, J, em_RT lw) Q := by
  have bad : ∀ (K : Nat → Nat → Int32) (e : tl_E), bg I K → mfl b L K e → tl_b (tl_acc t la) (fun a => tl_b (tl_int (tk_K b L) (tk_V b L) (tk_P b L) m a.1 a.2) (fun c => tl_b (tl_tk (tk_K b L) 4 c.1 c.2) (fun x => .inr (x.1, x.2)))) = .inl e → ∀ j : Nat, em_wp em_sc0 (d + 3) 189 10 [some (.ref 284), some (.int (nI 0)), some (.int (nI m)), none] [.int (nI j)] (em_SH, K, J, em_RT lw) Q := fun K e k1 k2 k3 j => by
    iterate 1 refine em_next rfl ?_
    iterate 2 refine em_next rfl ?_
    refine em_inv_call rfl (me_must_b (k := 4) k2 ?_)
    iterate 1 refine em_next rfl ?_
    exact em_done rfl (h K j k1 (by rw [k3]; exact k2))
  iterate 1 refine em_next rfl ?_
  refine em_inv_call rfl (me_goesOn hx hm hg (fun y I1 a1 a2 => ?_) (fun y I1 a1 a2 => ?_))
  · have e1 : tl_acc t la = .inr (t + 1, la) := if_pos y
    rw [e1, tl_b_inr] at h bad
    iterate 3 refine em_next rfl ?_
    refine em_inv_call rfl (me_bounded (la := la) hL (hx.g a1) a2 ((hl.g a1).mono (by omega)) hm2 (fun z1 z2 e2 I2 b1 b2 b3 => ?_) (fun e e2 I2 j hj b1 b2 => ?_))
    · have bg2 := (bg.g a1).tr b1
      rw [e2, tl_b_inr] at h bad
      iterate 1 refine em_next rfl ?_
      iterate 2 refine em_next rfl ?_
      refine em_inv_call rfl (me_must (k := 4) (hx.bg bg2) b2 (by decide) (by decide) (by decide) (fun z3 z4 _ I3 c1 c2 => ?_) (fun e e3 I3 c1 c2 => ?_))
      · iterate 1 refine em_next rfl ?_
        refine em_done rfl (h I3 _ (bg2.tr (bg.g c1)) ?_)
        have e3 : tl_tk (tk_K b L) 4 (t + 1 + 1) (if m < tk_V b L (t + 1) then tl_note 5 (tk_P b L (t + 1)) la else la) = .inr (t + 1 + 1 + 1, if m < tk_V b L (t + 1) then tl_note 5 (tk_P b L (t + 1)) la else la) := by
          unfold tl_tk tl_acc
          rw [if_pos z3, if_pos z4]
        dsimp only
        rw [e3, tl_b_inr]
        exact ⟨rfl, c2, (b3.g c1).mono (by omega)⟩
      · iterate 1 refine em_next rfl ?_
        refine em_done rfl (h I3 _ (bg2.tr (bg.g c1)) ?_)
        dsimp only
        rw [e3, tl_b_inl]
        exact c2
    · have k := bad I2 e ((bg.g a1).tr b1) b2 (by dsimp only; rw [e2, tl_b_inl]) j
      exact k
  · have e1 : tl_acc t la = .inl (2, t) := if_neg y
    iterate 3 refine em_next rfl ?_
    refine em_inv_call rfl (me_bounded_b a2 ?_)
    exact bad I1 (2, t) (bg.g a1) a2 (by rw [e1, tl_b_inl]) 0
theorem me_roomFor (hx : mx b L n I J) {t k : Nat} (hm : mat b L t I) (hg : ¬ tk_K b L t = 0 ∧ ¬ tk_K b L t = 3) (hk : k ≤ 9) (h1 : k < 9 → t < 400 → ∀ I' : Nat → Nat → Int32, mg I I' → mat b L (t + 1) I' → Q none (em_SH, I', J, em_RT lw)) (h2 : k = 9 ∨ ¬ t < 400 → ∀ I' : Nat → Nat → Int32, mg I I' → mfl b L I' (2, t) → Q none (em_SH, I', J, em_RT lw)) : em_call (d + 2) 188 [.ref 284, .int (nI k), .int (nI 9)] (em_SH, I, J, em_RT lw) Q := by
  iterate 3 refine em_next rfl ?_
  refine em_c_neE rfl (y' := nI 9) rfl (fun z => ?_) (fun z => ?_)
  · have z2 : k < 9 := by
      by_cases e : k = 9
      · exact absurd (by rw [e]) z
      · omega
    iterate 3 refine em_next rfl ?_
    refine em_z_neE hm.2.2.2 (fun z => absurd rfl z) (fun _ => ?_)
    iterate 1 refine em_next rfl ?_
    refine em_inv_call rfl (me_goesOn hx hm hg (fun y I1 a1 a2 => ?_) (fun y I1 a1 a2 => ?_))
    · exact em_done rfl (h1 z2 y I1 a1 a2)
    · exact em_done rfl (h2 (Or.inr y) I1 a1 a2)
  · have z2 := (nI_eq (by omega) (by decide)).mp z
    iterate 2 refine em_next rfl ?_
    refine em_inv_call rfl (me_fail (k := 2) hx hm (by decide) (by decide) (fun I1 a1 a2 _ => ?_))
    iterate 3 refine em_next rfl ?_
    refine em_z_neE a2.1 (fun _ => ?_) (fun z => absurd z a2.ne)
    exact em_done rfl (h2 (Or.inl z2) I1 a1 a2)
end MBOUND
