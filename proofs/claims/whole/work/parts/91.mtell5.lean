/-! the reference is told -/
theorem sub22 : ∀ k, k < 41 → (k < 22 → nI k - 22 < 0) ∧ (22 ≤ k → ¬ nI k - 22 < 0 ∧ nI k - 22 = nI (k - 22)) := by decide
section MTELL5
variable {d lw : Nat} {b : Nat → Nat} {L nT sd : Nat} {I I0 I' I'' : Nat → Nat → Int32} {J J0 J' J'' : Nat → Nat → Int64} {M : em_M} {Q : Option Value → em_M → Prop}
theorem me_tell_sleeper {t : Nat} {s : tl_S} (hL : L ≤ 2000) (hsd : sd < 2) (hx : mx b L nT I J) (hU : mU b L sd t s I J) (hw : tl_w (tk_K b L) s) (hk : tk_K b L t = 20) (h : mO b L sd lw I J Q (tl_one (tk_K b L) (tk_V b L) (tk_N b L) (tk_P b L) t s)) : em_wp em_sc0 (d + 6) 190 60 [some (.ref 284), none, none] [] (em_SH, I, J, em_RT lw) Q := by
  obtain ⟨hm, ho, hlt, C, B, hc, hS⟩ := hU
  have hg := hw.1
  have hn9 := hg.1
  have ht := hm.1
  unfold tl_one at h
  rw [if_pos hk] at h
  iterate 5 refine em_next rfl ?_
  refine em_ialE (k := sd) rfl rfl hS.1.1 hsd (by decide) ?_
  refine em_tp hS.2.1.1 ?_
  iterate 1 refine em_next rfl ?_
  refine em_inv_call rfl (me_roomFor hx hm (by omega) hn9 (fun y1 y2 I1 a1 a2 => ?_) (fun y I1 a1 a2 => ?_))
  rotate_left
  · have e : mO b L sd lw I J Q (.inl (2, t)) := by
      by_cases z : 9 ≤ s.n
      · rw [if_pos z] at h; exact h
      · rw [if_neg z, show tl_acc t s.la = .inl (2, t) from if_neg (by omega), tl_b_inl] at h; exact h
    iterate 3 refine em_next rfl ?_
    refine em_z_neE a2.1 (fun _ => ?_) (fun z => absurd z a2.ne)
    exact em_done rfl (e I1 J (rfr.bg (bg.g a1)) a2)
  rw [if_neg (by omega), show tl_acc t s.la = .inr (t + 1, s.la) from if_pos y2, tl_b_inr] at h
  iterate 3 refine em_next rfl ?_
  refine em_z_neE a2.2.2.2 (fun z => absurd rfl z) (fun _ => ?_)
  iterate 1 refine em_next rfl ?_
  -- the call of tellSleeper
  have fin : ∀ M, Q none M → em_wp em_sc0 (d + 6) 190 86 [some (.ref 284), none, none] [] M Q := fun M hQ => by
    iterate 1 refine em_next rfl ?_
    exact em_done rfl hQ
  have h' : mO b L sd lw I J (fun r M' => em_wp em_sc0 (d + 6) 190 86 [some (.ref 284), none, none] (r.toList ++ []) M' Q) (tl_b (tl_name (tk_K b L) (tk_N b L) (tk_P b L) s.nt s.n (t + 1) s.la) (fun c => tl_b (tl_int (tk_K b L) (tk_V b L) (tk_P b L) 1 c.1 c.2) (fun e => tl_b (tl_int (tk_K b L) (tk_V b L) (tk_P b L) 9 e.1 e.2) (fun g => tl_b (tl_tk (tk_K b L) 4 g.1 g.2) (fun x => .inr (x.1, tl_m (s.n + 1) (s.rw + (if tk_V b L c.1 = 1 then 2 ^ s.n else 0)) (tl_up s.hb s.n (tk_V b L e.1)) (tl_up s.nt s.n (t + 1)) s.cc s.co s.fc s.rg s.bg s.sd s.F (x.2))))))) := by
    revert h
    dsimp only
    generalize tl_b (tl_name (tk_K b L) (tk_N b L) (tk_P b L) s.nt s.n (t + 1) s.la) _ = X
    intro h
    cases X with
    | inl e => exact fun I' J' z1 z2 => fin _ (h I' J' z1 z2)
    | inr w => exact fun I' J' z1 z2 => fin _ (h I' J' z1 z2)
  refine em_inv_call rfl ?_
  show em_call (d + 5) 192 [.ref 284] (em_SH, I1, J, em_RT lw) (fun r M' => em_wp em_sc0 (d + 6) 190 86 [some (.ref 284), none, none] (r.toList ++ []) M' Q)
  generalize (fun (r : Option Value) (M' : em_M) => em_wp em_sc0 (d + 6) 190 86 [some (.ref 284), none, none] (r.toList ++ []) M' Q) = Q' at h' ⊢
  have hS1 := hS.bg (bg.g a1)
  have x1 := hx.g a1
  have r1 : rfr sd I I1 J J := rfr.bg (bg.g a1)
  unfold em_call
  iterate 8 refine em_next rfl ?_
  refine em_ialE (k := sd) rfl rfl hS1.1.1 hsd (by decide) ?_
  iterate 1 refine em_next rfl ?_
  refine em_tp (y := nI (9 * sd + s.n)) (by rw [hS1.2.1.1]; exact em_idxE (c := 9) hS1.1.1) ?_
  iterate 3 refine em_next rfl ?_
  refine em_tp a2.2.2.1 ?_
  iterate 3 refine em_next rfl ?_
  unfold tl_name at h'
  refine em_inv_call rfl (me_must (k := 1) x1 a2 (by decide) (by decide) (by decide) (fun z1 z2 _ I2 b1 b2 => ?_) (fun e e2 I2 b1 b2 => ?_))
  · rw [if_pos z1, show tl_acc (t + 1) (if tl_has (tk_N b L) s.nt (tk_N b L (t + 1)) s.n = true then tl_note 3 (tk_P b L (t + 1)) s.la else s.la) = .inr (t + 1 + 1, if tl_has (tk_N b L) s.nt (tk_N b L (t + 1)) s.n = true then tl_note 3 (tk_P b L (t + 1)) s.la else s.la) from if_pos z2, tl_b_inr] at h'
    iterate 2 refine em_next rfl ?_
    have bg2 := (bg.g a1).tr (bg.g b1)
    have hS2 := hS.bg bg2
    have hgu : tk_gd (tk_K b L) (t + 1) := a2.2.1
    refine me_names (u := t + 1) (i := 0) (m := s.n) (nn := s.n) (nt := s.nt) (la := s.la) hL (x1.g b1) b2 z1 hS2.1.2 hn9 (fun j hj => ⟨hS2.2.2.1.2.2.2 j hj, hw.2 j hj⟩) (Nat.zero_add _) (((hlt.g a1).g b1).mono (by omega)) (fun q hq => ?_) (fun I3 o3 c1 c2 c3 => ?_)
    · have hq' : s.la = some q := hq
      have hlt' := hlt
      rw [hq'] at hlt'
      obtain ⟨y1, y2, y3, r, y4, y5⟩ := hlt'
      exact Or.inl (by rw [y5]; exact tk_P_lt (by omega) hgu)
    · have bg3 := bg2.tr c1
      refine me_sl_rest (t := t) (u := t + 1) (C := C) (B := B) (hc := hc) (I0 := I) (s := s) (la := if tl_has (tk_N b L) s.nt (tk_N b L (t + 1)) s.n = true then tl_note 3 (tk_P b L (t + 1)) s.la else s.la) hL hsd ((x1.g b1).bg c1) c2 ?_ z1 (by omega) c3 (fun e => (tl_if_n e).2) hg (by omega) (hS.bg bg3) (rfr.bg bg3) h'
      rw [bg3.2 _ (by decide)]; exact ho
  · have e3 : (if tk_K b L (t + 1) = 1 then tl_acc (t + 1) (if tl_has (tk_N b L) s.nt (tk_N b L (t + 1)) s.n = true then tl_note 3 (tk_P b L (t + 1)) s.la else s.la) else .inl (1, t + 1)) = .inl e := e2 _
    rw [e3, tl_b_inl] at h'
    iterate 2 refine em_next rfl ?_
    have bad : em_wp em_sc0 (d + 5) 192 73 [some (.ref 284), some (.int (nI (9 * sd + s.n))), some (.int (nI (t + 1))), some (.int (nI 0))] [] (em_SH, I2, J, em_RT lw) Q' := me_sl_b (d := d + 1) hsd (by omega) b2 (r1.tr (rfr.bg (bg.g b1))) h'
    iterate 4 refine em_next rfl ?_
    refine em_c_ge (fun _ => bad) (fun _ => ?_)
    iterate 3 refine em_next rfl ?_
    exact em_z_neE b2.1 (fun _ => bad) (fun z => absurd z b2.ne)
theorem me_tell_law {t : Nat} {s : tl_S} (hsd : sd < 2) (hx : mx b L nT I J) (hU : mU b L sd t s I J) (hk : ¬ tk_K b L t = 20 ∧ ¬ tk_K b L t = 21 ∧ ¬ tk_K b L t = 26 ∧ ¬ tk_K b L t = 27 ∧ ¬ tk_K b L t = 28) (h : mO b L sd lw I J Q (tl_one (tk_K b L) (tk_V b L) (tk_N b L) (tk_P b L) t s)) : em_wp em_sc0 (d + 6) 190 243 [some (.ref 284), none, none] [] (em_SH, I, J, em_RT lw) Q := by
  obtain ⟨hm, ho, hlt, C, B, hc, hS⟩ := hU
  have ht := hm.1
  have hT := hx.tok hm
  have hr := kr b L t
  have h22 := sub22 _ hr
  unfold tl_one at h
  rw [if_neg hk.1, if_neg hk.2.1, if_neg hk.2.2.1, if_neg hk.2.2.2.1, if_neg hk.2.2.2.2] at h
  have bad : ¬ (22 ≤ tk_K b L t ∧ tk_K b L t ≤ 25) → ∀ x : Int32, em_wp em_sc0 (d + 6) 190 274 [some (.ref 284), some (.int (x)), none] [] (em_SH, I, J, em_RT lw) Q := fun z x => by
    rw [if_neg z] at h
    iterate 2 refine em_next rfl ?_
    refine em_inv_call rfl (me_fail (k := 1) hx hm (by decide) (by decide) (fun I1 a1 a2 _ => ?_))
    iterate 3 refine em_next rfl ?_
    refine em_z_leE a2.1 (fun z => absurd z a2.gt) (fun _ => ?_)
    exact em_done rfl (h I1 J (rfr.bg (bg.g a1)) a2)
  iterate 4 refine em_next rfl ?_
  refine em_ialE (k := t) rfl rfl hm.2.2.1 (by omega) (by decide) ?_
  refine em_tp hT.1 ?_
  iterate 5 refine em_next rfl ?_
  refine em_z_ltE (x' := nI (tk_K b L t) - 22) rfl (fun z => ?_) (fun z => ?_)
  · refine bad (fun q => ?_) _
    exact absurd z (h22.2 q.1).1
  have z1 : 22 ≤ tk_K b L t := by
    by_cases e : tk_K b L t < 22
    · exact absurd (h22.1 e) z
    · omega
  iterate 4 refine em_next rfl ?_
  refine em_ialE (k := t) rfl rfl hm.2.2.1 (by omega) (by decide) ?_
  iterate 2 refine em_next rfl ?_
  refine em_c_leE hT.1 (y' := nI 25) rfl (fun z => ?_) (fun z => ?_)
  rotate_left
  · refine bad (fun q => ?_) _
    exact absurd ((nI_leI (by omega) (by decide)).mpr q.2) z
  have z2 := (nI_leI (by omega) (by decide)).mp z
  rw [if_pos ⟨z1, z2⟩] at h
  have ek : nI (tk_K b L t) - 22 = nI (tk_K b L t - 22) := (h22.2 z1).2
  iterate 3 refine em_next rfl ?_
  refine em_z_leE hm.2.2.2 (fun _ => ?_) (fun z => absurd (by decide) z)
  iterate 1 refine em_next rfl ?_
  unfold tl_law at h
  refine em_inv_call rfl (me_goesOn hx hm (by omega) (fun y I1 a1 a2 => ?_) (fun y I1 a1 a2 => ?_))
  · rw [show tl_acc t none = .inr (t + 1, none) from if_pos y, tl_b_inr] at h
    have hS1 := hS.bg (bg.g a1)
    obtain ⟨s1, s2, s3, s4, ⟨k1, k2, k3⟩, s6⟩ := hS1
    iterate 2 refine em_next rfl ?_
    refine em_tp ek ?_
    refine em_inv_call rfl (me_tellLaw (sd := sd) (k := tk_K b L t - 22) (C0 := C) (B0 := B) (t := t + 1) (C := 0) hsd (by omega) (hx.g a1) s1.1 a2 ((a1.2 _ (by decide)).trans ho) k1 (by omega) k2 (by omega) ?_)
    dsimp only at h
    cases hX : tl_b (tl_tk (tk_K b L) 5 (t + 1) none) (fun x => tl_ifs (tk_K b L) (tk_V b L) 4 x.1) with
    | inl e =>
      rw [hX, tl_b_inl] at h
      intro I2 b1 b2
      exact em_done rfl (h I2 J ((rfr.bg (bg.g a1)).tr (rfr.l (by omega) b1)) b2)
    | inr w =>
      rw [hX, tl_b_inr] at h
      have tw : t + 1 ≤ w.1 := by
        obtain ⟨x, y1, y2⟩ := tl_b_r hX
        obtain ⟨y3, y4, rfl⟩ := tl_tk_r y1
        have := tl_ifs_g (K := tk_K b L) (V := tk_V b L) (fun t h => tk_V_lt h) (by dsimp only; omega) y2
        have := this.1
        dsimp only at this
        omega
      intro I2 C2 b1 b2 b3 b4 b5 b6 b7 b8 b9 b10 b11 b12
      rw [List.nil_append] at b7 b8 b9 b11
      have w2 : ∀ a, a ∉ lcells → I2 a = I1 a := b1.1
      refine em_done rfl (h I2 J ((rfr.bg (bg.g a1)).tr (rfr.l (by omega) b1)) ⟨b2, b3, ((hlt.g a1).keep (b1.2.1 _ (by decide)) (b1.2.1 _ (by decide))).mono (by dsimp only; omega), C2, B + w.2.1.length + 1, hc, ⟨?_, ?_⟩, ?_, ?_, ?_, ⟨b4, b7, fun k hk => ?_⟩, b6, b8⟩)
      · rw [b1.2.1 _ (by decide)]; exact s1.1
      · rw [b1.2.1 _ (by decide)]; exact s1.2
      · rw [w2 _ (by decide), w2 _ (by decide), w2 _ (by decide), w2 _ (by decide), w2 _ (by decide)]; exact s2
      · rw [w2 _ (by decide), w2 _ (by decide), w2 _ (by decide)]; exact s3
      · rw [w2 _ (by decide)]; exact s4
      · show mlc I2 sd k C2 (B + w.2.1.length + 1) (tl_up s.F (tk_K b L t - 22) (some w.2) k) ∧ ek_wl (tl_up s.F (tk_K b L t - 22) (some w.2) k)
        unfold tl_up
        by_cases e : k = tk_K b L t - 22
        · rw [if_pos e, e]
          exact ⟨⟨130 * sd + B, by omega, show 130 * sd + B + w.2.1.length + 1 ≤ 130 * sd + (B + w.2.1.length + 1) by omega, b10, b11, b9⟩, b12⟩
        · rw [if_neg e]
          exact ⟨(k3 k hk).1.l b1 e b5 (by omega), (k3 k hk).2⟩
  · rw [show tl_acc t none = .inl (2, t) from if_neg y, tl_b_inl, tl_b_inl] at h
    have hS1 := hS.bg (bg.g a1)
    iterate 2 refine em_next rfl ?_
    refine em_tp ek ?_
    refine em_inv_call rfl (me_tellLaw_b (sd := sd) (k := tk_K b L t - 22) (C0 := C) (B0 := B) hsd a2 hS1.2.2.2.2.1.2.1 (by have := hS.2.2.2.2.2.2; omega) (fun I2 b1 b2 => ?_))
    exact em_done rfl (h I2 J ((rfr.bg (bg.g a1)).tr (rfr.l (by omega) b1)) b2)
theorem me_tellOne {t : Nat} {s : tl_S} (hL : L ≤ 2000) (hsd : sd < 2) (hx : mx b L nT I J) (hU : mU b L sd t s I J) (hw : tl_w (tk_K b L) s) (h : mO b L sd lw I J Q (tl_one (tk_K b L) (tk_V b L) (tk_N b L) (tk_P b L) t s)) : em_call (d + 6) 190 [.ref 284] (em_SH, I, J, em_RT lw) Q := by
  have hm := hU.1
  have ht := hm.1
  have hT := hx.tok hm
  have hr := kr b L t
  iterate 4 refine em_next rfl ?_
  refine em_ialE (k := t) rfl rfl hm.2.2.1 (by omega) (by decide) ?_
  refine em_tp hT.1 ?_
  by_cases hk : 20 ≤ tk_K b L t ∧ tk_K b L t ≤ 28
  · rcases (show tk_K b L t = 20 ∨ tk_K b L t = 21 ∨ tk_K b L t = 22 ∨ tk_K b L t = 23 ∨ tk_K b L t = 24 ∨ tk_K b L t = 25 ∨ tk_K b L t = 26 ∨ tk_K b L t = 27 ∨ tk_K b L t = 28 by omega) with e | e | e | e | e | e | e | e | e
    · rw [e]
      iterate 1 refine em_next rfl ?_
      exact me_tell_sleeper hL hsd hx hU hw e h
    · rw [e]
      iterate 1 refine em_next rfl ?_
      exact me_tell_cold hL hsd hx hU hw.1 e h
    · rw [e]
      iterate 1 refine em_next rfl ?_
      exact me_tell_law hsd hx hU (by omega) h
    · rw [e]
      iterate 1 refine em_next rfl ?_
      exact me_tell_law hsd hx hU (by omega) h
    · rw [e]
      iterate 1 refine em_next rfl ?_
      exact me_tell_law hsd hx hU (by omega) h
    · rw [e]
      iterate 1 refine em_next rfl ?_
      exact me_tell_law hsd hx hU (by omega) h
    · rw [e]
      iterate 1 refine em_next rfl ?_
      exact me_tell_ring hL hsd hx hU e h
    · rw [e]
      iterate 1 refine em_next rfl ?_
      exact me_tell_begins hL hsd hx hU e h
    · rw [e]
      iterate 1 refine em_next rfl ?_
      exact me_tell_seed hL hsd hx hU e h
  · refine em_tsd rfl (by rw [nI_toInt (by omega)]; omega) ?_
    exact me_tell_law hsd hx hU (by omega) h
end MTELL5
