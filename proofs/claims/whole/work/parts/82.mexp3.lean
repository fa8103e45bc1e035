/-! the reference's sums, three: as the descent has them -/
theorem stg_pnd {s : List Nat} (h : stg s) : (∀ w ∈ s, w = 10 ∨ w = 15) ∧ s.length ≤ 1 := by
  rcases h with rfl | rfl | rfl
  · exact ⟨fun w hw => absurd hw (List.not_mem_nil), by decide⟩
  · exact ⟨fun w hw => Or.inl (List.mem_singleton.mp hw), by decide⟩
  · exact ⟨fun w hw => Or.inr (List.mem_singleton.mp hw), by decide⟩
theorem fl_app {a c : List Nat} : fl (a ++ c) = fl a ++ fl c := by unfold fl; exact List.map_append
section MEXP3
variable {lw : Nat} {b : Nat → Nat} {L nT sd C0 d : Nat} {I0 : Nat → Nat → Int32} {J : Nat → Nat → Int64} {Q : Option Value → em_M → Prop}
def wA (lw d : Nat) (J : Nat → Nat → Int64) (Q : Option Value → em_M → Prop) (I : Nat → Nat → Int32) : Prop := em_wp em_sc0 (d + 3) 197 23 [some (.ref 284), some (.int (0)), some (.int (1))] [] (em_SH, I, J, em_RT lw) Q
def wB (lw d : Nat) (J : Nat → Nat → Int64) (Q : Option Value → em_M → Prop) (I : Nat → Nat → Int32) : Prop := em_wp em_sc0 (d + 3) 197 96 [some (.ref 284), some (.int (0)), some (.int (1))] [] (em_SH, I, J, em_RT lw) Q
def rO (b : Nat → Nat) (L sd C0 lw : Nat) (I0 : Nat → Nat → Int32) (J : Nat → Nat → Int64) (Q : Option Value → em_M → Prop) (r : rd_R) (g : Nat → ek_cd → Prop) : Prop := match r with
  | .inl e => FO b L sd C0 lw I0 J Q e
  | .inr w => g w.1 w.2
theorem rO_b {r : rd_R} {f : Nat → ek_cd → rd_R} {g : Nat → ek_cd → Prop} (h : rO b L sd C0 lw I0 J Q (rd_b r f) g) : rO b L sd C0 lw I0 J Q r (fun t c => rO b L sd C0 lw I0 J Q (f t c) g) := by
  cases r with
  | inl e => exact h
  | inr w => exact h
theorem rO.m {r : rd_R} {g g' : Nat → ek_cd → Prop} (h : rO b L sd C0 lw I0 J Q r g) (hg : ∀ w, r = .inr w → g w.1 w.2 → g' w.1 w.2) : rO b L sd C0 lw I0 J Q r g' := by
  cases r with
  | inl e => exact h
  | inr w => exact hg w rfl h
theorem me_rd (hsd : sd < 2) (hx : mx b L nT I0 J) (f : Nat) :
    (∀ (nt t : Nat) (W : List Nat) (E : ek_cd) (I : Nat → Nat → Int32), nt ≤ 6 → rd_nd 0 t ≤ f → W.length ≤ 3 * nt + 2 → ms b L sd C0 I0 I t nt W E → rO b L sd C0 lw I0 J Q (rd (tk_K b L) (tk_V b L) f 0 nt t) (fun t' c => ∀ I', ms b L sd C0 I0 I' t' nt W (E ++ c) → wB lw d J Q I') → wA lw d J Q I) ∧
    (∀ (nt t : Nat) (W : List Nat) (E : ek_cd) (I : Nat → Nat → Int32), nt ≤ 6 → rd_nd 1 t ≤ f → W.length ≤ 3 * nt + 1 → sft W → ms b L sd C0 I0 I t nt W E → rO b L sd C0 lw I0 J Q (rd (tk_K b L) (tk_V b L) f 1 nt t) (fun t' c => ∀ I' s E', stg s → E' ++ fl s = E ++ c → ¬ tk_K b L t' = 10 → ¬ tk_K b L t' = 15 → ms b L sd C0 I0 I' t' nt (s ++ W) E' → wB lw d J Q I') → wA lw d J Q I) ∧
    (∀ (nt t : Nat) (W : List Nat) (E : ek_cd) (I : Nat → Nat → Int32), nt ≤ 6 → rd_nd 2 t ≤ f → W.length ≤ 3 * nt → oft W → ms b L sd C0 I0 I t nt W E → rO b L sd C0 lw I0 J Q (rd (tk_K b L) (tk_V b L) f 2 nt t) (fun t' c => ∀ I' p E', pnd p → p.length ≤ 2 → E' ++ fl p = E ++ c → ¬ tk_K b L t' = 8 ∧ ¬ tk_K b L t' = 9 ∧ ¬ tk_K b L t' = 10 ∧ ¬ tk_K b L t' = 15 → ms b L sd C0 I0 I' t' nt (p ++ W) E' → wB lw d J Q I') → wA lw d J Q I) ∧
    (∀ (nt t : Nat) (s W : List Nat) (E : ek_cd) (I : Nat → Nat → Int32), nt ≤ 6 → rd_nd 3 t ≤ f → W.length ≤ 3 * nt + 1 → stg s → sft W → ms b L sd C0 I0 I t nt (s ++ W) E → rO b L sd C0 lw I0 J Q (rd (tk_K b L) (tk_V b L) f 3 nt t) (fun t' c => ∀ I' s' E', stg s' → E' ++ fl s' = E ++ fl s ++ c → ¬ tk_K b L t' = 10 → ¬ tk_K b L t' = 15 → ms b L sd C0 I0 I' t' nt (s' ++ W) E' → wB lw d J Q I') → wB lw d J Q I) ∧
    (∀ (nt t : Nat) (p W : List Nat) (E : ek_cd) (I : Nat → Nat → Int32), nt ≤ 6 → rd_nd 4 t ≤ f → W.length ≤ 3 * nt → pnd p → p.length ≤ 2 → oft W → ¬ tk_K b L t = 10 → ¬ tk_K b L t = 15 → ms b L sd C0 I0 I t nt (p ++ W) E → rO b L sd C0 lw I0 J Q (rd (tk_K b L) (tk_V b L) f 4 nt t) (fun t' c => ∀ I' p' E', pnd p' → p'.length ≤ 2 → E' ++ fl p' = E ++ fl p ++ c → ¬ tk_K b L t' = 8 ∧ ¬ tk_K b L t' = 9 ∧ ¬ tk_K b L t' = 10 ∧ ¬ tk_K b L t' = 15 → ms b L sd C0 I0 I' t' nt (p' ++ W) E' → wB lw d J Q I') → wB lw d J Q I) := by
  have hV : ∀ t, tk_K b L t = 2 → tk_V b L t < 10000 := fun t h => tk_V_lt h
  induction f with
  | zero => exact ⟨fun nt t _ _ _ _ h => by unfold rd_nd at h; rw [if_pos rfl] at h; omega, fun nt t _ _ _ _ h => by unfold rd_nd at h; rw [if_neg (by decide), if_pos rfl] at h; omega, fun nt t _ _ _ _ h => by unfold rd_nd at h; rw [if_neg (by decide), if_neg (by decide), if_pos rfl] at h; omega, fun nt t s W E I _ h _ _ _ hm => by unfold rd_nd at h; have := hm.2.1.1; omega, fun nt t p W E I _ h _ _ _ _ _ _ hm => by unfold rd_nd at h; have := hm.2.1.1; omega⟩
  | succ f ih =>
    obtain ⟨iu, ip, is, ipt, ist⟩ := ih
    refine ⟨?_, ?_, ?_, ?_, ?_⟩
    · intro nt t W E I hnt hnd hW hm h
      unfold rd_nd at hnd
      rw [if_pos rfl] at hnd
      have ht := hm.2.1.1
      rw [rd, if_pos rfl] at h
      by_cases k6 : tk_K b L t = 6
      · rw [if_neg (by omega), if_neg (by omega), if_neg (fun e => e k6)] at h
        refine me_openA hsd hx k6 hnt (by omega) hm (fun y1 y2 I1 a1 => ?_) (fun y => ?_)
        · rw [if_neg (by omega), if_pos y2] at h
          refine is (nt + 1) (t + 1) (6 :: W) E I1 (by omega) (by unfold rd_nd; rw [if_neg (by decide), if_neg (by decide), if_pos rfl]; omega) (by rw [List.length_cons]; omega) (Or.inr ⟨W, rfl⟩) a1 ((rO_b h).m (fun w hw hg => ?_))
          intro I2 p E2 q1 q2 q3 q4 q5
          have g := rd_pr hV (by decide) (by omega) (by omega) hw
          by_cases k7 : tk_K b L w.1 = 7
          · rw [if_pos k7] at hg
            refine me_closeB hsd hx k7 q1 (by omega) (by rw [List.length_append, List.length_cons]; omega) q5 (fun y I3 b1 => ?_) (fun y => ?_)
            · rw [if_pos y] at hg
              rw [q3] at b1
              exact hg I3 b1
            · rw [if_neg y] at hg
              exact hg
          · rw [if_neg k7] at hg
            exact me_endB hsd hx q4 (fun e => k7 e.1) q1 (Or.inr ⟨W, rfl⟩) (by omega) (by rw [List.length_append, List.length_cons]; omega) q5 (fun e => absurd e (by omega)) (fun _ => hg)
        · by_cases y1 : 6 ≤ nt
          · rw [if_pos y1] at h
            exact h
          · rw [if_neg y1, if_neg (by omega)] at h
            exact h
      · refine me_unitA hsd hx k6 hm (fun q hq y I1 a1 => ?_) (fun z y => ?_) (fun z y => ?_)
        · rcases hq with ⟨z, rfl⟩ | ⟨z1, z2, rfl⟩
          · rw [if_pos z, if_pos y] at h
            exact h I1 a1
          · rw [if_neg z1, if_pos z2, if_pos y] at h
            exact h I1 a1
        · by_cases z1 : tk_K b L t = 2
          · rw [if_pos z1, if_neg y] at h
            exact h
          · rw [if_neg z1, if_pos (by omega), if_neg y] at h
            exact h
        · rw [if_neg z, if_neg y, if_pos k6] at h
          exact h
    · intro nt t W E I hnt hnd hW hs hm h
      unfold rd_nd at hnd
      rw [if_neg (by decide), if_pos rfl] at hnd
      have ht := hm.2.1.1
      rw [rd, if_neg (by decide), if_pos rfl] at h
      refine iu nt t W E I hnt (by unfold rd_nd; rw [if_pos rfl]; omega) (by omega) hm ((rO_b h).m (fun w hw hg => ?_))
      intro I1 a1
      obtain ⟨⟨g1, g2, g3, g4⟩, g5, g6⟩ := rd_pr hV (by decide) hnt ht hw
      have g3' := g3 (by decide)
      refine ipt nt w.1 [] W (E ++ w.2) I1 hnt (by unfold rd_nd; rw [if_neg (by decide), if_neg (by decide), if_neg (by decide)]; omega) hW (Or.inl rfl) hs a1 ((rO_b hg).m (fun v hv hh => ?_))
      intro I2 s' E' q1 q2 q3 q4 q5
      refine hh I2 s' E' q1 ?_ q3 q4 q5
      rw [q2, show fl [] = [] from rfl, List.append_nil, List.append_assoc]
    · intro nt t W E I hnt hnd hW hs hm h
      unfold rd_nd at hnd
      rw [if_neg (by decide), if_neg (by decide), if_pos rfl] at hnd
      have ht := hm.2.1.1
      rw [rd, if_neg (by decide), if_neg (by decide), if_pos rfl] at h
      have hs2 : sft W := by
        rcases hs with e | ⟨r, e⟩
        · exact Or.inl e
        · exact Or.inr ⟨6, r, e, Or.inl rfl⟩
      refine ip nt t W E I hnt (by unfold rd_nd; rw [if_neg (by decide), if_pos rfl]; omega) (by omega) hs2 hm ((rO_b h).m (fun w hw hg => ?_))
      intro I1 s E1 q1 q2 q3 q4 q5
      obtain ⟨⟨g1, g2, g3, g4⟩, g5, g6⟩ := rd_pr hV (by decide) hnt ht hw
      have g3' := g3 (by decide)
      have sp := stg_pnd q1
      refine ist nt w.1 s W E1 I1 hnt (by unfold rd_nd; rw [if_neg (by decide), if_neg (by decide), if_neg (by decide)]; omega) hW (fun x hx => Or.inr (Or.inr (sp.1 x hx))) (by omega) hs q3 q4 q5 ((rO_b hg).m (fun v hv hh => ?_))
      intro I2 p E' u1 u2 u3 u4 u5
      refine hh I2 p E' u1 u2 ?_ u4 u5
      rw [u3, q2, List.append_assoc]
    · intro nt t s W E I hnt hnd hW hst hs hm h
      unfold rd_nd at hnd
      rw [if_neg (by decide), if_neg (by decide), if_neg (by decide)] at hnd
      have ht := hm.2.1.1
      rw [rd, if_neg (by decide), if_neg (by decide), if_neg (by decide), if_pos rfl] at h
      have sp := stg_pnd hst
      by_cases k : tk_K b L t = 10 ∨ tk_K b L t = 15
      · rw [if_pos k] at h
        refine me_opB (k := tk_K b L t) hsd hx rfl (Or.inr (Or.inr k)) (fun x hx => Or.inr (Or.inr (sp.1 x hx))) (fun _ => sp.1) ⟨fun e => by omega, hs⟩ (by rw [List.length_append]; omega) hm (fun y I1 a1 => ?_) (fun y => ?_)
        · rw [if_pos y] at h
          refine iu nt (t + 1) (tk_K b L t :: W) (E ++ fl s) I1 hnt (by unfold rd_nd; rw [if_pos rfl]; omega) (by rw [List.length_cons]; omega) a1 ((rO_b h).m (fun w hw hg => ?_))
          intro I2 b1
          obtain ⟨⟨g1, g2, g3, g4⟩, g5, g6⟩ := rd_pr hV (by decide) hnt (by omega) hw
          have g3' := g3 (by decide)
          refine ipt nt w.1 [tk_K b L t] W (E ++ fl s ++ w.2) I2 hnt (by unfold rd_nd; rw [if_neg (by decide), if_neg (by decide), if_neg (by decide)]; omega) hW (by rcases k with k | k <;> rw [k]; exact Or.inr (Or.inl rfl); exact Or.inr (Or.inr rfl)) hs b1 ((rO_b hg).m (fun v hv hh => ?_))
          intro I3 s' E' q1 q2 q3 q4 q5
          refine hh I3 s' E' q1 ?_ q3 q4 q5
          rw [q2]
          show E ++ fl s ++ w.2 ++ [(rd_op (tk_K b L t), 0)] ++ v.2 = _
          simp only [List.append_assoc, List.cons_append, List.nil_append]
        · rw [if_neg y] at h
          exact h
      · rw [if_neg k] at h
        refine h I s E hst ?_ (fun e => k (Or.inl e)) (fun e => k (Or.inr e)) hm
        rw [List.append_nil]
    · intro nt t p W E I hnt hnd hW hp hpl hs hk10 hk15 hm h
      unfold rd_nd at hnd
      rw [if_neg (by decide), if_neg (by decide), if_neg (by decide)] at hnd
      have ht := hm.2.1.1
      rw [rd, if_neg (by decide), if_neg (by decide), if_neg (by decide), if_neg (by decide)] at h
      have hs2 : sft W := by
        rcases hs with e | ⟨r, e⟩
        · exact Or.inl e
        · exact Or.inr ⟨6, r, e, Or.inl rfl⟩
      by_cases k : tk_K b L t = 8 ∨ tk_K b L t = 9
      · rw [if_pos k] at h
        refine me_opB (k := tk_K b L t) hsd hx rfl (by omega) hp (fun e => by omega) ⟨fun _ => hs, hs2⟩ (by rw [List.length_append]; omega) hm (fun y I1 a1 => ?_) (fun y => ?_)
        · rw [if_pos y] at h
          refine ip nt (t + 1) (tk_K b L t :: W) (E ++ fl p) I1 hnt (by unfold rd_nd; rw [if_neg (by decide), if_pos rfl]; omega) (by rw [List.length_cons]; omega) (Or.inr ⟨tk_K b L t, W, rfl, by omega⟩) a1 ((rO_b h).m (fun w hw hg => ?_))
          intro I2 s E2 q1 q2 q3 q4 q5
          obtain ⟨⟨g1, g2, g3, g4⟩, g5, g6⟩ := rd_pr hV (by decide) hnt (by omega) hw
          have g3' := g3 (by decide)
          have sp := stg_pnd q1
          refine ist nt w.1 (s ++ [tk_K b L t]) W E2 I2 hnt (by unfold rd_nd; rw [if_neg (by decide), if_neg (by decide), if_neg (by decide)]; omega) hW (fun x hx => ?_) (by rw [List.length_append]; dsimp only [List.length]; omega) hs q3 q4 (by rw [List.append_assoc]; exact q5) ((rO_b hg).m (fun v hv hh => ?_))
          · rcases List.mem_append.mp hx with hx | hx
            · exact Or.inr (Or.inr (sp.1 x hx))
            · rw [List.mem_singleton.mp hx]; omega
          · intro I3 p' E' u1 u2 u3 u4 u5
            refine hh I3 p' E' u1 u2 ?_ u4 u5
            rw [u3, fl_app, ← List.append_assoc, q2]
            show E ++ fl p ++ w.2 ++ [(rd_op (tk_K b L t), 0)] ++ v.2 = _
            simp only [List.append_assoc, List.cons_append, List.nil_append]
        · rw [if_neg y] at h
          exact h
      · rw [if_neg k] at h
        refine h I p E hp hpl ?_ ⟨fun e => k (Or.inl e), fun e => k (Or.inr e), hk10, hk15⟩ hm
        rw [List.append_nil]
/-- a whole sum -/
theorem me_expression {t : Nat} {I : Nat → Nat → Int32} (hsd : sd < 2) (hx : mx b L nT I J) (hm : mat b L t I) (ho : I 284 12 = nI 0) (hcd : I 284 39 = nI (420 * sd + C0)) (hC : C0 ≤ t) (h1 : ∀ w, tl_sum (tk_K b L) (tk_V b L) t = .inr w → t < w.1 → w.2.length ≤ w.1 - t → ek_wx w.2 → ∀ I' : Nat → Nat → Int32, ef sd C0 I I' → mat b L w.1 I' → I' 284 12 = nI 0 → I' 284 39 = nI (420 * sd + (C0 + w.2.length)) → mcd I' (420 * sd + C0) w.2 → Q none (em_SH, I', J, em_RT lw)) (h2 : ∀ e, tl_sum (tk_K b L) (tk_V b L) t = .inl e → FO b L sd C0 lw I J Q e) : em_call (d + 3) 197 [.ref 284] (em_SH, I, J, em_RT lw) Q := by
  have ht := hm.1
  have e0 : I 284 12 = 0 := ho
  iterate 3 refine em_next rfl ?_
  show em_wp em_sc0 (d + 3) 197 _ _ _ (em_SH, em_u I 284 43 0, J, em_RT lw) Q
  iterate 2 refine em_next rfl ?_
  refine em_tp (y := 0) (by show em_u I 284 43 0 284 12 = 0; rw [em_u_ne (by decide)]; exact e0) ?_
  iterate 3 refine em_next rfl ?_
  iterate 2 refine em_next rfl ?_
  refine em_z_eq (fun z => absurd z (by decide)) (fun _ => ?_)
  iterate 3 refine em_next rfl ?_
  refine em_z_neE (x' := nI 0) (by show em_u I 284 43 0 284 13 = nI 0; rw [em_u_ne (by decide)]; exact hm.2.2.2) (fun z => absurd rfl z) (fun _ => ?_)
  have hef : ef sd C0 I (em_u I 284 43 0) := ⟨fun a ha => em_u_row (fun e => ha (by rw [e]; decide)), fun j hj => em_u_ne (fun e => hj (by rw [e]; decide)), fun j _ => by rw [em_u_row (by decide), em_u_row (by decide)]; exact ⟨rfl, rfl⟩⟩
  have hms : ms b L sd C0 I (em_u I 284 43 0) t 0 [] [] := ⟨⟨hef, ⟨by rw [em_u_ne (by decide)]; exact ho, em_u_self, trivial⟩, ⟨by rw [em_u_ne (by decide)]; exact hcd, trivial⟩, by dsimp only [List.length]; omega, fun w hw => absurd hw (List.not_mem_nil)⟩, hm.keep (em_u_ne (by decide)) (em_u_ne (by decide)), by dsimp only [List.length]; omega⟩
  refine (me_rd (C0 := C0) (lw := lw) (d := d) (Q := Q) hsd hx 1700).2.2.1 0 t [] [] _ (by decide) (by unfold rd_nd; rw [if_neg (by decide), if_neg (by decide), if_pos rfl]; omega) (by decide) (Or.inl rfl) hms ?_
  cases hr : rd (tk_K b L) (tk_V b L) 1700 2 0 t with
  | inl e => exact h2 e hr
  | inr w =>
    intro I1 p E' q1 q2 q3 q4 q5
    rw [List.nil_append] at q3
    obtain ⟨⟨g1, g2, g3, g4⟩, g5, g6⟩ := rd_pr (fun t h => tk_V_lt h) (by decide) (by decide) ht hr
    refine me_endB hsd hx q4 (fun e => absurd e.2 (by decide)) q1 (Or.inl rfl) (by decide) (by rw [List.length_append]; dsimp only [List.length]; omega) q5 (fun _ I2 a1 => ?_) (fun e => absurd e (by decide))
    rw [q3] at a1
    refine h1 w hr (g3 (by decide)) g4 g6 I2 a1.1.1 a1.2.1 a1.1.2.1.1 ?_ a1.1.2.2.1.2
    have := a1.1.2.2.1.1
    rw [show 420 * sd + C0 + w.2.length = 420 * sd + (C0 + w.2.length) by omega] at this
    exact this
end MEXP3
