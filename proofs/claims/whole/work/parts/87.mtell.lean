/-! what the reference was told so far -/
def HR : List Nat := [293, 297, 299, 300, 301, 294, 295, 296, 298, 302, 303, 304, 305, 306, 307, 308, 309, 310]
def hwd (a : Nat) : Nat := if a ∈ [293, 297, 299, 300, 301] then 1 else if a ∈ [294, 295, 296, 298] then 9 else if a ∈ [302, 303] then 4 else if a ∈ [309, 310] then 420 else 130
/-- what telling changes -/
def rfr (sd : Nat) (I I' : Nat → Nat → Int32) (J J' : Nat → Nat → Int64) : Prop := (∀ a, a ∉ 284 :: 311 :: HR → I' a = I a) ∧ (∀ j, j ∉ [11, 12, 13, 14, 43, 39, 33, 15, 16, 20] → I' 284 j = I 284 j) ∧ (∀ a ∈ HR, ∀ j, ¬ (hwd a * sd ≤ j ∧ j < hwd a * sd + hwd a) → I' a j = I a j) ∧ ∀ a, a ≠ 292 → J' a = J a
/-- a law told, within the first C steps and B branches -/
def mlc (I : Nat → Nat → Int32) (sd k C B : Nat) : ek_lw → Prop
  | none => I 302 (4 * sd + k) = I 303 (4 * sd + k)
  | some (bs, t) => ∃ b0, 130 * sd ≤ b0 ∧ b0 + bs.length + 1 ≤ 130 * sd + B ∧ I 302 (4 * sd + k) = nI b0 ∧ I 303 (4 * sd + k) = nI (b0 + bs.length + 1) ∧ mbr I (420 * sd) (420 * sd + C) b0 bs t
def mS0 (b : Nat → Nat) (L sd t : Nat) (s : tl_S) (I : Nat → Nat → Int32) (J : Nat → Nat → Int64) (C B : Nat) (hc : Nat → Bool) : Prop :=
  (I 284 19 = nI sd ∧ I 284 20 = nI s.n) ∧ (I 293 sd = nI s.n ∧ I 297 sd = nI s.cc ∧ I 299 sd = nI s.rg ∧ I 300 sd = nI s.bg ∧ I 301 sd = nI s.sd) ∧
  ((∀ j, j < s.n → I 295 (9 * sd + j) = nI (s.hb j)) ∧ (∀ j, j < s.n → s.la = none → I 294 (9 * sd + j) = em_bit s.rw j) ∧ (∀ j, j < 9 → I 296 (9 * sd + j) = nI (s.co j)) ∧ ∀ j, j < s.n → J 292 j = lN (tk_tr 8 (tk_N b L (s.nt j)))) ∧
  ((∀ j, j < 9 → I 298 (9 * sd + j) = em_bb (hc j)) ∧ (s.la = none → (∀ j, j < 9 → hc j = true → j < s.fc) ∧ (0 < s.fc → s.fc ≤ 9 ∧ hc (s.fc - 1) = true))) ∧
  (I 284 39 = nI (420 * sd + C) ∧ I 284 33 = nI (130 * sd + B) ∧ ∀ k, k < 4 → mlc I sd k C B (s.F k) ∧ ek_wl (s.F k)) ∧ C ≤ t ∧ 4 * B ≤ t
def mU (b : Nat → Nat) (L sd t : Nat) (s : tl_S) (I : Nat → Nat → Int32) (J : Nat → Nat → Int64) : Prop := mat b L t I ∧ I 284 12 = nI 0 ∧ mlt b L t I s.la ∧ ∃ C B hc, mS0 b L sd t s I J C B hc
def mO (b : Nat → Nat) (L sd lw : Nat) (I : Nat → Nat → Int32) (J : Nat → Nat → Int64) (Q : Option Value → em_M → Prop) (r : tl_E ⊕ (Nat × tl_S)) : Prop := match r with
  | .inl e => ∀ (I' : Nat → Nat → Int32) (J' : Nat → Nat → Int64), rfr sd I I' J J' → mfl b L I' e → Q none (em_SH, I', J', em_RT lw)
  | .inr w => ∀ (I' : Nat → Nat → Int32) (J' : Nat → Nat → Int64), rfr sd I I' J J' → mU b L sd w.1 w.2 I' J' → Q none (em_SH, I', J', em_RT lw)
section MTELL
variable {d lw : Nat} {b : Nat → Nat} {L nT sd : Nat} {I I0 I' I'' : Nat → Nat → Int32} {J J0 J' J'' : Nat → Nat → Int64} {M : em_M} {Q : Option Value → em_M → Prop}
theorem rfr.rf : rfr sd I I J J := ⟨fun _ _ => rfl, fun _ _ => rfl, fun _ _ _ _ => rfl, fun _ _ => rfl⟩
theorem rfr.tr (h : rfr sd I I' J J') (h' : rfr sd I' I'' J' J'') : rfr sd I I'' J J'' := ⟨fun a z => (h'.1 a z).trans (h.1 a z), fun j hj => (h'.2.1 j hj).trans (h.2.1 j hj), fun a ha j hj => (h'.2.2.1 a ha j hj).trans (h.2.2.1 a ha j hj), fun a ha => (h'.2.2.2 a ha).trans (h.2.2.2 a ha)⟩
theorem HR_mo : ∀ a ∈ HR, a ≠ 284 := by decide
theorem rfr.bg (h : bg I I') : rfr sd I I' J J := ⟨fun a ha => h.1 a (fun e => ha (by rw [e]; decide)), fun j hj => h.2 j (fun e => hj (by revert e; simp; omega)), fun a ha j _ => by rw [h.1 a (HR_mo a ha)], fun _ _ => rfl⟩
theorem rfr.u {a i : Nat} {x : Int32} (ha : a ∈ HR) (hi : hwd a * sd ≤ i ∧ i < hwd a * sd + hwd a) : rfr sd I (em_u I a i x) J J := ⟨fun c hc => em_u_row (fun e => hc (by rw [e]; exact List.mem_cons_of_mem _ (List.mem_cons_of_mem _ ha))), fun j _ => by rw [em_u_row (Ne.symm (HR_mo a ha))], fun c _ j hj => by
  by_cases e : c = a
  · subst e; rw [em_u_ne (fun e => hj (by rw [e]; exact hi))]
  · rw [em_u_row e], fun _ _ => rfl⟩
theorem rfr.nm {x : Int32} : rfr sd I (em_u I 284 20 x) J J := ⟨fun c hc => em_u_row (fun e => hc (by rw [e]; decide)), fun j hj => em_u_ne (fun e => hj (by rw [e]; decide)), fun c hc j _ => by rw [em_u_row (HR_mo c hc)], fun _ _ => rfl⟩
theorem rfr.j {i : Nat} {x : Int64} : rfr sd I I J (em_uj J 292 i x) := ⟨fun _ _ => rfl, fun _ _ => rfl, fun _ _ _ _ => rfl, fun a ha => em_uj_row ha⟩
theorem rfr.l {C0 B0 k : Nat} (hk : k < 4) (h : lf sd C0 B0 k I I') : rfr sd I I' J J := by
  obtain ⟨h1, h2, h3, h4, h5⟩ := h
  refine ⟨fun a ha => h1 a (fun e => ha ?_), fun j hj => h2 j (fun e => hj (by revert e; simp; omega)), fun a ha j hj => ?_, fun _ _ => rfl⟩
  · have : ∀ a ∈ lcells, a ∈ 284 :: 311 :: HR := by decide
    exact this a e
  · by_cases e1 : a ∈ lcells
    · have : ∀ a ∈ lcells, a ∈ HR → (a = 309 ∧ hwd a = 420) ∨ (a = 310 ∧ hwd a = 420) ∨ (a = 302 ∧ hwd a = 4) ∨ (a = 303 ∧ hwd a = 4) ∨ (a ∈ brows ∧ hwd a = 130) := by decide
      rcases this a e1 ha with ⟨e, w⟩ | ⟨e, w⟩ | ⟨e, w⟩ | ⟨e, w⟩ | ⟨e, w⟩
      · rw [w] at hj; subst e; exact (h3 j (by omega)).1
      · rw [w] at hj; subst e; exact (h3 j (by omega)).2
      · rw [w] at hj; subst e; exact (h5 j (by omega)).1
      · rw [w] at hj; subst e; exact (h5 j (by omega)).2
      · rw [w] at hj; exact h4 a e j (by omega)
    · rw [h1 a e1]
theorem mx.r (h : mx b L nT I J) (f : rfr sd I I' J J') : mx b L nT I' J' := h.keep (f.1 _ (by decide)) (f.1 _ (by decide)) (f.1 _ (by decide)) (f.2.2.2 _ (by decide))
theorem mlc.rows {k C B : Nat} {l : ek_lw} (h : mlc I sd k C B l) (he : ∀ a ∈ mrows, I' a = I a) : mlc I' sd k C B l := by
  have hd : ∀ a ∈ brows, a ∈ mrows := by decide
  cases l with
  | none => exact (by rw [he _ (by decide)] : I' 302 (4 * sd + k) = I 302 (4 * sd + k)).trans (h.trans (by rw [he _ (by decide)]))
  | some q =>
    obtain ⟨bs, t⟩ := q
    obtain ⟨b0, g1, g2, g3, g4, g5⟩ := h
    exact ⟨b0, g1, g2, by rw [he _ (by decide)]; exact g3, by rw [he _ (by decide)]; exact g4, g5.keep (l2 := 0) (h2 := 130 * sd + B) (by omega) g2 (fun j _ _ => ⟨by rw [he _ (by decide)], by rw [he _ (by decide)]⟩) (fun a ha j _ _ => by rw [he a (hd a ha)])⟩
theorem mlc.l {k j C0 B0 C B : Nat} {l : ek_lw} (h : mlc I sd j C0 B0 l) (f : lf sd C0 B0 k I I') (hj : j ≠ k) (hC : C0 ≤ C) (hB : B0 ≤ B) : mlc I' sd j C B l := by
  obtain ⟨h1, h2, h3, h4, h5⟩ := f
  have hx := h5 (4 * sd + j) (by omega)
  cases l with
  | none => exact (hx.1.trans h).trans hx.2.symm
  | some q =>
    obtain ⟨bs, t⟩ := q
    obtain ⟨b0, g1, g2, g3, g4, g5⟩ := h
    exact ⟨b0, g1, by omega, hx.1.trans g3, hx.2.trans g4, (g5.keep (l2 := 130 * sd) (h2 := 130 * sd + B0) (by omega) g2 (fun i i1 i2 => h3 i (by omega)) (fun a ha i i1 i2 => h4 a ha i (by omega))).mono (by omega)⟩
theorem mlc.ml {k C B : Nat} {l : ek_lw} (h : mlc I sd k C B l) (hC : C ≤ 420) (hB : B ≤ 130) : ml I sd k l := by
  cases l with
  | none => exact h
  | some q =>
    obtain ⟨bs, t⟩ := q
    obtain ⟨b0, g1, g2, g3, g4, g5⟩ := h
    exact ⟨b0, g1, by omega, g3, g4, g5.mono (by omega)⟩
/-- the state under changed places and notes -/
theorem mS0.bg {t C B : Nat} {s : tl_S} {hc : Nat → Bool} (h : mS0 b L sd t s I J C B hc) (f : bg I I') : mS0 b L sd t s I' J C B hc := by
  obtain ⟨⟨a1, a2⟩, h2, h3, h4, ⟨d1, d2, d3⟩, h6⟩ := h
  have hm : ∀ a ∈ mrows, a ≠ 284 := by decide
  refine ⟨⟨(f.2 _ (by decide)).trans a1, (f.2 _ (by decide)).trans a2⟩, ?_, ?_, ?_, ⟨(f.2 _ (by decide)).trans d1, (f.2 _ (by decide)).trans d2, fun k hk => ⟨(d3 k hk).1.rows (fun a ha => f.1 a (hm a ha)), (d3 k hk).2⟩⟩, h6⟩
  · rw [f.1 _ (by decide), f.1 _ (by decide), f.1 _ (by decide), f.1 _ (by decide), f.1 _ (by decide)]; exact h2
  · rw [f.1 _ (by decide), f.1 _ (by decide), f.1 _ (by decide)]; exact h3
  · rw [f.1 _ (by decide)]; exact h4
theorem tl_note_n {k p : Nat} {la : tl_F} : ¬ tl_note k p la = none := by
  cases la <;> simp [tl_note]
theorem tl_if_n {c : Prop} [Decidable c] {k p : Nat} {la : tl_F} (h : (if c then tl_note k p la else la) = none) : ¬ c ∧ la = none := by
  by_cases e : c
  · rw [if_pos e] at h; exact absurd h tl_note_n
  · rw [if_neg e] at h; exact ⟨e, h⟩
theorem tl_told {K V P : Nat → Nat} {m t : Nat} {la : tl_F} {G : Nat → tl_F → tl_S} : tl_b (tl_acc t la) (fun a => tl_b (tl_int K V P m a.1 a.2) (fun c => tl_b (tl_tk K 4 c.1 c.2) (fun x => (.inr (x.1, G (V a.1) x.2) : tl_E ⊕ (Nat × tl_S))))) = tl_b (tl_b (tl_acc t la) (fun a => tl_b (tl_int K V P m a.1 a.2) (fun c => tl_b (tl_tk K 4 c.1 c.2) (fun x => (.inr (x.1, x.2) : tl_E ⊕ (Nat × tl_F)))))) (fun w => .inr (w.1, G (V (t + 1)) w.2)) := by
  cases hr : tl_acc t la with
  | inl e => rfl
  | inr a =>
    obtain ⟨-, rfl⟩ := tl_acc_r hr
    rw [tl_b_inr, tl_b_inr]
    dsimp only
    cases tl_int K V P m (t + 1) la with
    | inl e => rfl
    | inr c =>
      rw [tl_b_inr, tl_b_inr]
      cases tl_tk K 4 c.1 c.2 with
      | inl e => rfl
      | inr x => rfl
end MTELL
