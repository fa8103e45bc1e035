/-! a text's sums, by recursive descent -/
def rd_op (k : Nat) : Nat := if k = 8 then 2 else if k = 9 then 3 else if k = 10 then 4 else 5
abbrev rd_R : Type := (Nat × Nat) ⊕ (Nat × ek_cd)
def rd_b (r : rd_R) (g : Nat → ek_cd → rd_R) : rd_R := match r with
  | .inl e => .inl e
  | .inr q => g q.1 q.2
/-- modes: 0 a unit, 1 a product, 2 a sum, 3 what is left of a product, 4 what is left of a sum -/
def rd (K V : Nat → Nat) : Nat → Nat → Nat → Nat → rd_R
  | 0, _, _, _ => .inl (0, 0)
  | f + 1, m, n, t =>
    if m = 0 then
      (if K t = 2 then (if t < 400 then .inr (t + 1, [(0, V t)]) else .inl (2, t))
       else if 32 ≤ K t ∧ K t ≤ 40 then (if t < 400 then .inr (t + 1, [(1, K t - 32)]) else .inl (2, t))
       else if ¬ K t = 6 then .inl (1, t)
       else if 6 ≤ n then .inl (2, t)
       else if t < 400 then rd_b (rd K V f 2 (n + 1) (t + 1)) (fun t2 c => if K t2 = 7 then (if t2 < 400 then .inr (t2 + 1, c) else .inl (2, t2)) else .inl (1, t2))
       else .inl (2, t))
    else if m = 1 then rd_b (rd K V f 0 n t) (fun t1 c1 => rd_b (rd K V f 3 n t1) (fun t2 c2 => .inr (t2, c1 ++ c2)))
    else if m = 2 then rd_b (rd K V f 1 n t) (fun t1 c1 => rd_b (rd K V f 4 n t1) (fun t2 c2 => .inr (t2, c1 ++ c2)))
    else if m = 3 then
      (if K t = 10 ∨ K t = 15 then (if t < 400 then rd_b (rd K V f 0 n (t + 1)) (fun t1 c1 => rd_b (rd K V f 3 n t1) (fun t2 c2 => .inr (t2, c1 ++ (rd_op (K t), 0) :: c2))) else .inl (2, t)) else .inr (t, []))
    else
      (if K t = 8 ∨ K t = 9 then (if t < 400 then rd_b (rd K V f 1 n (t + 1)) (fun t1 c1 => rd_b (rd K V f 4 n t1) (fun t2 c2 => .inr (t2, c1 ++ (rd_op (K t), 0) :: c2))) else .inl (2, t)) else .inr (t, []))
/-- how much is needed -/
def rd_nd (m t : Nat) : Nat := 4 * (401 - t) + (if m = 0 then 1 else if m = 1 then 2 else if m = 2 then 3 else 0)
def tk_gd (K : Nat → Nat) (t : Nat) : Prop := ∀ s, s < t → ¬ K s = 0 ∧ ¬ K s = 3
theorem tk_gd.s {K : Nat → Nat} {t : Nat} (h : tk_gd K t) (h1 : ¬ K t = 0) (h2 : ¬ K t = 3) : tk_gd K (t + 1) := fun s hs => by
  by_cases e : s = t
  · subst e; exact ⟨h1, h2⟩
  · exact h s (by omega)
theorem rd_b_inr {r : rd_R} {g : Nat → ek_cd → rd_R} {q : Nat × ek_cd} (h : rd_b r g = .inr q) : ∃ t c, r = .inr (t, c) ∧ g t c = .inr q := by
  cases r with
  | inl e => cases h
  | inr x => exact ⟨x.1, x.2, rfl, h⟩
/-- what comes of it: places, lengths, depths -/
theorem rd_pr {K V : Nat → Nat} (hV : ∀ t, K t = 2 → V t < 10000) {f m n t : Nat} (hm : m < 5) (hn : n ≤ 6) (ht : t ≤ 400) {q : Nat × ek_cd} (h : rd K V f m n t = .inr q) : (t ≤ q.1 ∧ q.1 ≤ 400 ∧ (m < 3 → t < q.1) ∧ q.2.length ≤ q.1 - t) ∧ (tk_gd K t → tk_gd K q.1) ∧ (if m = 0 then ek_wd (2 * (6 - n) + 1) q.2 0 1 else if m = 1 then ek_wd (2 * (6 - n) + 2) q.2 0 1 else if m = 2 then ek_wd (2 * (6 - n) + 3) q.2 0 1 else if m = 3 then ek_wd (2 * (6 - n) + 2) q.2 1 1 else ek_wd (2 * (6 - n) + 3) q.2 1 1) := by
  induction f generalizing m n t q with
  | zero => cases h
  | succ f ih =>
    rw [rd] at h
    have opw : ∀ k, 2 ≤ rd_op k ∧ rd_op k ≤ 5 := fun k => by
      unfold rd_op
      repeat' split
      all_goals omega
    have tail : ∀ (hh a : Nat) (c1 c2 : ek_cd), a < hh → ek_wd a c1 0 1 → ek_wd hh c2 1 1 → ∀ k, ek_wd hh (c1 ++ (rd_op k, 0) :: c2) 1 1 := fun hh a c1 c2 ha w1 w2 k => by
      refine wd_app (wd_mono (show a + 1 ≤ hh by omega) (wd_sh (k := 1) w1)) ?_
      rw [ek_wd, if_neg (by have := (opw k).1; dsimp only; omega)]
      exact ⟨(opw k).2, by decide, w2⟩
    rcases (show m = 0 ∨ m = 1 ∨ m = 2 ∨ m = 3 ∨ m = 4 by omega) with rfl | rfl | rfl | rfl | rfl
    · rw [if_pos rfl] at h
      rw [if_pos rfl]
      split at h
      · rename_i k2
        split at h
        · cases h
          refine ⟨⟨by dsimp only; omega, by dsimp only; omega, fun _ => by dsimp only; omega, by dsimp only [List.length]; omega⟩, fun g => g.s (by omega) (by omega), ?_⟩
          rw [ek_wd, if_pos (show (0 : Nat) < 2 by decide)]
          exact ⟨fun e => absurd (show (0 : Nat) = 1 from e) (by decide), hV t k2, by omega, rfl⟩
        · cases h
      · split at h
        · rename_i k2
          split at h
          · cases h
            refine ⟨⟨by dsimp only; omega, by dsimp only; omega, fun _ => by dsimp only; omega, by dsimp only [List.length]; omega⟩, fun g => g.s (by omega) (by omega), ?_⟩
            rw [ek_wd, if_pos (by dsimp only; omega)]
            exact ⟨fun _ => by dsimp only; omega, by dsimp only; omega, by omega, rfl⟩
          · cases h
        · split at h
          · cases h
          · rename_i k6
            split at h
            · cases h
            · split at h
              · obtain ⟨t2, c, h1, h2⟩ := rd_b_inr h
                obtain ⟨⟨g1, g2, g3, g4⟩, g5, g6⟩ := ih (m := 2) (by decide) (by omega) (by omega) h1
                split at h2
                · rename_i k7
                  split at h2
                  · cases h2
                    dsimp only at g1 g2 g3 g4 g5 g6 ⊢
                    refine ⟨⟨by omega, by omega, fun _ => by omega, by omega⟩, fun g => (g5 (g.s (by omega) (by omega))).s (by omega) (by omega), ?_⟩
                    rw [if_neg (by decide), if_neg (by decide), if_pos rfl] at g6
                    rw [show 2 * (6 - n) + 1 = 2 * (6 - (n + 1)) + 3 by omega]
                    exact g6
                  · cases h2
                · cases h2
              · cases h
    · rw [if_neg (by decide), if_pos rfl] at h
      rw [if_neg (by decide), if_pos rfl]
      obtain ⟨t1, c1, h1, h2⟩ := rd_b_inr h
      obtain ⟨t2, c2, h3, h4⟩ := rd_b_inr h2
      obtain ⟨⟨g1, g2, g3, g4⟩, g5, g6⟩ := ih (m := 0) (by decide) hn ht h1
      obtain ⟨⟨k1, k2, k3, k4⟩, k5, k6⟩ := ih (m := 3) (by decide) hn g2 h3
      cases h4
      dsimp only at g1 g2 g3 g4 g5 g6 k1 k2 k3 k4 k5 k6 ⊢
      refine ⟨⟨by omega, by omega, fun _ => by have := g3 (by decide); omega, by rw [List.length_append]; omega⟩, fun g => k5 (g5 g), ?_⟩
      rw [if_pos rfl] at g6
      rw [if_neg (by decide), if_neg (by decide), if_neg (by decide), if_pos rfl] at k6
      exact wd_app (wd_mono (by omega) g6) k6
    · rw [if_neg (by decide), if_neg (by decide), if_pos rfl] at h
      rw [if_neg (by decide), if_neg (by decide), if_pos rfl]
      obtain ⟨t1, c1, h1, h2⟩ := rd_b_inr h
      obtain ⟨t2, c2, h3, h4⟩ := rd_b_inr h2
      obtain ⟨⟨g1, g2, g3, g4⟩, g5, g6⟩ := ih (m := 1) (by decide) hn ht h1
      obtain ⟨⟨k1, k2, k3, k4⟩, k5, k6⟩ := ih (m := 4) (by decide) hn g2 h3
      cases h4
      dsimp only at g1 g2 g3 g4 g5 g6 k1 k2 k3 k4 k5 k6 ⊢
      refine ⟨⟨by omega, by omega, fun _ => by have := g3 (by decide); omega, by rw [List.length_append]; omega⟩, fun g => k5 (g5 g), ?_⟩
      rw [if_neg (by decide), if_pos rfl] at g6
      rw [if_neg (by decide), if_neg (by decide), if_neg (by decide), if_neg (by decide)] at k6
      exact wd_app (wd_mono (by omega) g6) k6
    · rw [if_neg (by decide), if_neg (by decide), if_neg (by decide), if_pos rfl] at h
      rw [if_neg (by decide), if_neg (by decide), if_neg (by decide), if_pos rfl]
      split at h
      · rename_i k0
        split at h
        · obtain ⟨t1, c1, h1, h2⟩ := rd_b_inr h
          obtain ⟨t2, c2, h3, h4⟩ := rd_b_inr h2
          obtain ⟨⟨g1, g2, g3, g4⟩, g5, g6⟩ := ih (m := 0) (by decide) hn (by omega) h1
          obtain ⟨⟨k1, k2, k3, k4⟩, k5, k6⟩ := ih (m := 3) (by decide) hn g2 h3
          cases h4
          dsimp only at g1 g2 g3 g4 g5 g6 k1 k2 k3 k4 k5 k6 ⊢
          refine ⟨⟨by omega, by omega, fun e => absurd e (by decide), by rw [List.length_append, List.length_cons]; omega⟩, fun g => k5 (g5 (g.s (by omega) (by omega))), ?_⟩
          rw [if_pos rfl] at g6
          rw [if_neg (by decide), if_neg (by decide), if_neg (by decide), if_pos rfl] at k6
          exact tail _ _ c1 c2 (by omega) g6 k6 _
        · cases h
      · cases h
        exact ⟨⟨Nat.le_refl _, ht, fun e => absurd e (by decide), Nat.zero_le _⟩, fun g => g, rfl⟩
    · rw [if_neg (by decide), if_neg (by decide), if_neg (by decide), if_neg (by decide)] at h
      rw [if_neg (by decide), if_neg (by decide), if_neg (by decide), if_neg (by decide)]
      split at h
      · rename_i k0
        split at h
        · obtain ⟨t1, c1, h1, h2⟩ := rd_b_inr h
          obtain ⟨t2, c2, h3, h4⟩ := rd_b_inr h2
          obtain ⟨⟨g1, g2, g3, g4⟩, g5, g6⟩ := ih (m := 1) (by decide) hn (by omega) h1
          obtain ⟨⟨k1, k2, k3, k4⟩, k5, k6⟩ := ih (m := 4) (by decide) hn g2 h3
          cases h4
          dsimp only at g1 g2 g3 g4 g5 g6 k1 k2 k3 k4 k5 k6 ⊢
          refine ⟨⟨by omega, by omega, fun e => absurd e (by decide), by rw [List.length_append, List.length_cons]; omega⟩, fun g => k5 (g5 (g.s (by omega) (by omega))), ?_⟩
          rw [if_neg (by decide), if_pos rfl] at g6
          rw [if_neg (by decide), if_neg (by decide), if_neg (by decide), if_neg (by decide)] at k6
          exact tail _ _ c1 c2 (by omega) g6 k6 _
        · cases h
      · cases h
        exact ⟨⟨Nat.le_refl _, ht, fun e => absurd e (by decide), Nat.zero_le _⟩, fun g => g, rfl⟩
/-- the sum at a place -/
def rd_sum (K V : Nat → Nat) (t : Nat) : rd_R := rd K V 1700 2 0 t
