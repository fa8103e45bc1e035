/-! what is sure of the told -/
theorem tl_b_r {A B : Type} {r : tl_E ⊕ A} {g : A → tl_E ⊕ B} {q : B} (h : tl_b r g = .inr q) : ∃ a, r = .inr a ∧ g a = .inr q := by
  cases r with
  | inl e => cases h
  | inr x => exact ⟨x, rfl, h⟩
/-- it goes on from t to t2 -/
def tl_go (K : Nat → Nat) (t t2 : Nat) : Prop := t < t2 ∧ t2 ≤ 400 ∧ (tk_gd K t → tk_gd K t2)
section TELLP
variable {K V N P : Nat → Nat}
theorem tl_go.tr {a b c : Nat} (h : tl_go K a b) (h' : tl_go K b c) : tl_go K a c := ⟨Nat.lt_trans h.1 h'.1, h'.2.1, fun g => h'.2.2 (h.2.2 g)⟩
theorem tl_acc_g {t : Nat} {la : tl_F} {w : Nat × tl_F} (h : tl_acc t la = .inr w) (hk : ¬ K t = 0 ∧ ¬ K t = 3) : tl_go K t w.1 := by
  obtain ⟨h1, rfl⟩ := tl_acc_r h
  exact ⟨Nat.lt_succ_self _, h1, fun g => g.s hk.1 hk.2⟩
theorem tl_tk_g {k t : Nat} {la : tl_F} {w : Nat × tl_F} (h : tl_tk K k t la = .inr w) (hk : ¬ k = 0 ∧ ¬ k = 3) : tl_go K t w.1 := by
  obtain ⟨h0, h1, rfl⟩ := tl_tk_r h
  exact ⟨Nat.lt_succ_self _, h1, fun g => g.s (by rw [h0]; exact hk.1) (by rw [h0]; exact hk.2)⟩
theorem tl_int_g {m t : Nat} {la : tl_F} {w : Nat × tl_F} (h : tl_int K V P m t la = .inr w) : tl_go K t w.1 := by
  obtain ⟨h0, h1, h2⟩ := tl_int_r h
  rw [h2]
  exact ⟨Nat.lt_succ_self _, h1, fun g => g.s (by omega) (by omega)⟩
theorem tl_name_g {nt : Nat → Nat} {n t : Nat} {la : tl_F} {w : Nat × tl_F} (h : tl_name K N P nt n t la = .inr w) : tl_go K t w.1 := by
  obtain ⟨h0, h1, h2⟩ := tl_name_r h
  rw [h2]
  exact ⟨Nat.lt_succ_self _, h1, fun g => g.s (by omega) (by omega)⟩
theorem tl_sum_g (hV : ∀ t, K t = 2 → V t < 10000) {t : Nat} (ht : t ≤ 400) {w : Nat × ek_cd} (h : tl_sum K V t = .inr w) : tl_go K t w.1 ∧ ek_wx w.2 := by
  obtain ⟨⟨g1, g2, g3, g4⟩, g5, g6⟩ := rd_pr hV (by decide) (by decide) ht h
  exact ⟨⟨g3 (by decide), g2, g5⟩, g6⟩
theorem tl_end_g (hV : ∀ t, K t = 2 → V t < 10000) {t : Nat} (ht : t ≤ 400) {y : Nat × (List ek_br × ek_cd)} (h : tl_end K V t = .inr y) : tl_go K t y.1 := by
  obtain ⟨w, h1, h2⟩ := tl_b_r h
  obtain ⟨x, h3, h4⟩ := tl_b_r h2
  cases h4
  exact (tl_sum_g hV ht h1).1.tr (tl_tk_g h3 (by decide))
theorem tl_br_g (hV : ∀ t, K t = 2 → V t < 10000) {t : Nat} (hk : K t = 29) {y : Nat × ek_br} (h : tl_br K V t = .inr y) : tl_go K t y.1 := by
  obtain ⟨a, h1, h⟩ := tl_b_r h
  obtain ⟨w1, h2, h⟩ := tl_b_r h
  obtain ⟨x1, h3, h⟩ := tl_b_r h
  obtain ⟨w2, h4, h⟩ := tl_b_r h
  obtain ⟨x2, h5, h⟩ := tl_b_r h
  obtain ⟨w3, h6, h⟩ := tl_b_r h
  obtain ⟨x3, h7, h⟩ := tl_b_r h
  cases h
  have g1 := tl_acc_g (K := K) h1 (by omega)
  have g2 := g1.tr (tl_sum_g hV g1.2.1 h2).1
  have g3 := g2.tr (tl_tk_g h3 (by decide))
  have g4 := g3.tr (tl_sum_g hV g3.2.1 h4).1
  have g5 := g4.tr (tl_tk_g h5 (by decide))
  have g6 := g5.tr (tl_sum_g hV g5.2.1 h6).1
  exact g6.tr (tl_tk_g h7 (by decide))
theorem tl_ifs_g (hV : ∀ t, K t = 2 → V t < 10000) {m t : Nat} (ht : t ≤ 400) {y : Nat × (List ek_br × ek_cd)} (h : tl_ifs K V m t = .inr y) : tl_go K t y.1 := by
  induction m generalizing t y with
  | zero =>
    rw [tl_ifs] at h
    split at h
    · cases h
    · exact tl_end_g hV ht h
  | succ m ih =>
    rw [tl_ifs] at h
    split at h
    · rename_i z
      obtain ⟨x, h1, h⟩ := tl_b_r h
      obtain ⟨u, h2, h⟩ := tl_b_r h
      cases h
      have g1 := tl_br_g hV z h1
      have g2 : tl_go K x.1 u.1 := ih g1.2.1 h2
      exact g1.tr g2
    · exact tl_end_g hV ht h
theorem tl_law_g (hV : ∀ t, K t = 2 → V t < 10000) {t : Nat} (hk : ¬ K t = 0 ∧ ¬ K t = 3) {y : Nat × (List ek_br × ek_cd)} (h : tl_law K V t = .inr y) : tl_go K t y.1 := by
  obtain ⟨a, h1, h⟩ := tl_b_r h
  obtain ⟨x, h2, h⟩ := tl_b_r h
  have g1 := (tl_acc_g (K := K) h1 hk).tr (tl_tk_g h2 (by decide))
  exact g1.tr (tl_ifs_g hV g1.2.1 h)
/-- what every tell keeps -/
def tl_w (K : Nat → Nat) (s : tl_S) : Prop := tl_g s ∧ ∀ j, j < s.n → K (s.nt j) = 1
theorem tl_w0 : tl_w K tl_0 := ⟨⟨by decide, by decide, by decide, by decide⟩, fun j hj => absurd hj (Nat.not_lt_zero _)⟩
theorem tl_one_g (hV : ∀ t, K t = 2 → V t < 10000) {t : Nat} {s : tl_S} (hw : tl_w K s) {y : Nat × tl_S} (h : tl_one K V N P t s = .inr y) : tl_go K t y.1 ∧ tl_w K y.2 := by
  obtain ⟨⟨w1, w2, w3, w4⟩, w5⟩ := hw
  unfold tl_one at h
  split at h
  · split at h
    · cases h
    · rename_i k1 k2
      obtain ⟨a, h1, h⟩ := tl_b_r h
      obtain ⟨c, h2, h⟩ := tl_b_r h
      obtain ⟨e, h3, h⟩ := tl_b_r h
      obtain ⟨g, h4, h⟩ := tl_b_r h
      obtain ⟨x, h5, h⟩ := tl_b_r h
      cases h
      refine ⟨((((tl_acc_g (K := K) h1 (by omega)).tr (tl_name_g h2)).tr (tl_int_g h3)).tr (tl_int_g h4)).tr (tl_tk_g h5 (by decide)), ⟨?_, w2, w3, ?_⟩, fun j hj => ?_⟩
      · show s.n + 1 ≤ 9
        omega
      · show s.rw + (if V c.1 = 1 then 2 ^ s.n else 0) < 2 ^ (s.n + 1)
        rw [Nat.pow_succ]
        split <;> omega
      · have hj' : j < s.n + 1 := hj
        show K (tl_up s.nt s.n a.1 j) = 1
        unfold tl_up
        by_cases v : j = s.n
        · rw [if_pos v]; exact (tl_name_r h2).1
        · rw [if_neg v]; exact w5 j (by omega)
  split at h
  · split at h
    · cases h
    · rename_i k1 k2 k3
      obtain ⟨a, h1, h⟩ := tl_b_r h
      obtain ⟨c, h2, h⟩ := tl_b_r h
      obtain ⟨e, h3, h⟩ := tl_b_r h
      obtain ⟨x, h5, h⟩ := tl_b_r h
      cases h
      have hv := hV _ (tl_int_r h2).1
      refine ⟨(((tl_acc_g (K := K) h1 (by omega)).tr (tl_int_g h2)).tr (tl_int_g h3)).tr (tl_tk_g h5 (by decide)), ⟨w1, ?_, ?_, w4⟩, w5⟩
      · show s.cc + 1 ≤ 9
        omega
      · show max s.fc (V a.1 + 1) ≤ 10000
        omega
  split at h
  · obtain ⟨a, h1, h⟩ := tl_b_r h
    obtain ⟨c, h2, h⟩ := tl_b_r h
    obtain ⟨x, h5, h⟩ := tl_b_r h
    cases h
    exact ⟨((tl_acc_g (K := K) h1 (by omega)).tr (tl_int_g h2)).tr (tl_tk_g h5 (by decide)), ⟨w1, w2, w3, w4⟩, w5⟩
  split at h
  · obtain ⟨a, h1, h⟩ := tl_b_r h
    obtain ⟨c, h2, h⟩ := tl_b_r h
    obtain ⟨x, h5, h⟩ := tl_b_r h
    cases h
    exact ⟨((tl_acc_g (K := K) h1 (by omega)).tr (tl_int_g h2)).tr (tl_tk_g h5 (by decide)), ⟨w1, w2, w3, w4⟩, w5⟩
  split at h
  · obtain ⟨a, h1, h⟩ := tl_b_r h
    obtain ⟨c, h2, h⟩ := tl_b_r h
    obtain ⟨x, h5, h⟩ := tl_b_r h
    cases h
    exact ⟨((tl_acc_g (K := K) h1 (by omega)).tr (tl_int_g h2)).tr (tl_tk_g h5 (by decide)), ⟨w1, w2, w3, w4⟩, w5⟩
  split at h
  · obtain ⟨z, h1, h⟩ := tl_b_r h
    cases h
    exact ⟨tl_law_g hV (by omega) h1, ⟨w1, w2, w3, w4⟩, w5⟩
  · cases h
end TELLP
