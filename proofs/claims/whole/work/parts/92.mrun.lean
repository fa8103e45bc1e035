/-! the reference reads: plain, beds, tells one after another -/
section PTELL
variable {K V N P : Nat → Nat}
/-- more that every tell keeps -/
def tl_v (s : tl_S) : Prop := s.bg < 10000 ∧ (s.la = none → s.rg ≤ 1) ∧ ∀ k, ek_wl (s.F k)
theorem tl_v0 : tl_v tl_0 := ⟨by decide, fun _ => by decide, fun _ => trivial⟩
theorem tl_ifs_wl (hV : ∀ t, K t = 2 → V t < 10000) {m t : Nat} (ht : t ≤ 400) {y : Nat × (List ek_br × ek_cd)} (h : tl_ifs K V m t = .inr y) : ek_wl (some y.2) := by
  have fin : ∀ t, t ≤ 400 → ∀ y : Nat × (List ek_br × ek_cd), tl_end K V t = .inr y → ek_wl (some y.2) := fun t ht y h => by
    obtain ⟨w, h1, h2⟩ := tl_b_r h
    obtain ⟨x, h3, h4⟩ := tl_b_r h2
    cases h4
    exact ⟨fun b hb => absurd hb (List.not_mem_nil), (tl_sum_g hV ht h1).2⟩
  induction m generalizing t y with
  | zero =>
    rw [tl_ifs] at h
    split at h
    · cases h
    · exact fin t ht y h
  | succ m ih =>
    rw [tl_ifs] at h
    split at h
    · rename_i z
      obtain ⟨x, h1, h⟩ := tl_b_r h
      obtain ⟨u, h2, h⟩ := tl_b_r h
      cases h
      have g0 := tl_br_g hV z h1
      have g2 := ih g0.2.1 h2
      obtain ⟨a, e1, h1⟩ := tl_b_r h1
      obtain ⟨w1, e2, h1⟩ := tl_b_r h1
      obtain ⟨x1, e3, h1⟩ := tl_b_r h1
      obtain ⟨w2, e4, h1⟩ := tl_b_r h1
      obtain ⟨x2, e5, h1⟩ := tl_b_r h1
      obtain ⟨w3, e6, h1⟩ := tl_b_r h1
      obtain ⟨x3, e7, h1⟩ := tl_b_r h1
      cases h1
      have q1 := tl_acc_g (K := K) e1 (by omega)
      have s1 := tl_sum_g hV q1.2.1 e2
      have q3 := tl_tk_g (K := K) e3 (by decide)
      have s2 := tl_sum_g hV q3.2.1 e4
      have q5 := tl_tk_g (K := K) e5 (by decide)
      have s3 := tl_sum_g hV q5.2.1 e6
      refine ⟨fun b hb => ?_, g2.2⟩
      rcases List.mem_cons.mp hb with rfl | hb
      · exact ⟨s1.2, s2.2, s3.2⟩
      · exact g2.1 b hb
    · exact fin t ht y h
theorem tl_int_n {m t : Nat} {la : tl_F} {w : Nat × tl_F} (h : tl_int K V P m t la = .inr w) (e : w.2 = none) : la = none ∧ V t ≤ m := by
  obtain ⟨h1, h2, h3⟩ := tl_int_r h
  unfold tl_int tl_acc at h
  rw [if_pos h1, if_pos h2] at h
  cases h
  have g := tl_if_n e
  exact ⟨g.2, by omega⟩
theorem tl_name_n {nt : Nat → Nat} {n t : Nat} {la : tl_F} {w : Nat × tl_F} (h : tl_name K N P nt n t la = .inr w) (e : w.2 = none) : la = none := by
  obtain ⟨h1, h2, h3⟩ := tl_name_r h
  unfold tl_name tl_acc at h
  rw [if_pos h1, if_pos h2] at h
  cases h
  exact (tl_if_n e).2
theorem tl_one_v (hV : ∀ t, K t = 2 → V t < 10000) {t : Nat} {s : tl_S} (hv : tl_v s) {y : Nat × tl_S} (h : tl_one K V N P t s = .inr y) : tl_v y.2 := by
  obtain ⟨v1, v2, v3⟩ := hv
  unfold tl_one at h
  split at h
  · split at h
    · cases h
    · obtain ⟨a, h1, h⟩ := tl_b_r h
      obtain ⟨c, h2, h⟩ := tl_b_r h
      obtain ⟨e, h3, h⟩ := tl_b_r h
      obtain ⟨g, h4, h⟩ := tl_b_r h
      obtain ⟨x, h5, h⟩ := tl_b_r h
      cases h
      obtain ⟨-, rfl⟩ := tl_acc_r h1
      obtain ⟨-, -, rfl⟩ := tl_tk_r h5
      exact ⟨v1, fun z => v2 (tl_name_n h2 (tl_int_n h3 (tl_int_n h4 z).1).1), v3⟩
  split at h
  · split at h
    · cases h
    · obtain ⟨a, h1, h⟩ := tl_b_r h
      obtain ⟨c, h2, h⟩ := tl_b_r h
      obtain ⟨e, h3, h⟩ := tl_b_r h
      obtain ⟨x, h5, h⟩ := tl_b_r h
      cases h
      obtain ⟨-, rfl⟩ := tl_acc_r h1
      obtain ⟨-, -, rfl⟩ := tl_tk_r h5
      exact ⟨v1, fun z => v2 (tl_int_n h2 (tl_int_n h3 z).1).1, v3⟩
  split at h
  · obtain ⟨a, h1, h⟩ := tl_b_r h
    obtain ⟨c, h2, h⟩ := tl_b_r h
    obtain ⟨x, h5, h⟩ := tl_b_r h
    cases h
    obtain ⟨-, rfl⟩ := tl_acc_r h1
    obtain ⟨-, -, rfl⟩ := tl_tk_r h5
    exact ⟨v1, fun z => (tl_int_n h2 z).2, v3⟩
  split at h
  · obtain ⟨a, h1, h⟩ := tl_b_r h
    obtain ⟨c, h2, h⟩ := tl_b_r h
    obtain ⟨x, h5, h⟩ := tl_b_r h
    cases h
    obtain ⟨-, rfl⟩ := tl_acc_r h1
    obtain ⟨-, -, rfl⟩ := tl_tk_r h5
    exact ⟨hV _ (tl_int_r h2).1, fun z => v2 (tl_int_n h2 z).1, v3⟩
  split at h
  · obtain ⟨a, h1, h⟩ := tl_b_r h
    obtain ⟨c, h2, h⟩ := tl_b_r h
    obtain ⟨x, h5, h⟩ := tl_b_r h
    cases h
    obtain ⟨-, rfl⟩ := tl_acc_r h1
    obtain ⟨-, -, rfl⟩ := tl_tk_r h5
    exact ⟨v1, fun z => v2 (tl_int_n h2 z).1, v3⟩
  split at h
  · obtain ⟨z, h1, h⟩ := tl_b_r h
    cases h
    refine ⟨v1, v2, fun k => ?_⟩
    show ek_wl (tl_up s.F (K t - 22) (some z.2) k)
    unfold tl_up
    split
    · obtain ⟨a, e1, h1⟩ := tl_b_r h1
      obtain ⟨x, e2, h1⟩ := tl_b_r h1
      have q2 := tl_tk_g (K := K) e2 (by decide)
      exact tl_ifs_wl hV q2.2.1 h1
    · exact v3 k
  · cases h
theorem tl_run_v (hV : ∀ t, K t = 2 → V t < 10000) {m t : Nat} {s : tl_S} (hv : tl_v s) (hw : tl_w K s) {y : Nat × tl_S} (h : tl_run K V N P m t s = .inr y) : tl_v y.2 ∧ tl_w K y.2 := by
  induction m generalizing t s with
  | zero =>
    cases h
    exact ⟨hv, hw⟩
  | succ m ih =>
    rw [tl_run] at h
    split at h
    · cases h
      exact ⟨hv, hw⟩
    · obtain ⟨x, h1, h2⟩ := tl_b_r h
      exact ih (tl_one_v hV hv h1) (tl_one_g hV hw h1).2 h2
end PTELL
section MRUN
variable {d lw : Nat} {b : Nat → Nat} {L nT sd : Nat} {I I0 I' I'' : Nat → Nat → Int32} {J J0 J' J'' : Nat → Nat → Int64} {M : em_M} {Q : Option Value → em_M → Prop}
theorem me_plain_c {k m : Nat} (hsd : sd < 2) (hk : k + m = 9) (h0 : ∀ j, j < k → I 296 (9 * sd + j) = 0 ∧ I 298 (9 * sd + j) = 0) (h : ∀ (I' : Nat → Nat → Int32) (o : Option Value), rfr sd I I' J J → (∀ a, a ∉ [296, 298] → I' a = I a) → (∀ j, j < 9 → I' 296 (9 * sd + j) = 0 ∧ I' 298 (9 * sd + j) = 0) → em_wp em_sc0 d 184 73 [some (.ref 284), some (.int (nI sd)), o] [] (em_SH, I', J, em_RT lw) Q) : em_wp em_sc0 d 184 37 [some (.ref 284), some (.int (nI sd)), some (.int (nI k))] [] (em_SH, I, J, em_RT lw) Q := by
  induction m generalizing k I with
  | zero =>
    have e : k = 9 := by omega
    subst e
    iterate 3 refine em_next rfl ?_
    refine em_c_ge (fun _ => ?_) (fun z => absurd (by decide) z)
    exact h I _ rfr.rf (fun _ _ => rfl) h0
  | succ m ih =>
    iterate 3 refine em_next rfl ?_
    refine em_c_geE rfl (y' := nI 9) rfl (fun z => absurd z (nI_ge (by omega) (by decide))) (fun _ => ?_)
    iterate 8 refine em_next rfl ?_
    refine em_iasE (k := 9 * sd + k) rfl rfl (em_idxE (c := 9) rfl) (by omega) (by decide) ?_
    iterate 8 refine em_next rfl ?_
    refine em_basE (k := 9 * sd + k) (y := 0) rfl rfl (em_idxE (c := 9) rfl) (by omega) (by decide) rfl ?_
    have g := ih (k := k + 1) (I := em_u (em_u I 296 (9 * sd + k) 0) 298 (9 * sd + k) 0) (by omega) (fun j hj => ?_) (fun I' o r1 r2 r3 => h I' o (((rfr.u (by decide) (by rw [show hwd 296 = 9 from rfl]; omega)).tr (rfr.u (by decide) (by rw [show hwd 298 = 9 from rfl]; omega))).tr r1) (fun a ha => by rw [r2 a ha, em_u_row (fun e => ha (by rw [e]; decide)), em_u_row (fun e => ha (by rw [e]; decide))]) r3)
    · rw [nI_succ] at g
      iterate 2 refine em_next rfl ?_
      exact g
    · by_cases e : j = k
      · rw [e]
        exact ⟨by rw [em_u_row (by decide), em_u_self], em_u_self⟩
      · have := h0 j (by omega)
        exact ⟨by rw [em_u_row (by decide), em_u_ne (by omega)]; exact this.1, by rw [em_u_ne (by omega), em_u_row (by decide)]; exact this.2⟩
theorem me_plain_l {k m : Nat} (hsd : sd < 2) (hk : k + m = 4) (h0 : ∀ j, j < k → I 302 (4 * sd + j) = 0 ∧ I 303 (4 * sd + j) = 0) (h : ∀ (I' : Nat → Nat → Int32), rfr sd I I' J J → (∀ a, a ∉ [302, 303] → I' a = I a) → (∀ j, j < 4 → I' 302 (4 * sd + j) = 0 ∧ I' 303 (4 * sd + j) = 0) → Q none (em_SH, I', J, em_RT lw)) : em_wp em_sc0 d 184 75 [some (.ref 284), some (.int (nI sd)), some (.int (nI k))] [] (em_SH, I, J, em_RT lw) Q := by
  induction m generalizing k I with
  | zero =>
    have e : k = 4 := by omega
    subst e
    iterate 3 refine em_next rfl ?_
    refine em_c_ge (fun _ => ?_) (fun z => absurd (by decide) z)
    exact em_done rfl (h I rfr.rf (fun _ _ => rfl) h0)
  | succ m ih =>
    iterate 3 refine em_next rfl ?_
    refine em_c_geE rfl (y' := nI 4) rfl (fun z => absurd z (nI_ge (by omega) (by decide))) (fun _ => ?_)
    iterate 8 refine em_next rfl ?_
    refine em_iasE (k := 4 * sd + k) rfl rfl (em_idxE (c := 4) rfl) (by omega) (by decide) ?_
    iterate 8 refine em_next rfl ?_
    refine em_iasE (k := 4 * sd + k) rfl rfl (em_idxE (c := 4) rfl) (by omega) (by decide) ?_
    have g := ih (k := k + 1) (I := em_u (em_u I 302 (4 * sd + k) 0) 303 (4 * sd + k) 0) (by omega) (fun j hj => ?_) (fun I' r1 r2 r3 => h I' (((rfr.u (by decide) (by rw [show hwd 302 = 4 from rfl]; omega)).tr (rfr.u (by decide) (by rw [show hwd 303 = 4 from rfl]; omega))).tr r1) (fun a ha => by rw [r2 a ha, em_u_row (fun e => ha (by rw [e]; decide)), em_u_row (fun e => ha (by rw [e]; decide))]) r3)
    · rw [nI_succ] at g
      iterate 2 refine em_next rfl ?_
      exact g
    · by_cases e : j = k
      · rw [e]
        exact ⟨by rw [em_u_row (by decide), em_u_self], em_u_self⟩
      · have := h0 j (by omega)
        exact ⟨by rw [em_u_row (by decide), em_u_ne (by omega)]; exact this.1, by rw [em_u_ne (by omega), em_u_row (by decide)]; exact this.2⟩
theorem me_plain (hsd : sd < 2) (h : ∀ I' : Nat → Nat → Int32, rfr sd I I' J J → (∀ j, I' 284 j = I 284 j) → (I' 293 sd = 0 ∧ I' 297 sd = 0 ∧ I' 299 sd = 0 ∧ I' 300 sd = 0 ∧ I' 301 sd = 0) → (∀ j, j < 9 → I' 296 (9 * sd + j) = 0 ∧ I' 298 (9 * sd + j) = 0) → (∀ j, j < 4 → I' 302 (4 * sd + j) = 0 ∧ I' 303 (4 * sd + j) = 0) → Q none (em_SH, I', J, em_RT lw)) : em_call d 184 [.ref 284, .int (nI sd)] (em_SH, I, J, em_RT lw) Q := by
  have w1 : ∀ a ∈ [293, 297, 299, 300, 301], a ∈ HR ∧ hwd a = 1 := by decide
  have ru : ∀ (K : Nat → Nat → Int32) a, a ∈ [293, 297, 299, 300, 301] → rfr sd K (em_u K a sd 0) J J := fun K a ha => rfr.u (w1 a ha).1 (by rw [(w1 a ha).2]; omega)
  iterate 4 refine em_next rfl ?_
  refine em_iasE (k := sd) rfl rfl rfl hsd (by decide) ?_
  iterate 4 refine em_next rfl ?_
  refine em_iasE (k := sd) rfl rfl rfl hsd (by decide) ?_
  iterate 4 refine em_next rfl ?_
  refine em_iasE (k := sd) rfl rfl rfl hsd (by decide) ?_
  iterate 4 refine em_next rfl ?_
  refine em_iasE (k := sd) rfl rfl rfl hsd (by decide) ?_
  iterate 4 refine em_next rfl ?_
  refine em_iasE (k := sd) rfl rfl rfl hsd (by decide) ?_
  iterate 2 refine em_next rfl ?_
  have r5 := ((((ru I 293 (by decide)).tr (ru _ 297 (by decide))).tr (ru _ 299 (by decide))).tr (ru _ 300 (by decide))).tr (ru _ 301 (by decide))
  refine me_plain_c (k := 0) (m := 9) hsd (by decide) (fun j hj => absurd hj (Nat.not_lt_zero _)) (fun I1 o a1 a2 a3 => ?_)
  iterate 2 refine em_next rfl ?_
  refine me_plain_l (k := 0) (m := 4) hsd (by decide) (fun j hj => absurd hj (Nat.not_lt_zero _)) (fun I2 b1 b2 b3 => ?_)
  have z : ∀ a ∈ [293, 297, 299, 300, 301], I2 a sd = 0 := fun a ha => by
    have hd : ∀ a ∈ [293, 297, 299, 300, 301], a ∉ [302, 303] ∧ a ∉ [296, 298] := by decide
    rw [b2 a (hd a ha).1, a2 a (hd a ha).2]
    simp only [List.mem_cons, List.not_mem_nil, or_false] at ha
    rcases ha with rfl | rfl | rfl | rfl | rfl
    · rw [em_u_row (by decide), em_u_row (by decide), em_u_row (by decide), em_u_row (by decide)]; exact em_u_self
    · rw [em_u_row (by decide), em_u_row (by decide), em_u_row (by decide)]; exact em_u_self
    · rw [em_u_row (by decide), em_u_row (by decide)]; exact em_u_self
    · rw [em_u_row (by decide)]; exact em_u_self
    · exact em_u_self
  refine h I2 ((r5.tr a1).tr b1) (fun j => ?_) ⟨z _ (by decide), z _ (by decide), z _ (by decide), z _ (by decide), z _ (by decide)⟩ (fun j hj => ?_) b3
  · rw [b2 _ (by decide), a2 _ (by decide), em_u_row (by decide), em_u_row (by decide), em_u_row (by decide), em_u_row (by decide), em_u_row (by decide)]
  · rw [b2 _ (by decide), b2 _ (by decide)]; exact a3 j hj
theorem me_areBeds_l {hc : Nat → Bool} {k m : Nat} (hsd : sd < 2) (hside : I 284 19 = nI sd) (hh : ∀ j, j < 9 → I 298 (9 * sd + j) = em_bb (hc j)) (hk : k + m = 9) (h1 : (∀ j, k ≤ j → j < 9 → hc j = false) → Q (some (.int 1)) (em_SH, I, J, em_RT lw)) (h2 : ∀ j, k ≤ j → j < 9 → hc j = true → Q (some (.int 0)) (em_SH, I, J, em_RT lw)) : em_wp em_sc0 d 187 10 [some (.ref 284), some (.int (nI k))] [] (em_SH, I, J, em_RT lw) Q := by
  induction m generalizing k with
  | zero =>
    have e : k = 9 := by omega
    subst e
    iterate 3 refine em_next rfl ?_
    refine em_c_ge (fun _ => ?_) (fun z => absurd (by decide) z)
    iterate 1 refine em_next rfl ?_
    exact em_done rfl (h1 (fun j j1 j2 => by omega))
  | succ m ih =>
    iterate 3 refine em_next rfl ?_
    refine em_c_geE rfl (y' := nI 9) rfl (fun z => absurd z (nI_ge (by omega) (by decide))) (fun _ => ?_)
    iterate 8 refine em_next rfl ?_
    refine em_balE (k := 9 * sd + k) (kd := 22) rfl rfl (Or.inr rfl) (em_idxE (c := 9) hside) (by omega) (by decide) ?_
    refine em_tp (hh k (by omega)) ?_
    iterate 1 refine em_next rfl ?_
    cases hv : hc k with
    | false =>
      refine em_z_eq (fun _ => ?_) (fun z => absurd rfl z)
      have g := ih (k := k + 1) (by omega) (fun hz => h1 (fun j j1 j2 => by
        by_cases e : j = k
        · rw [e]; exact hv
        · exact hz j (by omega) j2)) (fun j j1 j2 => h2 j (by omega) j2)
      rw [nI_succ] at g
      iterate 2 refine em_next rfl ?_
      exact g
    | true =>
      refine em_z_eq (fun z => absurd z (by decide)) (fun _ => ?_)
      iterate 1 refine em_next rfl ?_
      exact em_done rfl (h2 k (Nat.le_refl _) (by omega) hv)
theorem me_areBeds {hc : Nat → Bool} {n : Nat} (hsd : sd < 2) (hn : n ≤ 9) (hside : I 284 19 = nI sd) (hs : I 293 sd = nI n) (hh : ∀ j, j < 9 → I 298 (9 * sd + j) = em_bb (hc j)) (h1 : (∀ j, n ≤ j → j < 9 → hc j = false) → Q (some (.int 1)) (em_SH, I, J, em_RT lw)) (h2 : ∀ j, n ≤ j → j < 9 → hc j = true → Q (some (.int 0)) (em_SH, I, J, em_RT lw)) : em_call d 187 [.ref 284] (em_SH, I, J, em_RT lw) Q := by
  iterate 4 refine em_next rfl ?_
  refine em_ialE (k := sd) rfl rfl hside hsd (by decide) ?_
  refine em_tp hs ?_
  iterate 1 refine em_next rfl ?_
  exact me_areBeds_l (k := n) (m := 9 - n) hsd hside hh (by omega) h1 h2
theorem me_tells_l {m t : Nat} {s : tl_S} {o : Option Value} (hm : 401 ≤ t + m) (hL : L ≤ 2000) (hsd : sd < 2) (hx : mx b L nT I J) (hU : mU b L sd t s I J) (hw : tl_w (tk_K b L) s) (h : match tl_run (tk_K b L) (tk_V b L) (tk_N b L) (tk_P b L) m t s with
    | .inl e => ∀ (I' : Nat → Nat → Int32) (J' : Nat → Nat → Int64), rfr sd I I' J J' → mfl b L I' e → em_wp em_sc0 (d + 7) 185 134 [some (.ref 284), o] [] (em_SH, I', J', em_RT lw) Q
    | .inr w => ∀ (I' : Nat → Nat → Int32) (J' : Nat → Nat → Int64), rfr sd I I' J J' → mU b L sd w.1 w.2 I' J' → tl_w (tk_K b L) w.2 → tk_K b L w.1 = 0 → em_wp em_sc0 (d + 7) 185 134 [some (.ref 284), o] [] (em_SH, I', J', em_RT lw) Q) : em_wp em_sc0 (d + 7) 185 112 [some (.ref 284), o] [] (em_SH, I, J, em_RT lw) Q := by
  induction m generalizing t s I J with
  | zero => exact absurd hU.1.1 (by omega)
  | succ m ih =>
    rw [tl_run] at h
    iterate 3 refine em_next rfl ?_
    refine em_z_neE hU.1.2.2.2 (fun z => absurd rfl z) (fun _ => ?_)
    iterate 2 refine em_next rfl ?_
    refine em_inv_call rfl (me_is (k := 0) hx hU.1 (by decide) (fun z => ?_) (fun z => ?_))
    · rw [if_pos z] at h
      iterate 1 refine em_next rfl ?_
      refine em_z_ne (fun _ => ?_) (fun z => absurd z (by decide))
      exact h I J rfr.rf hU hw z
    · rw [if_neg z] at h
      iterate 1 refine em_next rfl ?_
      refine em_z_ne (fun z => absurd rfl z) (fun _ => ?_)
      iterate 1 refine em_next rfl ?_
      refine em_inv_call rfl (me_tellOne hL hsd hx hU hw ?_)
      cases hr : tl_one (tk_K b L) (tk_V b L) (tk_N b L) (tk_P b L) t s with
      | inl e =>
        rw [hr, tl_b_inl] at h
        intro I1 J1 a1 a2
        iterate 1 refine em_next rfl ?_
        iterate 3 refine em_next rfl ?_
        refine em_z_neE a2.1 (fun _ => ?_) (fun z => absurd z a2.ne)
        exact h I1 J1 a1 a2
      | inr y =>
        rw [hr, tl_b_inr] at h
        intro I1 J1 a1 a2
        have g1 := tl_one_g (fun t h => tk_V_lt h) hw hr
        iterate 1 refine em_next rfl ?_
        refine ih (t := y.1) (s := y.2) (I := I1) (J := J1) (by have := g1.1.1; omega) (hx.r a1) a2 g1.2 ?_
        revert h
        cases tl_run (tk_K b L) (tk_V b L) (tk_N b L) (tk_P b L) m y.1 y.2 with
        | inl e => exact fun h I2 J2 b1 b2 => h I2 J2 (a1.tr b1) b2
        | inr w => exact fun h I2 J2 b1 b2 b3 b4 => h I2 J2 (a1.tr b1) b2 b3 b4
end MRUN
