/-! what a text tells -/
abbrev tl_E : Type := Nat × Nat
abbrev tl_F : Type := Option (Nat × Nat)
def tl_S : Type := (Nat × Nat × (Nat → Nat) × (Nat → Nat)) × (Nat × (Nat → Nat) × Nat) × (Nat × Nat × Nat) × (Nat → ek_lw) × tl_F
def tl_S.n (s : tl_S) : Nat := s.1.1
def tl_S.rw (s : tl_S) : Nat := s.1.2.1
def tl_S.hb (s : tl_S) : Nat → Nat := s.1.2.2.1
def tl_S.nt (s : tl_S) : Nat → Nat := s.1.2.2.2
def tl_S.cc (s : tl_S) : Nat := s.2.1.1
def tl_S.co (s : tl_S) : Nat → Nat := s.2.1.2.1
def tl_S.fc (s : tl_S) : Nat := s.2.1.2.2
def tl_S.rg (s : tl_S) : Nat := s.2.2.1.1
def tl_S.bg (s : tl_S) : Nat := s.2.2.1.2.1
def tl_S.sd (s : tl_S) : Nat := s.2.2.1.2.2
def tl_S.F (s : tl_S) : Nat → ek_lw := s.2.2.2.1
def tl_S.la (s : tl_S) : tl_F := s.2.2.2.2
def tl_m (n rw : Nat) (hb nt : Nat → Nat) (cc : Nat) (co : Nat → Nat) (fc rg bg sd : Nat) (F : Nat → ek_lw) (la : tl_F) : tl_S := ((n, rw, hb, nt), (cc, co, fc), (rg, bg, sd), F, la)
def tl_0 : tl_S := tl_m 0 0 (fun _ => 0) (fun _ => 0) 0 (fun _ => 0) 0 0 0 0 (fun _ => none) none
def tl_b {A B : Type} (r : tl_E ⊕ A) (g : A → tl_E ⊕ B) : tl_E ⊕ B := match r with
  | .inl e => .inl e
  | .inr q => g q
def tl_up {A : Type} (g : Nat → A) (i : Nat) (x : A) : Nat → A := fun j => if j = i then x else g j
def tl_note (k p : Nat) (la : tl_F) : tl_F := match la with
  | none => some (k, p)
  | some q => some q
abbrev tl_R : Type := tl_E ⊕ (Nat × tl_F)
def tl_acc (t : Nat) (la : tl_F) : tl_R := if t < 400 then .inr (t + 1, la) else .inl (2, t)
def tl_tk (K : Nat → Nat) (k t : Nat) (la : tl_F) : tl_R := if K t = k then tl_acc t la else .inl (1, t)
def tl_int (K V P : Nat → Nat) (m t : Nat) (la : tl_F) : tl_R := if K t = 2 then tl_acc t (if m < V t then tl_note 5 (P t) la else la) else .inl (1, t)
def tl_has (N nt : Nat → Nat) (x : Nat) : Nat → Bool
  | 0 => false
  | n + 1 => tl_has N nt x n || decide (N (nt n) = x)
def tl_name (K N P nt : Nat → Nat) (n t : Nat) (la : tl_F) : tl_R := if K t = 1 then tl_acc t (if tl_has N nt (N t) n = true then tl_note 3 (P t) la else la) else .inl (1, t)
def tl_sum (K V : Nat → Nat) (t : Nat) : tl_E ⊕ (Nat × ek_cd) := rd_sum K V t
abbrev tl_L : Type := tl_E ⊕ (Nat × (List ek_br × ek_cd))
def tl_end (K V : Nat → Nat) (t : Nat) : tl_L := tl_b (tl_sum K V t) (fun w => tl_b (tl_tk K 4 w.1 none) (fun x => .inr (x.1, ([], w.2))))
def tl_br (K V : Nat → Nat) (t : Nat) : tl_E ⊕ (Nat × ek_br) := tl_b (tl_acc t none) (fun a => tl_b (tl_sum K V a.1) (fun w1 => tl_b (tl_tk K 13 w1.1 none) (fun x1 => tl_b (tl_sum K V x1.1) (fun w2 => tl_b (tl_tk K 30 w2.1 none) (fun x2 => tl_b (tl_sum K V x2.1) (fun w3 => tl_b (tl_tk K 31 w3.1 none) (fun x3 => .inr (x3.1, (w1.2, w2.2, w3.2)))))))))
def tl_ifs (K V : Nat → Nat) : Nat → Nat → tl_L
  | 0, t => if K t = 29 then .inl (2, t) else tl_end K V t
  | m + 1, t => if K t = 29 then tl_b (tl_br K V t) (fun x => tl_b (tl_ifs K V m x.1) (fun y => .inr (y.1, (x.2 :: y.2.1, y.2.2)))) else tl_end K V t
def tl_law (K V : Nat → Nat) (t : Nat) : tl_L := tl_b (tl_acc t none) (fun a => tl_b (tl_tk K 5 a.1 none) (fun x => tl_ifs K V 4 x.1))
def tl_one (K V N P : Nat → Nat) (t : Nat) (s : tl_S) : tl_E ⊕ (Nat × tl_S) :=
  if K t = 20 then (if 9 ≤ s.n then .inl (2, t) else tl_b (tl_acc t s.la) (fun a => tl_b (tl_name K N P s.nt s.n a.1 a.2) (fun c => tl_b (tl_int K V P 1 c.1 c.2) (fun e => tl_b (tl_int K V P 9 e.1 e.2) (fun g => tl_b (tl_tk K 4 g.1 g.2) (fun x => .inr (x.1, tl_m (s.n + 1) (s.rw + (if V c.1 = 1 then 2 ^ s.n else 0)) (tl_up s.hb s.n (V e.1)) (tl_up s.nt s.n a.1) s.cc s.co s.fc s.rg s.bg s.sd s.F (x.2))))))))
  else if K t = 21 then (if 9 ≤ s.cc then .inl (2, t) else tl_b (tl_acc t s.la) (fun a => tl_b (tl_int K V P 8 a.1 a.2) (fun c => tl_b (tl_int K V P 99 c.1 c.2) (fun e => tl_b (tl_tk K 4 e.1 e.2) (fun x => .inr (x.1, tl_m s.n s.rw s.hb s.nt (s.cc + 1) (if V a.1 < 9 then tl_up s.co (V a.1) (V c.1) else s.co) (max s.fc (V a.1 + 1)) s.rg s.bg s.sd s.F (x.2)))))))
  else if K t = 26 then tl_b (tl_acc t s.la) (fun a => tl_b (tl_int K V P 1 a.1 a.2) (fun c => tl_b (tl_tk K 4 c.1 c.2) (fun x => .inr (x.1, tl_m s.n s.rw s.hb s.nt s.cc s.co s.fc (V a.1) s.bg s.sd s.F (x.2)))))
  else if K t = 27 then tl_b (tl_acc t s.la) (fun a => tl_b (tl_int K V P 23 a.1 a.2) (fun c => tl_b (tl_tk K 4 c.1 c.2) (fun x => .inr (x.1, tl_m s.n s.rw s.hb s.nt s.cc s.co s.fc s.rg (V a.1) s.sd s.F (x.2)))))
  else if K t = 28 then tl_b (tl_acc t s.la) (fun a => tl_b (tl_int K V P 9999 a.1 a.2) (fun c => tl_b (tl_tk K 4 c.1 c.2) (fun x => .inr (x.1, tl_m s.n s.rw s.hb s.nt s.cc s.co s.fc s.rg s.bg (V a.1) s.F (x.2)))))
  else if 22 ≤ K t ∧ K t ≤ 25 then tl_b (tl_law K V t) (fun y => .inr (y.1, tl_m s.n s.rw s.hb s.nt s.cc s.co s.fc s.rg s.bg s.sd (tl_up s.F (K t - 22) (some y.2)) s.la))
  else .inl (1, t)
def tl_run (K V N P : Nat → Nat) : Nat → Nat → tl_S → tl_E ⊕ (Nat × tl_S)
  | 0, t, s => .inr (t, s)
  | f + 1, t, s => if K t = 0 then .inr (t, s) else tl_b (tl_one K V N P t s) (fun x => tl_run K V N P f x.1 x.2)
/-- what read() comes to: a fault and its place, or what was told -/
def tl_fin (L : Nat) (P : Nat → Nat) (r : tl_E ⊕ (Nat × tl_S)) : tl_E ⊕ tl_S := match r with
  | .inl e => .inl (e.1, P e.2)
  | .inr x => match (if x.2.n < x.2.fc then tl_note 6 L x.2.la else x.2.la) with
    | none => .inr x.2
    | some q => .inl q
def tl_read (b : Nat → Nat) (L : Nat) : tl_E ⊕ tl_S := tl_fin L (tk_P b L) (tl_run (tk_K b L) (tk_V b L) (tk_N b L) (tk_P b L) 401 0 tl_0)
/-! the class's small steps -/
theorem lN_leN {a b : Nat} (ha : a < 2 ^ 63) (hb : b < 2 ^ 63) : lN a ≤ lN b ↔ a ≤ b := by
  have e1 : (lN a).toInt = (a : Int) := lg_ofNat_toInt (by omega)
  have e2 : (lN b).toInt = (b : Int) := lg_ofNat_toInt (by omega)
  rw [Int64.le_iff_toInt_le, e1, e2]
  omega
theorem nI_subN {a b : Nat} (h : b ≤ a) : nI a - nI b = nI (a - b) := by
  have e : nI a = nI (a - b) + nI b := by
    rw [nI_add, show a - b + b = a by omega]
  rw [e]
  exact Int32.add_sub_cancel _ _
theorem ck_inj : ∀ k, k < 41 → ∀ j, j < 41 → (ck k = ck j ↔ k = j) := by decide +kernel
/-- what the taking of tokens changes -/
def wf (I I' : Nat → Nat → Int32) : Prop := (∀ a, a ≠ 40 → I' a = I a) ∧ ∀ j, j ∉ [4, 5, 6, 7, 8, 9] → I' 40 j = I 40 j
theorem wf.rf {I : Nat → Nat → Int32} : wf I I := ⟨fun _ _ => rfl, fun _ _ => rfl⟩
theorem wf.tr {I I' I'' : Nat → Nat → Int32} (h : wf I I') (h' : wf I' I'') : wf I I'' := ⟨fun a z => (h'.1 a z).trans (h.1 a z), fun j hj => (h'.2 j hj).trans (h.2 j hj)⟩
theorem wf.of {I I' : Nat → Nat → Int32} (h : xf 0 I I') (h2 : ∀ a, a ≠ 40 → I' a = I a) : wf I I' := ⟨h2, fun j hj => h.2.1 j (fun q => hj (by revert q; simp; omega))⟩
def lat (I : Nat → Nat → Int32) (la : tl_F) : Prop := match la with
  | none => I 40 8 = nI 0 ∧ I 40 9 = -1
  | some q => I 40 8 = nI q.1 ∧ I 40 9 = nI q.2 ∧ 1 ≤ q.1 ∧ q.1 < 9
theorem lat.keep {I I' : Nat → Nat → Int32} {la : tl_F} (h : lat I la) (h1 : I' 40 8 = I 40 8) (h2 : I' 40 9 = I 40 9) : lat I' la := by
  unfold lat
  rw [h1, h2]
  exact h
theorem lat.x {q : Nat} {I I' : Nat → Nat → Int32} {la : tl_F} (h : lat I la) (hx : xf q I I') : lat I' la := h.keep (hx.2.1 _ (by decide)) (hx.2.1 _ (by decide))
def flt (b : Nat → Nat) (L : Nat) (I : Nat → Nat → Int32) (e : tl_E) : Prop := I 40 6 = nI e.1 ∧ I 40 7 = nI (tk_P b L e.2)
def tl_ok (b : Nat → Nat) (L lw : Nat) (I : Nat → Nat → Int32) (J : Nat → Nat → Int64) (Q : Option Value → em_M → Prop) (r : tl_R) : Prop := match r with
  | .inl e => ∀ I' : Nat → Nat → Int32, wf I I' → flt b L I' e → Q (some (.int 0)) (em_SH, I', J, em_RT lw)
  | .inr w => ∀ I' : Nat → Nat → Int32, wf I I' → cat b L w.1 I' → lat I' w.2 → Q (some (.int 1)) (em_SH, I', J, em_RT lw)
theorem tl_ok.k {b : Nat → Nat} {L lw : Nat} {I I1 : Nat → Nat → Int32} {J : Nat → Nat → Int64} {Q : Option Value → em_M → Prop} {r : tl_R} (h : tl_ok b L lw I J Q r) (hf : wf I I1) : tl_ok b L lw I1 J Q r := by
  cases r with
  | inl e => exact fun I' z1 z2 => h I' (hf.tr z1) z2
  | inr w => exact fun I' z1 z2 z3 => h I' (hf.tr z1) z2 z3
section TELL
variable {d lw : Nat} {b : Nat → Nat} {L n : Nat} {I I0 I' I'' : Nat → Nat → Int32} {J J0 J' J'' : Nat → Nat → Int64} {M : em_M} {Q : Option Value → em_M → Prop}
theorem tl_ok.c {r : tl_R} (h : tl_ok b L lw I J Q r) {Q' : Option Value → em_M → Prop} (hQ : ∀ (v : Int32) (M : em_M), (v = 0 ∨ v = 1) → Q (some (.int v)) M → Q' (some (.int v)) M) : tl_ok b L lw I J Q' r := by
  cases r with
  | inl e => exact fun I' z1 z2 => hQ 0 _ (Or.inl rfl) (h I' z1 z2)
  | inr w => exact fun I' z1 z2 z3 => hQ 1 _ (Or.inr rfl) (h I' z1 z2 z3)
theorem tl_accept (hx : cx b L n I J) {t : Nat} {la : tl_F} (hc : cat b L t I) (hl : lat I la) (hg : ¬ tk_K b L t = 0 ∧ ¬ tk_K b L t = 3) (h : tl_ok b L lw I J Q (tl_acc t la)) : em_call d 84 [.ref 40] (em_SH, I, J, em_RT lw) Q := by
  unfold tl_acc at h
  refine ce_accept hx hc hg (fun z I2 a1 a2 a3 => ?_) (fun z I2 a1 a2 a3 a4 => ?_)
  · rw [if_pos z] at h
    exact h I2 (wf.of a1 a2) a3 (hl.x a1)
  · rw [if_neg z] at h
    exact h I2 (wf.of a1 a2) ⟨a3, a4⟩
theorem tl_refuse (hx : cx b L n I J) {t k : Nat} (hc : cat b L t I) (h : tl_ok b L lw I J Q (.inl (k, t))) : em_call d 85 [.ref 40, .int (nI k)] (em_SH, I, J, em_RT lw) Q := ce_refuse hx hc (fun I2 a1 a2 a3 a4 => h I2 (wf.of a1 a2) ⟨a3, a4⟩)
theorem tl_take (hx : cx b L n I J) {t k : Nat} {la : tl_F} (hc : cat b L t I) (hl : lat I la) (hk : k < 41) (hk0 : ¬ k = 0) (hk3 : ¬ k = 3) (h : tl_ok b L lw I J Q (tl_tk (tk_K b L) k t la)) : em_call (d + 1) 81 [.ref 40, .int (nI (ck k))] (em_SH, I, J, em_RT lw) Q := by
  unfold tl_tk at h
  have hi := ck_inj _ (kr b L t) k hk
  have l1 := (ck_is _ (kr b L t)).2.2.2.2.2.2.2.2.1
  have l2 := (ck_is k hk).2.2.2.2.2.2.2.2.1
  iterate 4 refine em_next rfl ?_
  refine em_c_neE hc.2.2.2 (y' := nI (ck k)) rfl (fun z => ?_) (fun z => ?_)
  · rw [if_neg (fun e => z (by rw [hi.mpr e]))] at h
    iterate 2 refine em_next rfl ?_
    refine em_inv_call rfl (tl_refuse (k := 1) hx hc (h.c (fun v M hv hQ => ?_)))
    rcases hv with rfl | rfl <;> exact em_done rfl hQ
  · have z2 := hi.mp ((nI_eq (by omega) (by omega)).mp z)
    rw [if_pos z2] at h
    iterate 1 refine em_next rfl ?_
    refine em_inv_call rfl (tl_accept hx hc hl (by omega) (h.c (fun v M hv hQ => ?_)))
    iterate 1 refine em_next rfl ?_
    rcases hv with rfl | rfl <;> exact em_done rfl hQ
theorem tl_later {k p : Nat} {la : tl_F} (hl : lat I la) (hk : 1 ≤ k ∧ k < 9) (h : ∀ I' : Nat → Nat → Int32, wf I I' → (∀ j, j ≠ 8 → j ≠ 9 → I' 40 j = I 40 j) → lat I' (tl_note k p la) → Q none (em_SH, I', J, em_RT lw)) : em_call d 86 [.ref 40, .int (nI k), .int (nI p)] (em_SH, I, J, em_RT lw) Q := by
  iterate 3 refine em_next rfl ?_
  cases la with
  | none =>
    refine em_z_neE hl.1 (fun e => absurd rfl e) (fun _ => ?_)
    iterate 6 refine em_next rfl ?_
    refine em_done rfl ?_
    show Q none (em_SH, em_u (em_u I 40 8 (nI k)) 40 9 (nI p), J, em_RT lw)
    refine h _ ⟨fun a z => by rw [em_u_row z, em_u_row z], fun j hj => ?_⟩ (fun j z1 z2 => by rw [em_u_ne z2, em_u_ne z1]) ⟨by rw [em_u_ne (by decide), em_u_self], em_u_self, hk⟩
    rw [em_u_ne (fun q => hj (by rw [q]; decide)), em_u_ne (fun q => hj (by rw [q]; decide))]
  | some q =>
    obtain ⟨l1, l2, l3, l4⟩ := hl
    refine em_z_neE l1 (fun _ => ?_) (fun e => ?_)
    · exact em_done rfl (h I wf.rf (fun _ _ _ => rfl) ⟨l1, l2, l3, l4⟩)
    · exact absurd ((nI_eq (a := q.1) (b := 0) (by omega) (by decide)).mp e) (by omega)
theorem tl_takeInt (hx : cx b L n I J) {t m : Nat} {la : tl_F} (hc : cat b L t I) (hl : lat I la) (hm : m < 10000) (h : tl_ok b L lw I J Q (tl_int (tk_K b L) (tk_V b L) (tk_P b L) m t la)) : em_call (d + 1) 82 [.ref 40, .int (nI m)] (em_SH, I, J, em_RT lw) Q := by
  unfold tl_int at h
  have hck := ck_is (tk_K b L t) (kr b L t)
  have hlt := hx.lt hc.1 hc.2.1
  have nn : n ≤ 401 := by
    rcases hx.2 with e | ⟨_, e, _⟩ <;> omega
  iterate 4 refine em_next rfl ?_
  refine em_c_eqE hc.2.2.2 (y' := nI 2) rfl (fun z => ?_) (fun z => ?_)
  · have z2 := hck.1.mp ((nI_eq (by omega) (by decide)).mp z)
    rw [if_pos z2] at h
    have hT := hx.1 t hlt
    have hV := tk_V_lt z2
    iterate 5 refine em_next rfl ?_
    refine em_lalE (k := t) rfl rfl hc.2.2.1 (by omega) (by decide) ?_
    have e : J 6 t = lN (tk_V b L t) := hT.2.2.1 z2
    rw [e]
    iterate 4 refine em_next rfl ?_
    by_cases hv : m < tk_V b L t
    · rw [if_pos hv] at h
      refine em_z_le (fun y => ?_) (fun _ => ?_)
      · exfalso
        have y2 := (lg_cmp_le _ _).mp y
        rw [nI_l (by omega)] at y2
        exact absurd ((lN_leN (by omega) (by omega)).mp y2) (by omega)
      · iterate 7 refine em_next rfl ?_
        refine em_ialE (k := t) rfl rfl hc.2.2.1 (by omega) (by decide) ?_
        refine em_tp hT.2.1 ?_
        refine em_inv_call rfl (tl_later (k := 5) hl (by decide) (fun I1 a1 a2 a3 => ?_))
        iterate 1 refine em_next rfl ?_
        have hc1 : cat b L t I1 := ⟨hc.1, hc.2.1, (a2 _ (by decide) (by decide)).trans hc.2.2.1, (a2 _ (by decide) (by decide)).trans hc.2.2.2⟩
        refine em_inv_call rfl (tl_accept (hx.keep (a1.1 _ (by decide)) (a1.1 _ (by decide)) rfl) hc1 a3 (by omega) ((h.k a1).c (fun v M hv hQ => ?_)))
        rcases hv with rfl | rfl <;> exact em_done rfl hQ
    · rw [if_neg hv] at h
      refine em_z_le (fun _ => ?_) (fun y => ?_)
      · iterate 1 refine em_next rfl ?_
        refine em_inv_call rfl (tl_accept hx hc hl (by omega) (h.c (fun v M hv hQ => ?_)))
        rcases hv with rfl | rfl <;> exact em_done rfl hQ
      · exfalso
        refine y ((lg_cmp_le _ _).mpr ?_)
        rw [nI_l (by omega)]
        exact (lN_leN (by omega) (by omega)).mpr (by omega)
  · rw [if_neg (fun e => z (by rw [hck.1.mpr e]))] at h
    iterate 2 refine em_next rfl ?_
    refine em_inv_call rfl (tl_refuse (k := 1) hx hc (h.c (fun v M hv hQ => ?_)))
    rcases hv with rfl | rfl <;> exact em_done rfl hQ
theorem tl_behind (hx : cx b L n I J) {t k : Nat} (hc : cat b L t I) (hk : k ≤ t) (h1 : 1 ≤ k) (h2 : tk_K b L (t - k) = 2) (h : Q (some (.int (nI (tk_V b L (t - k))))) (em_SH, I, J, em_RT lw)) : em_call d 83 [.ref 40, .int (nI k)] (em_SH, I, J, em_RT lw) Q := by
  have hlt := hx.lt hc.1 hc.2.1
  have nn : n ≤ 401 := by
    rcases hx.2 with e | ⟨_, e, _⟩ <;> omega
  have hV := tk_V_lt h2
  iterate 4 refine em_next rfl ?_
  refine em_c_ltE hc.2.2.1 (y' := nI k) rfl (fun z => absurd ((nI_ltI (by omega) (by omega)).mp z) (by omega)) (fun _ => ?_)
  iterate 7 refine em_next rfl ?_
  refine em_lalE (k := t - k) rfl rfl ?_ (by omega) (by decide) ?_
  · show I 40 4 - nI k = nI (t - k)
    rw [hc.2.2.1]
    exact nI_subN hk
  have e : J 6 (t - k) = lN (tk_V b L (t - k)) := (hx.1 (t - k) (by omega)).2.2.1 h2
  rw [e]
  iterate 2 refine em_next rfl ?_
  refine em_done rfl ?_
  rw [← nI_l (n := tk_V b L (t - k)) (by omega), lg_l2i_i2l]
  exact h
end TELL
