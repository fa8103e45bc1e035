/-! laws as texts tell them: code for a pile -/
theorem ek_eus {g : Nat → Int32} {i : Nat} {x : Int32} : ek_eu g i x i = x := if_pos rfl
theorem ek_eun {g : Nat → Int32} {i j : Nat} {x : Int32} (h : j ≠ i) : ek_eu g i x j = g j := if_neg h
theorem wd_app {h : Nat} {a b : ek_cd} {n m k : Nat} (h1 : ek_wd h a n m) (h2 : ek_wd h b m k) : ek_wd h (a ++ b) n k := by
  induction a generalizing n with
  | nil => cases h1; exact h2
  | cons q a ih =>
    rw [List.cons_append, ek_wd]
    rw [ek_wd] at h1
    split
    · rename_i z
      rw [if_pos z] at h1
      exact ⟨h1.1, h1.2.1, h1.2.2.1, ih h1.2.2.2⟩
    · rename_i z
      rw [if_neg z] at h1
      exact ⟨h1.1, h1.2.1, ih h1.2.2⟩
theorem wd_mono {h h' : Nat} {a : ek_cd} {n m : Nat} (hh : h ≤ h') (h1 : ek_wd h a n m) : ek_wd h' a n m := by
  induction a generalizing n with
  | nil => exact h1
  | cons q a ih =>
    rw [ek_wd] at h1 ⊢
    split
    · rename_i z
      rw [if_pos z] at h1
      exact ⟨h1.1, h1.2.1, by omega, ih h1.2.2.2⟩
    · rename_i z
      rw [if_neg z] at h1
      exact ⟨h1.1, h1.2.1, ih h1.2.2⟩
theorem wd_sh {h : Nat} {a : ek_cd} {n m k : Nat} (h1 : ek_wd h a n m) : ek_wd (h + k) a (n + k) (m + k) := by
  induction a generalizing n with
  | nil => cases h1; rfl
  | cons q a ih =>
    rw [ek_wd] at h1 ⊢
    split
    · rename_i z
      rw [if_pos z] at h1
      have := ih h1.2.2.2
      rw [show n + 1 + k = n + k + 1 by omega] at this
      exact ⟨h1.1, h1.2.1, by omega, this⟩
    · rename_i z
      rw [if_neg z] at h1
      have := ih h1.2.2
      rw [show n - 1 + k = n + k - 1 by omega] at this
      exact ⟨h1.1, by omega, this⟩
theorem ev_sh {v : Nat → Int32} {h : Nat} {c : ek_cd} {n m k : Nat} (hw : ek_wd h c n m) {g g' : Nat → Int32} (hg : ∀ i, i < n → g' i = g (i + k)) : (ek_ev v c n g' = none → ek_ev v c (n + k) g = none) ∧ ∀ r', ek_ev v c n g' = some r' → ∃ r, ek_ev v c (n + k) g = some r ∧ (∀ i, i < m → r (i + k) = r' i) ∧ ∀ i, i < k → r i = g i := by
  induction c generalizing n g g' with
  | nil =>
    cases hw
    refine ⟨fun z => (by cases z), fun r' z => ⟨g, rfl, fun i hi => ?_, fun _ _ => rfl⟩⟩
    cases z
    exact (hg i hi).symm
  | cons q c ih =>
    rw [ek_wd] at hw
    rw [ek_ev, ek_ev]
    by_cases z : q.1 < 2
    · rw [if_pos z] at hw
      rw [if_pos z, if_pos z, show n + k + 1 = n + 1 + k by omega]
      have := ih hw.2.2.2 (g := ek_eu g (n + k) (if q.1 = 0 then nI q.2 else v q.2)) (g' := ek_eu g' n (if q.1 = 0 then nI q.2 else v q.2)) (fun i hi => by
        by_cases e : i = n
        · subst e; rw [ek_eus, ek_eus]
        · rw [ek_eun e, ek_eun (by omega)]; exact hg i (by omega))
      refine ⟨this.1, fun r' hr => ?_⟩
      obtain ⟨r, h1, h2, h3⟩ := this.2 r' hr
      exact ⟨r, h1, h2, fun i hi => by rw [h3 i hi, ek_eun (by omega)]⟩
    · rw [if_neg z] at hw
      have e1 : g' (n - 1) = g (n + k - 1) := by rw [hg _ (by omega)]; congr 1; omega
      have e2 : g' (n - 2) = g (n + k - 2) := by rw [hg _ (by omega)]; congr 1; omega
      rw [if_neg z, if_neg z, e1, e2]
      by_cases z2 : q.1 = 5 ∧ g (n + k - 1) = 0
      · rw [if_pos z2, if_pos z2]
        exact ⟨fun _ => rfl, fun r' hr => by cases hr⟩
      · rw [if_neg z2, if_neg z2, show n + k - 1 = n - 1 + k by omega]
        have := ih hw.2.2 (g := ek_eu g (n + k - 2) (ek_eo q.1 (g (n + k - 2)) (g (n - 1 + k)))) (g' := ek_eu g' (n - 2) (ek_eo q.1 (g (n + k - 2)) (g (n - 1 + k)))) (fun i hi => by
          by_cases e : i = n - 2
          · subst e
            rw [ek_eus, show n - 2 + k = n + k - 2 by omega, ek_eus]
          · rw [ek_eun e, ek_eun (by omega)]; exact hg i (by omega))
        refine ⟨this.1, fun r' hr => ?_⟩
        obtain ⟨r, h1, h2, h3⟩ := this.2 r' hr
        exact ⟨r, h1, h2, fun i hi => by rw [h3 i hi, ek_eun (by omega)]⟩
/-- no parting is looked at -/
def ek_np (c : ek_cd) : Prop := ∀ q ∈ c, ¬ q = (1, 8)
def ek_nl : ek_lw → Prop
  | none => True
  | some (bs, t) => (∀ b ∈ bs, ek_np b.1 ∧ ek_np b.2.1 ∧ ek_np b.2.2) ∧ ek_np t
theorem ev_np {v w : Nat → Int32} {h : Nat} {c : ek_cd} {n m : Nat} (hw : ek_wd h c n m) (hn : ek_np c) (hv : ∀ x, x < 8 → v x = w x) (g : Nat → Int32) : ek_ev v c n g = ek_ev w c n g := by
  induction c generalizing n g with
  | nil => rfl
  | cons q c ih =>
    rw [ek_wd] at hw
    rw [ek_ev, ek_ev]
    have hn2 : ek_np c := fun x hx => hn x (List.mem_cons_of_mem _ hx)
    by_cases z : q.1 < 2
    · rw [if_pos z] at hw
      rw [if_pos z, if_pos z, ih hw.2.2.2 hn2]
      congr 2
      by_cases z2 : q.1 = 0
      · rw [if_pos z2, if_pos z2]
      · rw [if_neg z2, if_neg z2]
        have h1 : q.1 = 1 := by omega
        have h2 := hw.1 h1
        have h3 : ¬ q.2 = 8 := fun e => hn q List.mem_cons_self (by rw [← h1, ← e])
        exact hv _ (by omega)
    · rw [if_neg z] at hw
      rw [if_neg z, if_neg z, ih hw.2.2 hn2]
theorem ex_np {v w : Nat → Int32} {c : ek_cd} (hw : ek_wx c) (hn : ek_np c) (hv : ∀ x, x < 8 → v x = w x) : ek_ex v c = ek_ex w c := by
  unfold ek_ex
  rw [ev_np hw hn hv]
theorem lbr_np {v w : Nat → Int32} {bs : List ek_br} {t : ek_cd} (hw : ek_wl (some (bs, t))) (hn : ek_nl (some (bs, t))) (hv : ∀ x, x < 8 → v x = w x) : lbr v bs t = lbr w bs t := by
  induction bs with
  | nil => rw [lbr, lbr, ex_np hw.2 hn.2 hv]
  | cons b bs ih =>
    have h1 := hw.1 b List.mem_cons_self
    have h2 := hn.1 b List.mem_cons_self
    rw [lbr, lbr, ex_np h1.1 h2.1 hv, ex_np h1.2.1 h2.2.1 hv, ex_np h1.2.2 h2.2.2 hv, ih ⟨fun x hx => hw.1 x (List.mem_cons_of_mem _ hx), hw.2⟩ ⟨fun x hx => hn.1 x (List.mem_cons_of_mem _ hx), hn.2⟩]
theorem take8 {v w : List Int32} (h : v.take 8 = w.take 8) {x : Nat} (hx : x < 8) : v.getD x 0 = w.getD x 0 := by
  have e : ∀ u : List Int32, u.getD x 0 = (u.take 8).getD x 0 := fun u => by
    rw [List.getD_eq_getElem?_getD, List.getD_eq_getElem?_getD, List.getElem?_take_of_lt hx]
  rw [e v, e w, h]
theorem lsem_ind {l : ek_lw} {lp : Bool} (hw : ek_wl l) (hn : lp = false → ek_nl l) : em_ind lp (lsem 0 l) := by
  intro h v w he
  cases l with
  | none => exact take8 he (by decide)
  | some q => exact lbr_np hw (hn h) (fun x hx => take8 he hx)
theorem v9_get {f : Nat → Int32} {x : Nat} (h : x < 9) : (em_v9 f).getD x 0 = f x := by
  unfold em_v9
  rw [List.getD_eq_getElem?_getD, List.getElem?_map, List.getElem?_range h]
  rfl
theorem ev_v {v w : Nat → Int32} {h : Nat} {c : ek_cd} {n m : Nat} (hw : ek_wd h c n m) (hv : ∀ x, x < 9 → v x = w x) (g : Nat → Int32) : ek_ev v c n g = ek_ev w c n g := by
  induction c generalizing n g with
  | nil => rfl
  | cons q c ih =>
    rw [ek_wd] at hw
    rw [ek_ev, ek_ev]
    by_cases z : q.1 < 2
    · rw [if_pos z] at hw
      rw [if_pos z, if_pos z, ih hw.2.2.2]
      congr 2
      by_cases z2 : q.1 = 0
      · rw [if_pos z2, if_pos z2]
      · rw [if_neg z2, if_neg z2]
        exact hv _ (hw.1 (by omega))
    · rw [if_neg z] at hw
      rw [if_neg z, if_neg z, ih hw.2.2]
theorem ex_v {v w : Nat → Int32} {c : ek_cd} (hw : ek_wx c) (hv : ∀ x, x < 9 → v x = w x) : ek_ex v c = ek_ex w c := by
  unfold ek_ex
  rw [ev_v hw hv]
theorem lbr_v {v w : Nat → Int32} {bs : List ek_br} {t : ek_cd} (hw : ek_wl (some (bs, t))) (hv : ∀ x, x < 9 → v x = w x) : lbr v bs t = lbr w bs t := by
  induction bs with
  | nil => rw [lbr, lbr, ex_v hw.2 hv]
  | cons b bs ih =>
    have h1 := hw.1 b List.mem_cons_self
    rw [lbr, lbr, ex_v h1.1 hv, ex_v h1.2.1 hv, ex_v h1.2.2 hv, ih ⟨fun x hx => hw.1 x (List.mem_cons_of_mem _ hx), hw.2⟩]
