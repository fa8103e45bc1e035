/-! the reference: hours gone through, a row some hours on -/
theorem em_ch_still (P : em_Pl) (sd : Int32) (X : em_Nt) (b : Nat) : em_ch P true sd X b = false := rfl
theorem em_step_still (P : em_Pl) (sd : Int32) (X : em_Nt) : em_step P true sd X = em_step P true 0 X := by
  unfold em_step
  simp only [em_ch_still]
theorem em_it_still (P : em_Pl) (sd : Int32) (m : Nat) (X : em_Nt) : em_it P true sd m X = em_it P true 0 m X := by
  induction m with
  | zero => rfl
  | succ m ih =>
    show em_step P true sd (em_it P true sd m X) = em_step P true 0 (em_it P true 0 m X)
    rw [ih, em_step_still]
/-- how all lie some hours on, did they lie so now, nobody chilled -/
def em_ra (P : em_Pl) (h : Nat) (part : Nat → Int32) (m s : Nat) : Nat := (em_it P true 0 m (s, h, part)).1
theorem em_it_h (P : em_Pl) (stl : Bool) (sd : Int32) (m : Nat) (X : em_Nt) : (em_it P stl sd m X).2.1 = X.2.1 + m := by
  induction m with
  | zero => rfl
  | succ m ih =>
    show (em_it P stl sd m X).2.1 + 1 = _
    rw [ih]
    omega
theorem em_it_lt (P : em_Pl) (stl : Bool) (sd : Int32) (m : Nat) {X : em_Nt} (h : X.1 < 2 ^ P.1) : (em_it P stl sd m X).1 < 2 ^ P.1 := by
  cases m with
  | zero => exact h
  | succ m => exact em_or_lt _ _
theorem em_ra_lt {P : em_Pl} {h : Nat} {part : Nat → Int32} {m s : Nat} (hs : s < 2 ^ P.1) : em_ra P h part m s < 2 ^ P.1 := em_it_lt P true 0 m hs
/-- how many were chilled -/
def em_chn (P : em_Pl) (stl : Bool) (sd : Int32) : Nat → em_Nt → Nat
  | 0, _ => 0
  | k + 1, X => em_chn P stl sd k X + em_ct P.1 (em_ch P stl sd (em_it P stl sd k X))
section MG2
variable {d lw lv n r hh : Nat} {rg : Bool} {cold hab part : Nat → Int32} {f : Nat → List Int32 → Int32} {I I0 : Nat → Nat → Int32} {J : Nat → Nat → Int64} {M : em_M} {Q : Option Value → em_M → Prop} {stl : Bool} {sd : Int32}
theorem me_hour_1 (hP : mo_P I lv n rg cold f) (hN : mo_N I n r hh hab part) (hs : I 284 50 = em_bb stl) (hl : I 284 49 = sd) {k m : Nat} (hk : k + m = n) (hI : em_fH I0 I)
    (hv : ∀ b, b < k → I 316 b = em_bb ((em_ly (n, rg, cold, f, hab) (r, hh, part) b).xor (em_ch (n, rg, cold, f, hab) stl sd (r, hh, part) b)) ∧ I 317 b = em_pt (n, rg, cold, f, hab) (r, hh, part) b) (hc : I 315 46 = I0 315 46 + nI (em_ct k (em_ch (n, rg, cold, f, hab) stl sd (r, hh, part)))) {o : Option Value}
    (h : ∀ (I' : Nat → Nat → Int32) (o' : Option Value), em_fH I0 I' → (∀ b, b < n → I' 316 b = em_bb ((em_ly (n, rg, cold, f, hab) (r, hh, part) b).xor (em_ch (n, rg, cold, f, hab) stl sd (r, hh, part) b)) ∧ I' 317 b = em_pt (n, rg, cold, f, hab) (r, hh, part) b) → I' 315 46 = I0 315 46 + nI (em_ct n (em_ch (n, rg, cold, f, hab) stl sd (r, hh, part))) → em_wp em_sc0 (d + 5) 222 133 [some (.ref 284), some (.int (nI n)), o'] [] (em_SH, I', J, em_RT lw) Q) :
    em_wp em_sc0 (d + 5) 222 2 [some (.ref 284), some (.int (nI k)), o] [] (em_SH, I, J, em_RT lw) Q := by
  have hn := hP.1.2.1
  induction m generalizing k I o with
  | zero =>
    have e : k = n := by omega
    subst e
    iterate 2 refine em_next rfl ?_
    refine em_inv_call rfl (me_many hP ?_)
    iterate 1 refine em_next rfl ?_
    refine em_c_ge (fun _ => ?_) (fun h1 => absurd (nI_le (Nat.le_refl _) (by omega)) h1)
    exact h I o hI hv hc
  | succ m ih =>
    iterate 2 refine em_next rfl ?_
    refine em_inv_call rfl (me_many hP ?_)
    iterate 1 refine em_next rfl ?_
    refine em_c_ge (fun h1 => absurd h1 (nI_ge (by omega) (by omega))) (fun _ => ?_)
    iterate 2 refine em_next rfl ?_
    refine em_inv_call rfl (me_partsOf hP hN (b := k) (by omega) (fun I1 g1 => ?_))
    have hP1 := hP.keep g1.M
    have hN1 := hN.H hn g1.H
    have hs1 : I1 284 50 = em_bb stl := (g1 _ _ (by decide) (by decide) (by decide)).trans hs
    have hl1 : I1 284 49 = sd := (g1 _ _ (by decide) (by decide) (by decide)).trans hl
    have e1 : ∀ b, I1 316 b = I 316 b ∧ I1 317 b = I 317 b := fun b => ⟨by rw [g1.row (by decide) (by decide) (by decide)], by rw [g1.row (by decide) (by decide) (by decide)]⟩
    have e2 : I1 315 46 = I 315 46 := by rw [g1.row (by decide) (by decide) (by decide)]
    have nxt : ∀ (g : Int32) (o1 : Option Value), em_cl (part k + g) (-9999) 9999 = em_pt (n, rg, cold, f, hab) (r, hh, part) k → em_wp em_sc0 (d + 5) 222 46 [some (.ref 284), some (.int (nI k)), o1] [.int g, .int (part k), .int (nI k), .ref 317] (em_SH, I1, J, em_RT lw) Q := by
      intro g o1 hg
      refine me_hour_b (stl := stl) (sd := sd) hP1 hN1 (by omega) hs1 hl1 (fun I2 a1 a2 a3 a4 a5 => ?_)
      have fI := (g1.H).tr a1
      have g := ih (k := k + 1) (I := I2) (o := o1) (hP.keep fI.M) (hN.H hn fI) ((a1 _ _ (by decide) (by decide) (by decide)).trans hs1) ((a1 _ _ (by decide) (by decide) (by decide)).trans hl1) (by omega) (hI.tr fI) (fun b hb => ?_) ?_
      · rw [nI_succ] at g
        exact g
      · by_cases hbk : b = k
        · subst hbk
          exact ⟨a2, by rw [a3, hg]⟩
        · rw [(a4 b hbk).1, (a4 b hbk).2, (e1 b).1, (e1 b).2]
          exact hv b (by omega)
      · rw [a5, e2, hc, Int32.add_assoc]
        congr 1
        rw [show em_ct (k + 1) (em_ch (n, rg, cold, f, hab) stl sd (r, hh, part)) = em_ct k (em_ch (n, rg, cold, f, hab) stl sd (r, hh, part)) + (if em_ch (n, rg, cold, f, hab) stl sd (r, hh, part) k then 1 else 0) from rfl, em_nadd]
        congr 1
        split <;> rfl
    iterate 9 refine em_next rfl ?_
    refine em_ialk (i := 27 + nI k) (k := 27 + k) rfl rfl (by rw [show (27 : Int32) + nI k = nI (27 + k) from (em_nadd 27 k).symm]; exact em_in_n (by omega) (by decide)) (by rw [show (27 : Int32) + nI k = nI (27 + k) from (em_nadd 27 k).symm]; exact nI_clamp (by omega)) ?_
    rw [(hN1.2 k (by omega)).2.2]
    iterate 3 refine em_next rfl ?_
    refine em_ialn (k := k) rfl rfl (by omega) (by decide) ?_
    rw [(hN1.2 k (by omega)).1]
    iterate 2 refine em_next rfl ?_
    refine em_c_ne (fun q => ?_) (fun q => ?_)
    · iterate 2 refine em_next rfl ?_
      refine nxt _ _ ?_
      unfold em_pt
      rw [if_neg]
      · rfl
      · intro hb
        exact q (by rw [em_bit_bb, hb]; rfl)
    · iterate 2 refine em_next rfl ?_
      refine nxt _ _ ?_
      unfold em_pt
      rw [if_pos]
      · rfl
      · unfold em_bit at q
        split at q
        · assumption
        · exact absurd q (by decide)
theorem me_hour_2 (hP : mo_P I lv n rg cold f) {k m : Nat} (hk : k + m = n) (h0 : ∀ c, c ≠ 315 → I c = I0 c) (h1 : ∀ b, b < k → I 315 b = I0 316 b ∧ I 315 (27 + b) = I0 317 b) (h2 : ∀ j, k ≤ j → ¬ (27 ≤ j ∧ j < 27 + k) → I 315 j = I0 315 j) {o : Option Value}
    (h : ∀ I' : Nat → Nat → Int32, (∀ c, c ≠ 315 → I' c = I0 c) → (∀ b, b < n → I' 315 b = I0 316 b ∧ I' 315 (27 + b) = I0 317 b) → I' 315 45 = I0 315 45 + 1 → I' 315 47 = I0 315 47 + 1 → (∀ j, n ≤ j → ¬ (27 ≤ j ∧ j < 27 + n) → j ≠ 45 → j ≠ 47 → I' 315 j = I0 315 j) → Q none (em_SH, I', J, em_RT lw)) :
    em_wp em_sc0 (d + 5) 222 135 [some (.ref 284), some (.int (nI k)), o] [] (em_SH, I, J, em_RT lw) Q := by
  have hn := hP.1.2.1
  induction m generalizing k I with
  | zero =>
    have e : k = n := by omega
    subst e
    iterate 2 refine em_next rfl ?_
    refine em_inv_call rfl (me_many hP ?_)
    iterate 1 refine em_next rfl ?_
    refine em_c_ge (fun _ => ?_) (fun h1 => absurd (nI_le (Nat.le_refl _) (by omega)) h1)
    iterate 4 refine em_next rfl ?_
    refine em_ialk (k := 45) rfl rfl (by decide) rfl ?_
    iterate 2 refine em_next rfl ?_
    refine em_iask (k := 45) rfl rfl (by decide) rfl ?_
    iterate 4 refine em_next rfl ?_
    refine em_ialk (k := 47) rfl rfl (by decide) rfl ?_
    iterate 2 refine em_next rfl ?_
    refine em_iask (k := 47) rfl rfl (by decide) rfl ?_
    refine em_done rfl ?_
    refine h _ (fun c hc => by rw [em_u_row hc, em_u_row hc]; exact h0 c hc) (fun b hb => ⟨?_, ?_⟩) ?_ ?_ (fun j j1 j2 j3 j4 => ?_)
    · rw [em_u_ne (by omega), em_u_ne (by omega)]
      exact (h1 b hb).1
    · rw [em_u_ne (by omega), em_u_ne (by omega)]
      exact (h1 b hb).2
    · rw [em_u_ne (by decide), em_u_self, h2 45 (by omega) (by omega)]
      rfl
    · rw [em_u_self, em_u_ne (by decide), h2 47 (by omega) (by omega)]
      rfl
    · rw [em_u_ne j4, em_u_ne j3]
      exact h2 j j1 j2
  | succ m ih =>
    iterate 2 refine em_next rfl ?_
    refine em_inv_call rfl (me_many hP ?_)
    iterate 1 refine em_next rfl ?_
    refine em_c_ge (fun h1 => absurd h1 (nI_ge (by omega) (by omega))) (fun _ => ?_)
    iterate 6 refine em_next rfl ?_
    refine em_ialn (k := k) rfl rfl (by omega) (by decide) ?_
    refine em_iasn (k := k) rfl rfl (by omega) (by decide) ?_
    iterate 8 refine em_next rfl ?_
    refine em_ialn (k := k) rfl rfl (by omega) (by decide) ?_
    refine em_iask (i := 27 + nI k) (k := 27 + k) rfl rfl (by rw [show (27 : Int32) + nI k = nI (27 + k) from (em_nadd 27 k).symm]; exact em_in_n (by omega) (by decide)) (by rw [show (27 : Int32) + nI k = nI (27 + k) from (em_nadd 27 k).symm]; exact nI_clamp (by omega)) ?_
    iterate 2 refine em_next rfl ?_
    have g := ih (k := k + 1) (I := em_u (em_u I 315 k (I 316 k)) 315 (27 + k) (em_u I 315 k (I 316 k) 317 k)) (hP.keep (em_fM.row (a := 315) (by decide) (fun c hc => by rw [em_u_row hc, em_u_row hc]))) (by omega) (fun c hc => by rw [em_u_row hc, em_u_row hc]; exact h0 c hc) (fun b hb => ?_) (fun j j1 j2 => ?_)
    · rw [nI_succ] at g
      exact g
    · by_cases hbk : b = k
      · subst hbk
        rw [em_u_ne (by omega), em_u_self, em_u_self, em_u_row (by decide), h0 _ (by decide), h0 _ (by decide)]
        exact ⟨rfl, rfl⟩
      · rw [em_u_ne (by omega), em_u_ne hbk, em_u_ne (by omega), em_u_ne (by omega)]
        exact h1 b (by omega)
    · rw [em_u_ne (by omega), em_u_ne (by omega)]
      exact h2 j (by omega) (by omega)
/-- an hour of the reference is a step -/
theorem me_hourGoes (hP : mo_P I lv n rg cold f) (hN : mo_N I n r hh hab part) (hb : hh + 1 < 1000000) (hs : I 284 50 = em_bb stl) (hl : I 284 49 = sd)
    (h : ∀ I' : Nat → Nat → Int32, em_fM I I' → mo_N I' n (em_step (n, rg, cold, f, hab) stl sd (r, hh, part)).1 (hh + 1) hab (em_step (n, rg, cold, f, hab) stl sd (r, hh, part)).2.2 → I' 284 50 = em_bb stl → I' 284 49 = sd → I' 315 46 = I 315 46 + nI (em_ct n (em_ch (n, rg, cold, f, hab) stl sd (r, hh, part))) → I' 315 47 = I 315 47 + 1 → (∀ j, n ≤ j → ¬ (27 ≤ j ∧ j < 27 + n) → j < 45 → I' 315 j = I 315 j) → Q none (em_SH, I', J, em_RT lw)) :
    em_call (d + 5) 222 [.ref 284] (em_SH, I, J, em_RT lw) Q := by
  have hn := hP.1.2.1
  iterate 2 refine em_next rfl ?_
  refine me_hour_1 (k := 0) (m := n) (I0 := I) (o := none) hP hN hs hl (by omega) (fun _ _ _ _ _ => rfl) (fun b hb => by omega) (Int32.add_zero _).symm (fun I1 o1 g1 g2 g3 => ?_)
  iterate 2 refine em_next rfl ?_
  refine me_hour_2 (k := 0) (m := n) (I0 := I1) (hP.keep g1.M) (by omega) (fun _ _ => rfl) (fun b hb => by omega) (fun _ _ _ => rfl) (fun I2 a1 a2 a3 a4 a5 => ?_)
  have fM : em_fM I I2 := (g1.M).tr (em_fM.row (a := 315) (by decide) a1)
  refine h I2 fM ⟨⟨em_or_lt _ _, hb, ?_⟩, fun b hb => ⟨?_, ?_, ?_⟩⟩ ?_ ?_ ?_ ?_ (fun j j1 j2 j3 => ?_)
  · rw [a3, g1 _ _ (by decide) (by decide) (by decide), hN.1.2.2, nI_succ]
  · rw [(a2 b hb).1, (g2 b hb).1, em_bit_bb]
    congr 1
    exact (em_or_bit (p := fun b => (em_ly (n, rg, cold, f, hab) (r, hh, part) b).xor (em_ch (n, rg, cold, f, hab) stl sd (r, hh, part) b)) hb).symm
  · rw [a5 _ (by omega) (by omega) (by omega) (by omega), g1 _ _ (by decide) (fun q => absurd q.1 (by decide)) (fun q => absurd q.2 (by omega))]
    exact (hN.2 b hb).2.1
  · rw [(a2 b hb).2, (g2 b hb).2]
    rfl
  · rw [a1 _ (by decide), g1 _ _ (by decide) (by decide) (by decide)]
    exact hs
  · rw [a1 _ (by decide), g1 _ _ (by decide) (by decide) (by decide)]
    exact hl
  · rw [a5 46 (by omega) (by omega) (by decide) (by decide), g3]
  · rw [a4, g1 _ _ (by decide) (by decide) (by decide)]
  · rw [a5 j j1 j2 (by omega) (by omega), g1 _ _ (by decide) (fun q => absurd q.1 (by decide)) (fun q => absurd q.2 (by omega))]
end MG2
