/-! the class: what is remembered -/
theorem em_remE {a : Int32} {m : Nat} (ea : a = nI m) (hm : m < 2 ^ 31) : a - a / 40 * 40 = nI (m % 40) := by
  subst ea
  exact em_remN (n := 40) (by decide) (by decide) hm
section CCH2
variable {d lw lv nx : Nat} {p : em_Pn} {W W' : em_Wt} {u : Nat} {H : Nat → em_Wt} {hl : Nat → Bool} {S : Nat → em_Wt} {T : Nat} {D : em_Td} {L : Nat} {tp : Nat → Int32} {pc : Int32} {lp : Bool} {I I0 : Nat → Nat → Int32} {J : Nat → Nat → Int64} {Q : Option Value → em_M → Prop} {B : Nat}
theorem em_aaE {sc : Nat × (Nat → Int32)} {ix pc nx : Nat} {lc : em_L} {r : List Value} {S : List (Nat × Nat)} {R : Nat → Nat → Option Nat} {i : Int32} {a n k b : Nat} (hi : em_ins ix pc = some (.aaload, nx)) (hs : S[a]? = some (24, n)) (he : i = nI k) (hk : k < n) (hn : n < 2 ^ 31) (hR : R a k = some b) (kk : em_wp sc d ix nx lc (.ref b :: r) (S, I, J, R) Q) : em_wp sc d ix pc lc (.int i :: .ref a :: r) (S, I, J, R) Q := by
  subst he
  have hin := em_in_n hk hn
  have hc := nI_clamp (n := k) (by omega)
  refine em_next ?_ kk
  unfold em_stp
  rw [hi]
  unfold em_do
  dsimp only
  rw [hs]
  dsimp only
  rw [if_pos ⟨rfl, hin⟩, hc, hR]
  rfl
theorem em_min40 {a : Int32} {u : Nat} (ea : a = nI u) (hu : u ≤ 40) : (if (40 : Int32) < a + 1 then 40 else a + 1) = nI (eh_u u) := by
  have hh : ∀ u, u < 41 → (if (40 : Int32) < nI u + 1 then 40 else nI u + 1) = nI (eh_u u) := by decide +kernel
  subst ea
  exact hh u (by omega)
theorem ce_add_past0 (hK : I 47 3 = nI 0) (hu : u ≤ 40) (hZ : I 47 4 = nI u) (h : ∀ I' : Nat → Nat → Int32, (∀ a, a ≠ 47 → ¬ (51 ≤ a ∧ a ≤ 55) → I' a = I a) → (∀ (n : Nat) (W : em_Wt), n ≤ 9 → cr I 42 n W → cr I' 51 n W) → I' 47 3 = nI ((0 + 1) % 40) → I' 47 4 = nI (eh_u u) → Q none (em_SH, I', J, em_RT lw)) : em_call (d + 1) 17 [.ref 47, .ref 42] (em_SH, I, J, em_RT lw) Q := by
  iterate 4 refine em_next rfl ?_
  refine em_aaE (k := 0) (b := 51) rfl rfl hK (by decide) (by decide) rfl ?_
  iterate 1 refine em_next rfl ?_
  refine em_inv_call rfl (ce_cpIn_past0 (fun I1 a1 a2 => ?_))
  have e1 : I1 47 3 + 1 = nI (0 + 1) := by rw [a1 _ (by decide), hK]; exact (nI_succ 0).symm
  have e2 : I1 47 4 = nI u := by rw [a1 _ (by decide)]; exact hZ
  iterate 7 refine em_next rfl ?_
  refine em_tp (em_remE e1 (by decide)) ?_
  iterate 8 refine em_next rfl ?_
  refine em_tp (em_min40 e2 hu) ?_
  iterate 1 refine em_next rfl ?_
  refine em_done rfl ?_
  show Q none (em_SH, em_u (em_u I1 47 3 (nI ((0 + 1) % 40))) 47 4 (nI (eh_u u)), J, em_RT lw)
  refine h _ (fun a h1 h2 => ?_) (fun n W hn hc => (a2 n W hn hc).keep (fun a z1 z2 => ?_)) ?_ ?_
  · rw [em_u_row h1, em_u_row h1]; exact a1 a h2
  · rw [em_u_row (by omega), em_u_row (by omega)]
  · rw [em_u_ne (by decide), em_u_self]
  · exact em_u_self
theorem ce_last_past0 {j : Nat} (hj : j < 40) (hK : (j + 39) % 40 = 0) (hN : I 47 3 = nI j) (hu : u ≤ 40) (hZ : I 47 4 = nI u) (h0 : ¬ u = 0) (h : ∀ I' : Nat → Nat → Int32, (∀ a, a ≠ 47 → ¬ (42 ≤ a ∧ a ≤ 46) → I' a = I a) → (∀ (n : Nat) (W : em_Wt), n ≤ 9 → cr I 51 n W → cr I' 42 n W) → I' 47 3 = nI 0 → I' 47 4 = nI (u - 1) → Q (some (.int 1)) (em_SH, I', J, em_RT lw)) : em_call (d + 1) 18 [.ref 47, .ref 42] (em_SH, I, J, em_RT lw) Q := by
  have e1 : I 47 3 + 40 - 1 = nI (j + 39) := by
    rw [hN, show nI j + 40 = nI (j + 39 + 1) from (em_nadd j 40).symm, nI_pred]
  iterate 3 refine em_next rfl ?_
  refine em_z_neE hZ (fun _ => ?_) (fun q => absurd ((nI_eq (b := 0) (by omega) (by decide)).mp q) h0)
  iterate 9 refine em_next rfl ?_
  refine em_tp (y := nI 0) ((em_remE e1 (by omega)).trans (by rw [hK])) ?_
  iterate 1 refine em_next rfl ?_
  show em_wp em_sc0 (d + 1) 18 _ _ _ (em_SH, em_u I 47 3 (nI 0), J, em_RT lw) Q
  iterate 5 refine em_next rfl ?_
  refine em_aaE (k := 0) (b := 51) rfl rfl (em_u_self (I := I) (a := 47) (j := 3) (x := nI 0)) (by decide) (by decide) rfl ?_
  refine em_inv_call rfl (ce_cpOut_past0 (fun I1 a1 a2 => ?_))
  have e2 : I1 47 4 - 1 = nI (u - 1) := by rw [a1 _ (by decide), em_u_ne (by decide), hZ, em_pred1 (by omega)]
  iterate 4 refine em_next rfl ?_
  refine em_next rfl ?_
  refine em_tp e2 ?_
  iterate 2 refine em_next rfl ?_
  refine em_done rfl ?_
  show Q (some (.int 1)) (em_SH, em_u I1 47 4 (nI (u - 1)), J, em_RT lw)
  refine h _ (fun a h1 h2 => ?_) (fun n W hn hc => (a2 n W hn (hc.keep (fun a z1 z2 => em_u_row (by omega)))).keep (fun a z1 z2 => em_u_row (by omega))) ?_ em_u_self
  · rw [em_u_row h1, a1 a h2, em_u_row h1]
  · rw [em_u_ne (by decide), a1 _ (by decide), em_u_self]
theorem ce_add_past1 (hK : I 47 3 = nI 1) (hu : u ≤ 40) (hZ : I 47 4 = nI u) (h : ∀ I' : Nat → Nat → Int32, (∀ a, a ≠ 47 → ¬ (56 ≤ a ∧ a ≤ 60) → I' a = I a) → (∀ (n : Nat) (W : em_Wt), n ≤ 9 → cr I 42 n W → cr I' 56 n W) → I' 47 3 = nI ((1 + 1) % 40) → I' 47 4 = nI (eh_u u) → Q none (em_SH, I', J, em_RT lw)) : em_call (d + 1) 17 [.ref 47, .ref 42] (em_SH, I, J, em_RT lw) Q := by
  iterate 4 refine em_next rfl ?_
  refine em_aaE (k := 1) (b := 56) rfl rfl hK (by decide) (by decide) rfl ?_
  iterate 1 refine em_next rfl ?_
  refine em_inv_call rfl (ce_cpIn_past1 (fun I1 a1 a2 => ?_))
  have e1 : I1 47 3 + 1 = nI (1 + 1) := by rw [a1 _ (by decide), hK]; exact (nI_succ 1).symm
  have e2 : I1 47 4 = nI u := by rw [a1 _ (by decide)]; exact hZ
  iterate 7 refine em_next rfl ?_
  refine em_tp (em_remE e1 (by decide)) ?_
  iterate 8 refine em_next rfl ?_
  refine em_tp (em_min40 e2 hu) ?_
  iterate 1 refine em_next rfl ?_
  refine em_done rfl ?_
  show Q none (em_SH, em_u (em_u I1 47 3 (nI ((1 + 1) % 40))) 47 4 (nI (eh_u u)), J, em_RT lw)
  refine h _ (fun a h1 h2 => ?_) (fun n W hn hc => (a2 n W hn hc).keep (fun a z1 z2 => ?_)) ?_ ?_
  · rw [em_u_row h1, em_u_row h1]; exact a1 a h2
  · rw [em_u_row (by omega), em_u_row (by omega)]
  · rw [em_u_ne (by decide), em_u_self]
  · exact em_u_self
theorem ce_last_past1 {j : Nat} (hj : j < 40) (hK : (j + 39) % 40 = 1) (hN : I 47 3 = nI j) (hu : u ≤ 40) (hZ : I 47 4 = nI u) (h0 : ¬ u = 0) (h : ∀ I' : Nat → Nat → Int32, (∀ a, a ≠ 47 → ¬ (42 ≤ a ∧ a ≤ 46) → I' a = I a) → (∀ (n : Nat) (W : em_Wt), n ≤ 9 → cr I 56 n W → cr I' 42 n W) → I' 47 3 = nI 1 → I' 47 4 = nI (u - 1) → Q (some (.int 1)) (em_SH, I', J, em_RT lw)) : em_call (d + 1) 18 [.ref 47, .ref 42] (em_SH, I, J, em_RT lw) Q := by
  have e1 : I 47 3 + 40 - 1 = nI (j + 39) := by
    rw [hN, show nI j + 40 = nI (j + 39 + 1) from (em_nadd j 40).symm, nI_pred]
  iterate 3 refine em_next rfl ?_
  refine em_z_neE hZ (fun _ => ?_) (fun q => absurd ((nI_eq (b := 0) (by omega) (by decide)).mp q) h0)
  iterate 9 refine em_next rfl ?_
  refine em_tp (y := nI 1) ((em_remE e1 (by omega)).trans (by rw [hK])) ?_
  iterate 1 refine em_next rfl ?_
  show em_wp em_sc0 (d + 1) 18 _ _ _ (em_SH, em_u I 47 3 (nI 1), J, em_RT lw) Q
  iterate 5 refine em_next rfl ?_
  refine em_aaE (k := 1) (b := 56) rfl rfl (em_u_self (I := I) (a := 47) (j := 3) (x := nI 1)) (by decide) (by decide) rfl ?_
  refine em_inv_call rfl (ce_cpOut_past1 (fun I1 a1 a2 => ?_))
  have e2 : I1 47 4 - 1 = nI (u - 1) := by rw [a1 _ (by decide), em_u_ne (by decide), hZ, em_pred1 (by omega)]
  iterate 4 refine em_next rfl ?_
  refine em_next rfl ?_
  refine em_tp e2 ?_
  iterate 2 refine em_next rfl ?_
  refine em_done rfl ?_
  show Q (some (.int 1)) (em_SH, em_u I1 47 4 (nI (u - 1)), J, em_RT lw)
  refine h _ (fun a h1 h2 => ?_) (fun n W hn hc => (a2 n W hn (hc.keep (fun a z1 z2 => em_u_row (by omega)))).keep (fun a z1 z2 => em_u_row (by omega))) ?_ em_u_self
  · rw [em_u_row h1, a1 a h2, em_u_row h1]
  · rw [em_u_ne (by decide), a1 _ (by decide), em_u_self]
theorem ce_add_past2 (hK : I 47 3 = nI 2) (hu : u ≤ 40) (hZ : I 47 4 = nI u) (h : ∀ I' : Nat → Nat → Int32, (∀ a, a ≠ 47 → ¬ (61 ≤ a ∧ a ≤ 65) → I' a = I a) → (∀ (n : Nat) (W : em_Wt), n ≤ 9 → cr I 42 n W → cr I' 61 n W) → I' 47 3 = nI ((2 + 1) % 40) → I' 47 4 = nI (eh_u u) → Q none (em_SH, I', J, em_RT lw)) : em_call (d + 1) 17 [.ref 47, .ref 42] (em_SH, I, J, em_RT lw) Q := by
  iterate 4 refine em_next rfl ?_
  refine em_aaE (k := 2) (b := 61) rfl rfl hK (by decide) (by decide) rfl ?_
  iterate 1 refine em_next rfl ?_
  refine em_inv_call rfl (ce_cpIn_past2 (fun I1 a1 a2 => ?_))
  have e1 : I1 47 3 + 1 = nI (2 + 1) := by rw [a1 _ (by decide), hK]; exact (nI_succ 2).symm
  have e2 : I1 47 4 = nI u := by rw [a1 _ (by decide)]; exact hZ
  iterate 7 refine em_next rfl ?_
  refine em_tp (em_remE e1 (by decide)) ?_
  iterate 8 refine em_next rfl ?_
  refine em_tp (em_min40 e2 hu) ?_
  iterate 1 refine em_next rfl ?_
  refine em_done rfl ?_
  show Q none (em_SH, em_u (em_u I1 47 3 (nI ((2 + 1) % 40))) 47 4 (nI (eh_u u)), J, em_RT lw)
  refine h _ (fun a h1 h2 => ?_) (fun n W hn hc => (a2 n W hn hc).keep (fun a z1 z2 => ?_)) ?_ ?_
  · rw [em_u_row h1, em_u_row h1]; exact a1 a h2
  · rw [em_u_row (by omega), em_u_row (by omega)]
  · rw [em_u_ne (by decide), em_u_self]
  · exact em_u_self
theorem ce_last_past2 {j : Nat} (hj : j < 40) (hK : (j + 39) % 40 = 2) (hN : I 47 3 = nI j) (hu : u ≤ 40) (hZ : I 47 4 = nI u) (h0 : ¬ u = 0) (h : ∀ I' : Nat → Nat → Int32, (∀ a, a ≠ 47 → ¬ (42 ≤ a ∧ a ≤ 46) → I' a = I a) → (∀ (n : Nat) (W : em_Wt), n ≤ 9 → cr I 61 n W → cr I' 42 n W) → I' 47 3 = nI 2 → I' 47 4 = nI (u - 1) → Q (some (.int 1)) (em_SH, I', J, em_RT lw)) : em_call (d + 1) 18 [.ref 47, .ref 42] (em_SH, I, J, em_RT lw) Q := by
  have e1 : I 47 3 + 40 - 1 = nI (j + 39) := by
    rw [hN, show nI j + 40 = nI (j + 39 + 1) from (em_nadd j 40).symm, nI_pred]
  iterate 3 refine em_next rfl ?_
  refine em_z_neE hZ (fun _ => ?_) (fun q => absurd ((nI_eq (b := 0) (by omega) (by decide)).mp q) h0)
  iterate 9 refine em_next rfl ?_
  refine em_tp (y := nI 2) ((em_remE e1 (by omega)).trans (by rw [hK])) ?_
  iterate 1 refine em_next rfl ?_
  show em_wp em_sc0 (d + 1) 18 _ _ _ (em_SH, em_u I 47 3 (nI 2), J, em_RT lw) Q
  iterate 5 refine em_next rfl ?_
  refine em_aaE (k := 2) (b := 61) rfl rfl (em_u_self (I := I) (a := 47) (j := 3) (x := nI 2)) (by decide) (by decide) rfl ?_
  refine em_inv_call rfl (ce_cpOut_past2 (fun I1 a1 a2 => ?_))
  have e2 : I1 47 4 - 1 = nI (u - 1) := by rw [a1 _ (by decide), em_u_ne (by decide), hZ, em_pred1 (by omega)]
  iterate 4 refine em_next rfl ?_
  refine em_next rfl ?_
  refine em_tp e2 ?_
  iterate 2 refine em_next rfl ?_
  refine em_done rfl ?_
  show Q (some (.int 1)) (em_SH, em_u I1 47 4 (nI (u - 1)), J, em_RT lw)
  refine h _ (fun a h1 h2 => ?_) (fun n W hn hc => (a2 n W hn (hc.keep (fun a z1 z2 => em_u_row (by omega)))).keep (fun a z1 z2 => em_u_row (by omega))) ?_ em_u_self
  · rw [em_u_row h1, a1 a h2, em_u_row h1]
  · rw [em_u_ne (by decide), a1 _ (by decide), em_u_self]
theorem ce_add_past3 (hK : I 47 3 = nI 3) (hu : u ≤ 40) (hZ : I 47 4 = nI u) (h : ∀ I' : Nat → Nat → Int32, (∀ a, a ≠ 47 → ¬ (66 ≤ a ∧ a ≤ 70) → I' a = I a) → (∀ (n : Nat) (W : em_Wt), n ≤ 9 → cr I 42 n W → cr I' 66 n W) → I' 47 3 = nI ((3 + 1) % 40) → I' 47 4 = nI (eh_u u) → Q none (em_SH, I', J, em_RT lw)) : em_call (d + 1) 17 [.ref 47, .ref 42] (em_SH, I, J, em_RT lw) Q := by
  iterate 4 refine em_next rfl ?_
  refine em_aaE (k := 3) (b := 66) rfl rfl hK (by decide) (by decide) rfl ?_
  iterate 1 refine em_next rfl ?_
  refine em_inv_call rfl (ce_cpIn_past3 (fun I1 a1 a2 => ?_))
  have e1 : I1 47 3 + 1 = nI (3 + 1) := by rw [a1 _ (by decide), hK]; exact (nI_succ 3).symm
  have e2 : I1 47 4 = nI u := by rw [a1 _ (by decide)]; exact hZ
  iterate 7 refine em_next rfl ?_
  refine em_tp (em_remE e1 (by decide)) ?_
  iterate 8 refine em_next rfl ?_
  refine em_tp (em_min40 e2 hu) ?_
  iterate 1 refine em_next rfl ?_
  refine em_done rfl ?_
  show Q none (em_SH, em_u (em_u I1 47 3 (nI ((3 + 1) % 40))) 47 4 (nI (eh_u u)), J, em_RT lw)
  refine h _ (fun a h1 h2 => ?_) (fun n W hn hc => (a2 n W hn hc).keep (fun a z1 z2 => ?_)) ?_ ?_
  · rw [em_u_row h1, em_u_row h1]; exact a1 a h2
  · rw [em_u_row (by omega), em_u_row (by omega)]
  · rw [em_u_ne (by decide), em_u_self]
  · exact em_u_self
theorem ce_last_past3 {j : Nat} (hj : j < 40) (hK : (j + 39) % 40 = 3) (hN : I 47 3 = nI j) (hu : u ≤ 40) (hZ : I 47 4 = nI u) (h0 : ¬ u = 0) (h : ∀ I' : Nat → Nat → Int32, (∀ a, a ≠ 47 → ¬ (42 ≤ a ∧ a ≤ 46) → I' a = I a) → (∀ (n : Nat) (W : em_Wt), n ≤ 9 → cr I 66 n W → cr I' 42 n W) → I' 47 3 = nI 3 → I' 47 4 = nI (u - 1) → Q (some (.int 1)) (em_SH, I', J, em_RT lw)) : em_call (d + 1) 18 [.ref 47, .ref 42] (em_SH, I, J, em_RT lw) Q := by
  have e1 : I 47 3 + 40 - 1 = nI (j + 39) := by
    rw [hN, show nI j + 40 = nI (j + 39 + 1) from (em_nadd j 40).symm, nI_pred]
  iterate 3 refine em_next rfl ?_
  refine em_z_neE hZ (fun _ => ?_) (fun q => absurd ((nI_eq (b := 0) (by omega) (by decide)).mp q) h0)
  iterate 9 refine em_next rfl ?_
  refine em_tp (y := nI 3) ((em_remE e1 (by omega)).trans (by rw [hK])) ?_
  iterate 1 refine em_next rfl ?_
  show em_wp em_sc0 (d + 1) 18 _ _ _ (em_SH, em_u I 47 3 (nI 3), J, em_RT lw) Q
  iterate 5 refine em_next rfl ?_
  refine em_aaE (k := 3) (b := 66) rfl rfl (em_u_self (I := I) (a := 47) (j := 3) (x := nI 3)) (by decide) (by decide) rfl ?_
  refine em_inv_call rfl (ce_cpOut_past3 (fun I1 a1 a2 => ?_))
  have e2 : I1 47 4 - 1 = nI (u - 1) := by rw [a1 _ (by decide), em_u_ne (by decide), hZ, em_pred1 (by omega)]
  iterate 4 refine em_next rfl ?_
  refine em_next rfl ?_
  refine em_tp e2 ?_
  iterate 2 refine em_next rfl ?_
  refine em_done rfl ?_
  show Q (some (.int 1)) (em_SH, em_u I1 47 4 (nI (u - 1)), J, em_RT lw)
  refine h _ (fun a h1 h2 => ?_) (fun n W hn hc => (a2 n W hn (hc.keep (fun a z1 z2 => em_u_row (by omega)))).keep (fun a z1 z2 => em_u_row (by omega))) ?_ em_u_self
  · rw [em_u_row h1, a1 a h2, em_u_row h1]
  · rw [em_u_ne (by decide), a1 _ (by decide), em_u_self]
theorem ce_add_past4 (hK : I 47 3 = nI 4) (hu : u ≤ 40) (hZ : I 47 4 = nI u) (h : ∀ I' : Nat → Nat → Int32, (∀ a, a ≠ 47 → ¬ (71 ≤ a ∧ a ≤ 75) → I' a = I a) → (∀ (n : Nat) (W : em_Wt), n ≤ 9 → cr I 42 n W → cr I' 71 n W) → I' 47 3 = nI ((4 + 1) % 40) → I' 47 4 = nI (eh_u u) → Q none (em_SH, I', J, em_RT lw)) : em_call (d + 1) 17 [.ref 47, .ref 42] (em_SH, I, J, em_RT lw) Q := by
  iterate 4 refine em_next rfl ?_
  refine em_aaE (k := 4) (b := 71) rfl rfl hK (by decide) (by decide) rfl ?_
  iterate 1 refine em_next rfl ?_
  refine em_inv_call rfl (ce_cpIn_past4 (fun I1 a1 a2 => ?_))
  have e1 : I1 47 3 + 1 = nI (4 + 1) := by rw [a1 _ (by decide), hK]; exact (nI_succ 4).symm
  have e2 : I1 47 4 = nI u := by rw [a1 _ (by decide)]; exact hZ
  iterate 7 refine em_next rfl ?_
  refine em_tp (em_remE e1 (by decide)) ?_
  iterate 8 refine em_next rfl ?_
  refine em_tp (em_min40 e2 hu) ?_
  iterate 1 refine em_next rfl ?_
  refine em_done rfl ?_
  show Q none (em_SH, em_u (em_u I1 47 3 (nI ((4 + 1) % 40))) 47 4 (nI (eh_u u)), J, em_RT lw)
  refine h _ (fun a h1 h2 => ?_) (fun n W hn hc => (a2 n W hn hc).keep (fun a z1 z2 => ?_)) ?_ ?_
  · rw [em_u_row h1, em_u_row h1]; exact a1 a h2
  · rw [em_u_row (by omega), em_u_row (by omega)]
  · rw [em_u_ne (by decide), em_u_self]
  · exact em_u_self
theorem ce_last_past4 {j : Nat} (hj : j < 40) (hK : (j + 39) % 40 = 4) (hN : I 47 3 = nI j) (hu : u ≤ 40) (hZ : I 47 4 = nI u) (h0 : ¬ u = 0) (h : ∀ I' : Nat → Nat → Int32, (∀ a, a ≠ 47 → ¬ (42 ≤ a ∧ a ≤ 46) → I' a = I a) → (∀ (n : Nat) (W : em_Wt), n ≤ 9 → cr I 71 n W → cr I' 42 n W) → I' 47 3 = nI 4 → I' 47 4 = nI (u - 1) → Q (some (.int 1)) (em_SH, I', J, em_RT lw)) : em_call (d + 1) 18 [.ref 47, .ref 42] (em_SH, I, J, em_RT lw) Q := by
  have e1 : I 47 3 + 40 - 1 = nI (j + 39) := by
    rw [hN, show nI j + 40 = nI (j + 39 + 1) from (em_nadd j 40).symm, nI_pred]
  iterate 3 refine em_next rfl ?_
  refine em_z_neE hZ (fun _ => ?_) (fun q => absurd ((nI_eq (b := 0) (by omega) (by decide)).mp q) h0)
  iterate 9 refine em_next rfl ?_
  refine em_tp (y := nI 4) ((em_remE e1 (by omega)).trans (by rw [hK])) ?_
  iterate 1 refine em_next rfl ?_
  show em_wp em_sc0 (d + 1) 18 _ _ _ (em_SH, em_u I 47 3 (nI 4), J, em_RT lw) Q
  iterate 5 refine em_next rfl ?_
  refine em_aaE (k := 4) (b := 71) rfl rfl (em_u_self (I := I) (a := 47) (j := 3) (x := nI 4)) (by decide) (by decide) rfl ?_
  refine em_inv_call rfl (ce_cpOut_past4 (fun I1 a1 a2 => ?_))
  have e2 : I1 47 4 - 1 = nI (u - 1) := by rw [a1 _ (by decide), em_u_ne (by decide), hZ, em_pred1 (by omega)]
  iterate 4 refine em_next rfl ?_
  refine em_next rfl ?_
  refine em_tp e2 ?_
  iterate 2 refine em_next rfl ?_
  refine em_done rfl ?_
  show Q (some (.int 1)) (em_SH, em_u I1 47 4 (nI (u - 1)), J, em_RT lw)
  refine h _ (fun a h1 h2 => ?_) (fun n W hn hc => (a2 n W hn (hc.keep (fun a z1 z2 => em_u_row (by omega)))).keep (fun a z1 z2 => em_u_row (by omega))) ?_ em_u_self
  · rw [em_u_row h1, a1 a h2, em_u_row h1]
  · rw [em_u_ne (by decide), a1 _ (by decide), em_u_self]
theorem ce_add_past5 (hK : I 47 3 = nI 5) (hu : u ≤ 40) (hZ : I 47 4 = nI u) (h : ∀ I' : Nat → Nat → Int32, (∀ a, a ≠ 47 → ¬ (76 ≤ a ∧ a ≤ 80) → I' a = I a) → (∀ (n : Nat) (W : em_Wt), n ≤ 9 → cr I 42 n W → cr I' 76 n W) → I' 47 3 = nI ((5 + 1) % 40) → I' 47 4 = nI (eh_u u) → Q none (em_SH, I', J, em_RT lw)) : em_call (d + 1) 17 [.ref 47, .ref 42] (em_SH, I, J, em_RT lw) Q := by
  iterate 4 refine em_next rfl ?_
  refine em_aaE (k := 5) (b := 76) rfl rfl hK (by decide) (by decide) rfl ?_
  iterate 1 refine em_next rfl ?_
  refine em_inv_call rfl (ce_cpIn_past5 (fun I1 a1 a2 => ?_))
  have e1 : I1 47 3 + 1 = nI (5 + 1) := by rw [a1 _ (by decide), hK]; exact (nI_succ 5).symm
  have e2 : I1 47 4 = nI u := by rw [a1 _ (by decide)]; exact hZ
  iterate 7 refine em_next rfl ?_
  refine em_tp (em_remE e1 (by decide)) ?_
  iterate 8 refine em_next rfl ?_
  refine em_tp (em_min40 e2 hu) ?_
  iterate 1 refine em_next rfl ?_
  refine em_done rfl ?_
  show Q none (em_SH, em_u (em_u I1 47 3 (nI ((5 + 1) % 40))) 47 4 (nI (eh_u u)), J, em_RT lw)
  refine h _ (fun a h1 h2 => ?_) (fun n W hn hc => (a2 n W hn hc).keep (fun a z1 z2 => ?_)) ?_ ?_
  · rw [em_u_row h1, em_u_row h1]; exact a1 a h2
  · rw [em_u_row (by omega), em_u_row (by omega)]
  · rw [em_u_ne (by decide), em_u_self]
  · exact em_u_self
theorem ce_last_past5 {j : Nat} (hj : j < 40) (hK : (j + 39) % 40 = 5) (hN : I 47 3 = nI j) (hu : u ≤ 40) (hZ : I 47 4 = nI u) (h0 : ¬ u = 0) (h : ∀ I' : Nat → Nat → Int32, (∀ a, a ≠ 47 → ¬ (42 ≤ a ∧ a ≤ 46) → I' a = I a) → (∀ (n : Nat) (W : em_Wt), n ≤ 9 → cr I 76 n W → cr I' 42 n W) → I' 47 3 = nI 5 → I' 47 4 = nI (u - 1) → Q (some (.int 1)) (em_SH, I', J, em_RT lw)) : em_call (d + 1) 18 [.ref 47, .ref 42] (em_SH, I, J, em_RT lw) Q := by
  have e1 : I 47 3 + 40 - 1 = nI (j + 39) := by
    rw [hN, show nI j + 40 = nI (j + 39 + 1) from (em_nadd j 40).symm, nI_pred]
  iterate 3 refine em_next rfl ?_
  refine em_z_neE hZ (fun _ => ?_) (fun q => absurd ((nI_eq (b := 0) (by omega) (by decide)).mp q) h0)
  iterate 9 refine em_next rfl ?_
  refine em_tp (y := nI 5) ((em_remE e1 (by omega)).trans (by rw [hK])) ?_
  iterate 1 refine em_next rfl ?_
  show em_wp em_sc0 (d + 1) 18 _ _ _ (em_SH, em_u I 47 3 (nI 5), J, em_RT lw) Q
  iterate 5 refine em_next rfl ?_
  refine em_aaE (k := 5) (b := 76) rfl rfl (em_u_self (I := I) (a := 47) (j := 3) (x := nI 5)) (by decide) (by decide) rfl ?_
  refine em_inv_call rfl (ce_cpOut_past5 (fun I1 a1 a2 => ?_))
  have e2 : I1 47 4 - 1 = nI (u - 1) := by rw [a1 _ (by decide), em_u_ne (by decide), hZ, em_pred1 (by omega)]
  iterate 4 refine em_next rfl ?_
  refine em_next rfl ?_
  refine em_tp e2 ?_
  iterate 2 refine em_next rfl ?_
  refine em_done rfl ?_
  show Q (some (.int 1)) (em_SH, em_u I1 47 4 (nI (u - 1)), J, em_RT lw)
  refine h _ (fun a h1 h2 => ?_) (fun n W hn hc => (a2 n W hn (hc.keep (fun a z1 z2 => em_u_row (by omega)))).keep (fun a z1 z2 => em_u_row (by omega))) ?_ em_u_self
  · rw [em_u_row h1, a1 a h2, em_u_row h1]
  · rw [em_u_ne (by decide), a1 _ (by decide), em_u_self]
theorem ce_add_past6 (hK : I 47 3 = nI 6) (hu : u ≤ 40) (hZ : I 47 4 = nI u) (h : ∀ I' : Nat → Nat → Int32, (∀ a, a ≠ 47 → ¬ (81 ≤ a ∧ a ≤ 85) → I' a = I a) → (∀ (n : Nat) (W : em_Wt), n ≤ 9 → cr I 42 n W → cr I' 81 n W) → I' 47 3 = nI ((6 + 1) % 40) → I' 47 4 = nI (eh_u u) → Q none (em_SH, I', J, em_RT lw)) : em_call (d + 1) 17 [.ref 47, .ref 42] (em_SH, I, J, em_RT lw) Q := by
  iterate 4 refine em_next rfl ?_
  refine em_aaE (k := 6) (b := 81) rfl rfl hK (by decide) (by decide) rfl ?_
  iterate 1 refine em_next rfl ?_
  refine em_inv_call rfl (ce_cpIn_past6 (fun I1 a1 a2 => ?_))
  have e1 : I1 47 3 + 1 = nI (6 + 1) := by rw [a1 _ (by decide), hK]; exact (nI_succ 6).symm
  have e2 : I1 47 4 = nI u := by rw [a1 _ (by decide)]; exact hZ
  iterate 7 refine em_next rfl ?_
  refine em_tp (em_remE e1 (by decide)) ?_
  iterate 8 refine em_next rfl ?_
  refine em_tp (em_min40 e2 hu) ?_
  iterate 1 refine em_next rfl ?_
  refine em_done rfl ?_
  show Q none (em_SH, em_u (em_u I1 47 3 (nI ((6 + 1) % 40))) 47 4 (nI (eh_u u)), J, em_RT lw)
  refine h _ (fun a h1 h2 => ?_) (fun n W hn hc => (a2 n W hn hc).keep (fun a z1 z2 => ?_)) ?_ ?_
  · rw [em_u_row h1, em_u_row h1]; exact a1 a h2
  · rw [em_u_row (by omega), em_u_row (by omega)]
  · rw [em_u_ne (by decide), em_u_self]
  · exact em_u_self
theorem ce_last_past6 {j : Nat} (hj : j < 40) (hK : (j + 39) % 40 = 6) (hN : I 47 3 = nI j) (hu : u ≤ 40) (hZ : I 47 4 = nI u) (h0 : ¬ u = 0) (h : ∀ I' : Nat → Nat → Int32, (∀ a, a ≠ 47 → ¬ (42 ≤ a ∧ a ≤ 46) → I' a = I a) → (∀ (n : Nat) (W : em_Wt), n ≤ 9 → cr I 81 n W → cr I' 42 n W) → I' 47 3 = nI 6 → I' 47 4 = nI (u - 1) → Q (some (.int 1)) (em_SH, I', J, em_RT lw)) : em_call (d + 1) 18 [.ref 47, .ref 42] (em_SH, I, J, em_RT lw) Q := by
  have e1 : I 47 3 + 40 - 1 = nI (j + 39) := by
    rw [hN, show nI j + 40 = nI (j + 39 + 1) from (em_nadd j 40).symm, nI_pred]
  iterate 3 refine em_next rfl ?_
  refine em_z_neE hZ (fun _ => ?_) (fun q => absurd ((nI_eq (b := 0) (by omega) (by decide)).mp q) h0)
  iterate 9 refine em_next rfl ?_
  refine em_tp (y := nI 6) ((em_remE e1 (by omega)).trans (by rw [hK])) ?_
  iterate 1 refine em_next rfl ?_
  show em_wp em_sc0 (d + 1) 18 _ _ _ (em_SH, em_u I 47 3 (nI 6), J, em_RT lw) Q
  iterate 5 refine em_next rfl ?_
  refine em_aaE (k := 6) (b := 81) rfl rfl (em_u_self (I := I) (a := 47) (j := 3) (x := nI 6)) (by decide) (by decide) rfl ?_
  refine em_inv_call rfl (ce_cpOut_past6 (fun I1 a1 a2 => ?_))
  have e2 : I1 47 4 - 1 = nI (u - 1) := by rw [a1 _ (by decide), em_u_ne (by decide), hZ, em_pred1 (by omega)]
  iterate 4 refine em_next rfl ?_
  refine em_next rfl ?_
  refine em_tp e2 ?_
  iterate 2 refine em_next rfl ?_
  refine em_done rfl ?_
  show Q (some (.int 1)) (em_SH, em_u I1 47 4 (nI (u - 1)), J, em_RT lw)
  refine h _ (fun a h1 h2 => ?_) (fun n W hn hc => (a2 n W hn (hc.keep (fun a z1 z2 => em_u_row (by omega)))).keep (fun a z1 z2 => em_u_row (by omega))) ?_ em_u_self
  · rw [em_u_row h1, a1 a h2, em_u_row h1]
  · rw [em_u_ne (by decide), a1 _ (by decide), em_u_self]
theorem ce_add_past7 (hK : I 47 3 = nI 7) (hu : u ≤ 40) (hZ : I 47 4 = nI u) (h : ∀ I' : Nat → Nat → Int32, (∀ a, a ≠ 47 → ¬ (86 ≤ a ∧ a ≤ 90) → I' a = I a) → (∀ (n : Nat) (W : em_Wt), n ≤ 9 → cr I 42 n W → cr I' 86 n W) → I' 47 3 = nI ((7 + 1) % 40) → I' 47 4 = nI (eh_u u) → Q none (em_SH, I', J, em_RT lw)) : em_call (d + 1) 17 [.ref 47, .ref 42] (em_SH, I, J, em_RT lw) Q := by
  iterate 4 refine em_next rfl ?_
  refine em_aaE (k := 7) (b := 86) rfl rfl hK (by decide) (by decide) rfl ?_
  iterate 1 refine em_next rfl ?_
  refine em_inv_call rfl (ce_cpIn_past7 (fun I1 a1 a2 => ?_))
  have e1 : I1 47 3 + 1 = nI (7 + 1) := by rw [a1 _ (by decide), hK]; exact (nI_succ 7).symm
  have e2 : I1 47 4 = nI u := by rw [a1 _ (by decide)]; exact hZ
  iterate 7 refine em_next rfl ?_
  refine em_tp (em_remE e1 (by decide)) ?_
  iterate 8 refine em_next rfl ?_
  refine em_tp (em_min40 e2 hu) ?_
  iterate 1 refine em_next rfl ?_
  refine em_done rfl ?_
  show Q none (em_SH, em_u (em_u I1 47 3 (nI ((7 + 1) % 40))) 47 4 (nI (eh_u u)), J, em_RT lw)
  refine h _ (fun a h1 h2 => ?_) (fun n W hn hc => (a2 n W hn hc).keep (fun a z1 z2 => ?_)) ?_ ?_
  · rw [em_u_row h1, em_u_row h1]; exact a1 a h2
  · rw [em_u_row (by omega), em_u_row (by omega)]
  · rw [em_u_ne (by decide), em_u_self]
  · exact em_u_self
theorem ce_last_past7 {j : Nat} (hj : j < 40) (hK : (j + 39) % 40 = 7) (hN : I 47 3 = nI j) (hu : u ≤ 40) (hZ : I 47 4 = nI u) (h0 : ¬ u = 0) (h : ∀ I' : Nat → Nat → Int32, (∀ a, a ≠ 47 → ¬ (42 ≤ a ∧ a ≤ 46) → I' a = I a) → (∀ (n : Nat) (W : em_Wt), n ≤ 9 → cr I 86 n W → cr I' 42 n W) → I' 47 3 = nI 7 → I' 47 4 = nI (u - 1) → Q (some (.int 1)) (em_SH, I', J, em_RT lw)) : em_call (d + 1) 18 [.ref 47, .ref 42] (em_SH, I, J, em_RT lw) Q := by
  have e1 : I 47 3 + 40 - 1 = nI (j + 39) := by
    rw [hN, show nI j + 40 = nI (j + 39 + 1) from (em_nadd j 40).symm, nI_pred]
  iterate 3 refine em_next rfl ?_
  refine em_z_neE hZ (fun _ => ?_) (fun q => absurd ((nI_eq (b := 0) (by omega) (by decide)).mp q) h0)
  iterate 9 refine em_next rfl ?_
  refine em_tp (y := nI 7) ((em_remE e1 (by omega)).trans (by rw [hK])) ?_
  iterate 1 refine em_next rfl ?_
  show em_wp em_sc0 (d + 1) 18 _ _ _ (em_SH, em_u I 47 3 (nI 7), J, em_RT lw) Q
  iterate 5 refine em_next rfl ?_
  refine em_aaE (k := 7) (b := 86) rfl rfl (em_u_self (I := I) (a := 47) (j := 3) (x := nI 7)) (by decide) (by decide) rfl ?_
  refine em_inv_call rfl (ce_cpOut_past7 (fun I1 a1 a2 => ?_))
  have e2 : I1 47 4 - 1 = nI (u - 1) := by rw [a1 _ (by decide), em_u_ne (by decide), hZ, em_pred1 (by omega)]
  iterate 4 refine em_next rfl ?_
  refine em_next rfl ?_
  refine em_tp e2 ?_
  iterate 2 refine em_next rfl ?_
  refine em_done rfl ?_
  show Q (some (.int 1)) (em_SH, em_u I1 47 4 (nI (u - 1)), J, em_RT lw)
  refine h _ (fun a h1 h2 => ?_) (fun n W hn hc => (a2 n W hn (hc.keep (fun a z1 z2 => em_u_row (by omega)))).keep (fun a z1 z2 => em_u_row (by omega))) ?_ em_u_self
  · rw [em_u_row h1, a1 a h2, em_u_row h1]
  · rw [em_u_ne (by decide), a1 _ (by decide), em_u_self]
theorem ce_add_past8 (hK : I 47 3 = nI 8) (hu : u ≤ 40) (hZ : I 47 4 = nI u) (h : ∀ I' : Nat → Nat → Int32, (∀ a, a ≠ 47 → ¬ (91 ≤ a ∧ a ≤ 95) → I' a = I a) → (∀ (n : Nat) (W : em_Wt), n ≤ 9 → cr I 42 n W → cr I' 91 n W) → I' 47 3 = nI ((8 + 1) % 40) → I' 47 4 = nI (eh_u u) → Q none (em_SH, I', J, em_RT lw)) : em_call (d + 1) 17 [.ref 47, .ref 42] (em_SH, I, J, em_RT lw) Q := by
  iterate 4 refine em_next rfl ?_
  refine em_aaE (k := 8) (b := 91) rfl rfl hK (by decide) (by decide) rfl ?_
  iterate 1 refine em_next rfl ?_
  refine em_inv_call rfl (ce_cpIn_past8 (fun I1 a1 a2 => ?_))
  have e1 : I1 47 3 + 1 = nI (8 + 1) := by rw [a1 _ (by decide), hK]; exact (nI_succ 8).symm
  have e2 : I1 47 4 = nI u := by rw [a1 _ (by decide)]; exact hZ
  iterate 7 refine em_next rfl ?_
  refine em_tp (em_remE e1 (by decide)) ?_
  iterate 8 refine em_next rfl ?_
  refine em_tp (em_min40 e2 hu) ?_
  iterate 1 refine em_next rfl ?_
  refine em_done rfl ?_
  show Q none (em_SH, em_u (em_u I1 47 3 (nI ((8 + 1) % 40))) 47 4 (nI (eh_u u)), J, em_RT lw)
  refine h _ (fun a h1 h2 => ?_) (fun n W hn hc => (a2 n W hn hc).keep (fun a z1 z2 => ?_)) ?_ ?_
  · rw [em_u_row h1, em_u_row h1]; exact a1 a h2
  · rw [em_u_row (by omega), em_u_row (by omega)]
  · rw [em_u_ne (by decide), em_u_self]
  · exact em_u_self
theorem ce_last_past8 {j : Nat} (hj : j < 40) (hK : (j + 39) % 40 = 8) (hN : I 47 3 = nI j) (hu : u ≤ 40) (hZ : I 47 4 = nI u) (h0 : ¬ u = 0) (h : ∀ I' : Nat → Nat → Int32, (∀ a, a ≠ 47 → ¬ (42 ≤ a ∧ a ≤ 46) → I' a = I a) → (∀ (n : Nat) (W : em_Wt), n ≤ 9 → cr I 91 n W → cr I' 42 n W) → I' 47 3 = nI 8 → I' 47 4 = nI (u - 1) → Q (some (.int 1)) (em_SH, I', J, em_RT lw)) : em_call (d + 1) 18 [.ref 47, .ref 42] (em_SH, I, J, em_RT lw) Q := by
  have e1 : I 47 3 + 40 - 1 = nI (j + 39) := by
    rw [hN, show nI j + 40 = nI (j + 39 + 1) from (em_nadd j 40).symm, nI_pred]
  iterate 3 refine em_next rfl ?_
  refine em_z_neE hZ (fun _ => ?_) (fun q => absurd ((nI_eq (b := 0) (by omega) (by decide)).mp q) h0)
  iterate 9 refine em_next rfl ?_
  refine em_tp (y := nI 8) ((em_remE e1 (by omega)).trans (by rw [hK])) ?_
  iterate 1 refine em_next rfl ?_
  show em_wp em_sc0 (d + 1) 18 _ _ _ (em_SH, em_u I 47 3 (nI 8), J, em_RT lw) Q
  iterate 5 refine em_next rfl ?_
  refine em_aaE (k := 8) (b := 91) rfl rfl (em_u_self (I := I) (a := 47) (j := 3) (x := nI 8)) (by decide) (by decide) rfl ?_
  refine em_inv_call rfl (ce_cpOut_past8 (fun I1 a1 a2 => ?_))
  have e2 : I1 47 4 - 1 = nI (u - 1) := by rw [a1 _ (by decide), em_u_ne (by decide), hZ, em_pred1 (by omega)]
  iterate 4 refine em_next rfl ?_
  refine em_next rfl ?_
  refine em_tp e2 ?_
  iterate 2 refine em_next rfl ?_
  refine em_done rfl ?_
  show Q (some (.int 1)) (em_SH, em_u I1 47 4 (nI (u - 1)), J, em_RT lw)
  refine h _ (fun a h1 h2 => ?_) (fun n W hn hc => (a2 n W hn (hc.keep (fun a z1 z2 => em_u_row (by omega)))).keep (fun a z1 z2 => em_u_row (by omega))) ?_ em_u_self
  · rw [em_u_row h1, a1 a h2, em_u_row h1]
  · rw [em_u_ne (by decide), a1 _ (by decide), em_u_self]
theorem ce_add_past9 (hK : I 47 3 = nI 9) (hu : u ≤ 40) (hZ : I 47 4 = nI u) (h : ∀ I' : Nat → Nat → Int32, (∀ a, a ≠ 47 → ¬ (96 ≤ a ∧ a ≤ 100) → I' a = I a) → (∀ (n : Nat) (W : em_Wt), n ≤ 9 → cr I 42 n W → cr I' 96 n W) → I' 47 3 = nI ((9 + 1) % 40) → I' 47 4 = nI (eh_u u) → Q none (em_SH, I', J, em_RT lw)) : em_call (d + 1) 17 [.ref 47, .ref 42] (em_SH, I, J, em_RT lw) Q := by
  iterate 4 refine em_next rfl ?_
  refine em_aaE (k := 9) (b := 96) rfl rfl hK (by decide) (by decide) rfl ?_
  iterate 1 refine em_next rfl ?_
  refine em_inv_call rfl (ce_cpIn_past9 (fun I1 a1 a2 => ?_))
  have e1 : I1 47 3 + 1 = nI (9 + 1) := by rw [a1 _ (by decide), hK]; exact (nI_succ 9).symm
  have e2 : I1 47 4 = nI u := by rw [a1 _ (by decide)]; exact hZ
  iterate 7 refine em_next rfl ?_
  refine em_tp (em_remE e1 (by decide)) ?_
  iterate 8 refine em_next rfl ?_
  refine em_tp (em_min40 e2 hu) ?_
  iterate 1 refine em_next rfl ?_
  refine em_done rfl ?_
  show Q none (em_SH, em_u (em_u I1 47 3 (nI ((9 + 1) % 40))) 47 4 (nI (eh_u u)), J, em_RT lw)
  refine h _ (fun a h1 h2 => ?_) (fun n W hn hc => (a2 n W hn hc).keep (fun a z1 z2 => ?_)) ?_ ?_
  · rw [em_u_row h1, em_u_row h1]; exact a1 a h2
  · rw [em_u_row (by omega), em_u_row (by omega)]
  · rw [em_u_ne (by decide), em_u_self]
  · exact em_u_self
theorem ce_last_past9 {j : Nat} (hj : j < 40) (hK : (j + 39) % 40 = 9) (hN : I 47 3 = nI j) (hu : u ≤ 40) (hZ : I 47 4 = nI u) (h0 : ¬ u = 0) (h : ∀ I' : Nat → Nat → Int32, (∀ a, a ≠ 47 → ¬ (42 ≤ a ∧ a ≤ 46) → I' a = I a) → (∀ (n : Nat) (W : em_Wt), n ≤ 9 → cr I 96 n W → cr I' 42 n W) → I' 47 3 = nI 9 → I' 47 4 = nI (u - 1) → Q (some (.int 1)) (em_SH, I', J, em_RT lw)) : em_call (d + 1) 18 [.ref 47, .ref 42] (em_SH, I, J, em_RT lw) Q := by
  have e1 : I 47 3 + 40 - 1 = nI (j + 39) := by
    rw [hN, show nI j + 40 = nI (j + 39 + 1) from (em_nadd j 40).symm, nI_pred]
  iterate 3 refine em_next rfl ?_
  refine em_z_neE hZ (fun _ => ?_) (fun q => absurd ((nI_eq (b := 0) (by omega) (by decide)).mp q) h0)
  iterate 9 refine em_next rfl ?_
  refine em_tp (y := nI 9) ((em_remE e1 (by omega)).trans (by rw [hK])) ?_
  iterate 1 refine em_next rfl ?_
  show em_wp em_sc0 (d + 1) 18 _ _ _ (em_SH, em_u I 47 3 (nI 9), J, em_RT lw) Q
  iterate 5 refine em_next rfl ?_
  refine em_aaE (k := 9) (b := 96) rfl rfl (em_u_self (I := I) (a := 47) (j := 3) (x := nI 9)) (by decide) (by decide) rfl ?_
  refine em_inv_call rfl (ce_cpOut_past9 (fun I1 a1 a2 => ?_))
  have e2 : I1 47 4 - 1 = nI (u - 1) := by rw [a1 _ (by decide), em_u_ne (by decide), hZ, em_pred1 (by omega)]
  iterate 4 refine em_next rfl ?_
  refine em_next rfl ?_
  refine em_tp e2 ?_
  iterate 2 refine em_next rfl ?_
  refine em_done rfl ?_
  show Q (some (.int 1)) (em_SH, em_u I1 47 4 (nI (u - 1)), J, em_RT lw)
  refine h _ (fun a h1 h2 => ?_) (fun n W hn hc => (a2 n W hn (hc.keep (fun a z1 z2 => em_u_row (by omega)))).keep (fun a z1 z2 => em_u_row (by omega))) ?_ em_u_self
  · rw [em_u_row h1, a1 a h2, em_u_row h1]
  · rw [em_u_ne (by decide), a1 _ (by decide), em_u_self]
theorem ce_add_past10 (hK : I 47 3 = nI 10) (hu : u ≤ 40) (hZ : I 47 4 = nI u) (h : ∀ I' : Nat → Nat → Int32, (∀ a, a ≠ 47 → ¬ (101 ≤ a ∧ a ≤ 105) → I' a = I a) → (∀ (n : Nat) (W : em_Wt), n ≤ 9 → cr I 42 n W → cr I' 101 n W) → I' 47 3 = nI ((10 + 1) % 40) → I' 47 4 = nI (eh_u u) → Q none (em_SH, I', J, em_RT lw)) : em_call (d + 1) 17 [.ref 47, .ref 42] (em_SH, I, J, em_RT lw) Q := by
  iterate 4 refine em_next rfl ?_
  refine em_aaE (k := 10) (b := 101) rfl rfl hK (by decide) (by decide) rfl ?_
  iterate 1 refine em_next rfl ?_
  refine em_inv_call rfl (ce_cpIn_past10 (fun I1 a1 a2 => ?_))
  have e1 : I1 47 3 + 1 = nI (10 + 1) := by rw [a1 _ (by decide), hK]; exact (nI_succ 10).symm
  have e2 : I1 47 4 = nI u := by rw [a1 _ (by decide)]; exact hZ
  iterate 7 refine em_next rfl ?_
  refine em_tp (em_remE e1 (by decide)) ?_
  iterate 8 refine em_next rfl ?_
  refine em_tp (em_min40 e2 hu) ?_
  iterate 1 refine em_next rfl ?_
  refine em_done rfl ?_
  show Q none (em_SH, em_u (em_u I1 47 3 (nI ((10 + 1) % 40))) 47 4 (nI (eh_u u)), J, em_RT lw)
  refine h _ (fun a h1 h2 => ?_) (fun n W hn hc => (a2 n W hn hc).keep (fun a z1 z2 => ?_)) ?_ ?_
  · rw [em_u_row h1, em_u_row h1]; exact a1 a h2
  · rw [em_u_row (by omega), em_u_row (by omega)]
  · rw [em_u_ne (by decide), em_u_self]
  · exact em_u_self
theorem ce_last_past10 {j : Nat} (hj : j < 40) (hK : (j + 39) % 40 = 10) (hN : I 47 3 = nI j) (hu : u ≤ 40) (hZ : I 47 4 = nI u) (h0 : ¬ u = 0) (h : ∀ I' : Nat → Nat → Int32, (∀ a, a ≠ 47 → ¬ (42 ≤ a ∧ a ≤ 46) → I' a = I a) → (∀ (n : Nat) (W : em_Wt), n ≤ 9 → cr I 101 n W → cr I' 42 n W) → I' 47 3 = nI 10 → I' 47 4 = nI (u - 1) → Q (some (.int 1)) (em_SH, I', J, em_RT lw)) : em_call (d + 1) 18 [.ref 47, .ref 42] (em_SH, I, J, em_RT lw) Q := by
  have e1 : I 47 3 + 40 - 1 = nI (j + 39) := by
    rw [hN, show nI j + 40 = nI (j + 39 + 1) from (em_nadd j 40).symm, nI_pred]
  iterate 3 refine em_next rfl ?_
  refine em_z_neE hZ (fun _ => ?_) (fun q => absurd ((nI_eq (b := 0) (by omega) (by decide)).mp q) h0)
  iterate 9 refine em_next rfl ?_
  refine em_tp (y := nI 10) ((em_remE e1 (by omega)).trans (by rw [hK])) ?_
  iterate 1 refine em_next rfl ?_
  show em_wp em_sc0 (d + 1) 18 _ _ _ (em_SH, em_u I 47 3 (nI 10), J, em_RT lw) Q
  iterate 5 refine em_next rfl ?_
  refine em_aaE (k := 10) (b := 101) rfl rfl (em_u_self (I := I) (a := 47) (j := 3) (x := nI 10)) (by decide) (by decide) rfl ?_
  refine em_inv_call rfl (ce_cpOut_past10 (fun I1 a1 a2 => ?_))
  have e2 : I1 47 4 - 1 = nI (u - 1) := by rw [a1 _ (by decide), em_u_ne (by decide), hZ, em_pred1 (by omega)]
  iterate 4 refine em_next rfl ?_
  refine em_next rfl ?_
  refine em_tp e2 ?_
  iterate 2 refine em_next rfl ?_
  refine em_done rfl ?_
  show Q (some (.int 1)) (em_SH, em_u I1 47 4 (nI (u - 1)), J, em_RT lw)
  refine h _ (fun a h1 h2 => ?_) (fun n W hn hc => (a2 n W hn (hc.keep (fun a z1 z2 => em_u_row (by omega)))).keep (fun a z1 z2 => em_u_row (by omega))) ?_ em_u_self
  · rw [em_u_row h1, a1 a h2, em_u_row h1]
  · rw [em_u_ne (by decide), a1 _ (by decide), em_u_self]
theorem ce_add_past11 (hK : I 47 3 = nI 11) (hu : u ≤ 40) (hZ : I 47 4 = nI u) (h : ∀ I' : Nat → Nat → Int32, (∀ a, a ≠ 47 → ¬ (106 ≤ a ∧ a ≤ 110) → I' a = I a) → (∀ (n : Nat) (W : em_Wt), n ≤ 9 → cr I 42 n W → cr I' 106 n W) → I' 47 3 = nI ((11 + 1) % 40) → I' 47 4 = nI (eh_u u) → Q none (em_SH, I', J, em_RT lw)) : em_call (d + 1) 17 [.ref 47, .ref 42] (em_SH, I, J, em_RT lw) Q := by
  iterate 4 refine em_next rfl ?_
  refine em_aaE (k := 11) (b := 106) rfl rfl hK (by decide) (by decide) rfl ?_
  iterate 1 refine em_next rfl ?_
  refine em_inv_call rfl (ce_cpIn_past11 (fun I1 a1 a2 => ?_))
  have e1 : I1 47 3 + 1 = nI (11 + 1) := by rw [a1 _ (by decide), hK]; exact (nI_succ 11).symm
  have e2 : I1 47 4 = nI u := by rw [a1 _ (by decide)]; exact hZ
  iterate 7 refine em_next rfl ?_
  refine em_tp (em_remE e1 (by decide)) ?_
  iterate 8 refine em_next rfl ?_
  refine em_tp (em_min40 e2 hu) ?_
  iterate 1 refine em_next rfl ?_
  refine em_done rfl ?_
  show Q none (em_SH, em_u (em_u I1 47 3 (nI ((11 + 1) % 40))) 47 4 (nI (eh_u u)), J, em_RT lw)
  refine h _ (fun a h1 h2 => ?_) (fun n W hn hc => (a2 n W hn hc).keep (fun a z1 z2 => ?_)) ?_ ?_
  · rw [em_u_row h1, em_u_row h1]; exact a1 a h2
  · rw [em_u_row (by omega), em_u_row (by omega)]
  · rw [em_u_ne (by decide), em_u_self]
  · exact em_u_self
theorem ce_last_past11 {j : Nat} (hj : j < 40) (hK : (j + 39) % 40 = 11) (hN : I 47 3 = nI j) (hu : u ≤ 40) (hZ : I 47 4 = nI u) (h0 : ¬ u = 0) (h : ∀ I' : Nat → Nat → Int32, (∀ a, a ≠ 47 → ¬ (42 ≤ a ∧ a ≤ 46) → I' a = I a) → (∀ (n : Nat) (W : em_Wt), n ≤ 9 → cr I 106 n W → cr I' 42 n W) → I' 47 3 = nI 11 → I' 47 4 = nI (u - 1) → Q (some (.int 1)) (em_SH, I', J, em_RT lw)) : em_call (d + 1) 18 [.ref 47, .ref 42] (em_SH, I, J, em_RT lw) Q := by
  have e1 : I 47 3 + 40 - 1 = nI (j + 39) := by
    rw [hN, show nI j + 40 = nI (j + 39 + 1) from (em_nadd j 40).symm, nI_pred]
  iterate 3 refine em_next rfl ?_
  refine em_z_neE hZ (fun _ => ?_) (fun q => absurd ((nI_eq (b := 0) (by omega) (by decide)).mp q) h0)
  iterate 9 refine em_next rfl ?_
  refine em_tp (y := nI 11) ((em_remE e1 (by omega)).trans (by rw [hK])) ?_
  iterate 1 refine em_next rfl ?_
  show em_wp em_sc0 (d + 1) 18 _ _ _ (em_SH, em_u I 47 3 (nI 11), J, em_RT lw) Q
  iterate 5 refine em_next rfl ?_
  refine em_aaE (k := 11) (b := 106) rfl rfl (em_u_self (I := I) (a := 47) (j := 3) (x := nI 11)) (by decide) (by decide) rfl ?_
  refine em_inv_call rfl (ce_cpOut_past11 (fun I1 a1 a2 => ?_))
  have e2 : I1 47 4 - 1 = nI (u - 1) := by rw [a1 _ (by decide), em_u_ne (by decide), hZ, em_pred1 (by omega)]
  iterate 4 refine em_next rfl ?_
  refine em_next rfl ?_
  refine em_tp e2 ?_
  iterate 2 refine em_next rfl ?_
  refine em_done rfl ?_
  show Q (some (.int 1)) (em_SH, em_u I1 47 4 (nI (u - 1)), J, em_RT lw)
  refine h _ (fun a h1 h2 => ?_) (fun n W hn hc => (a2 n W hn (hc.keep (fun a z1 z2 => em_u_row (by omega)))).keep (fun a z1 z2 => em_u_row (by omega))) ?_ em_u_self
  · rw [em_u_row h1, a1 a h2, em_u_row h1]
  · rw [em_u_ne (by decide), a1 _ (by decide), em_u_self]
theorem ce_add_past12 (hK : I 47 3 = nI 12) (hu : u ≤ 40) (hZ : I 47 4 = nI u) (h : ∀ I' : Nat → Nat → Int32, (∀ a, a ≠ 47 → ¬ (111 ≤ a ∧ a ≤ 115) → I' a = I a) → (∀ (n : Nat) (W : em_Wt), n ≤ 9 → cr I 42 n W → cr I' 111 n W) → I' 47 3 = nI ((12 + 1) % 40) → I' 47 4 = nI (eh_u u) → Q none (em_SH, I', J, em_RT lw)) : em_call (d + 1) 17 [.ref 47, .ref 42] (em_SH, I, J, em_RT lw) Q := by
  iterate 4 refine em_next rfl ?_
  refine em_aaE (k := 12) (b := 111) rfl rfl hK (by decide) (by decide) rfl ?_
  iterate 1 refine em_next rfl ?_
  refine em_inv_call rfl (ce_cpIn_past12 (fun I1 a1 a2 => ?_))
  have e1 : I1 47 3 + 1 = nI (12 + 1) := by rw [a1 _ (by decide), hK]; exact (nI_succ 12).symm
  have e2 : I1 47 4 = nI u := by rw [a1 _ (by decide)]; exact hZ
  iterate 7 refine em_next rfl ?_
  refine em_tp (em_remE e1 (by decide)) ?_
  iterate 8 refine em_next rfl ?_
  refine em_tp (em_min40 e2 hu) ?_
  iterate 1 refine em_next rfl ?_
  refine em_done rfl ?_
  show Q none (em_SH, em_u (em_u I1 47 3 (nI ((12 + 1) % 40))) 47 4 (nI (eh_u u)), J, em_RT lw)
  refine h _ (fun a h1 h2 => ?_) (fun n W hn hc => (a2 n W hn hc).keep (fun a z1 z2 => ?_)) ?_ ?_
  · rw [em_u_row h1, em_u_row h1]; exact a1 a h2
  · rw [em_u_row (by omega), em_u_row (by omega)]
  · rw [em_u_ne (by decide), em_u_self]
  · exact em_u_self
theorem ce_last_past12 {j : Nat} (hj : j < 40) (hK : (j + 39) % 40 = 12) (hN : I 47 3 = nI j) (hu : u ≤ 40) (hZ : I 47 4 = nI u) (h0 : ¬ u = 0) (h : ∀ I' : Nat → Nat → Int32, (∀ a, a ≠ 47 → ¬ (42 ≤ a ∧ a ≤ 46) → I' a = I a) → (∀ (n : Nat) (W : em_Wt), n ≤ 9 → cr I 111 n W → cr I' 42 n W) → I' 47 3 = nI 12 → I' 47 4 = nI (u - 1) → Q (some (.int 1)) (em_SH, I', J, em_RT lw)) : em_call (d + 1) 18 [.ref 47, .ref 42] (em_SH, I, J, em_RT lw) Q := by
  have e1 : I 47 3 + 40 - 1 = nI (j + 39) := by
    rw [hN, show nI j + 40 = nI (j + 39 + 1) from (em_nadd j 40).symm, nI_pred]
  iterate 3 refine em_next rfl ?_
  refine em_z_neE hZ (fun _ => ?_) (fun q => absurd ((nI_eq (b := 0) (by omega) (by decide)).mp q) h0)
  iterate 9 refine em_next rfl ?_
  refine em_tp (y := nI 12) ((em_remE e1 (by omega)).trans (by rw [hK])) ?_
  iterate 1 refine em_next rfl ?_
  show em_wp em_sc0 (d + 1) 18 _ _ _ (em_SH, em_u I 47 3 (nI 12), J, em_RT lw) Q
  iterate 5 refine em_next rfl ?_
  refine em_aaE (k := 12) (b := 111) rfl rfl (em_u_self (I := I) (a := 47) (j := 3) (x := nI 12)) (by decide) (by decide) rfl ?_
  refine em_inv_call rfl (ce_cpOut_past12 (fun I1 a1 a2 => ?_))
  have e2 : I1 47 4 - 1 = nI (u - 1) := by rw [a1 _ (by decide), em_u_ne (by decide), hZ, em_pred1 (by omega)]
  iterate 4 refine em_next rfl ?_
  refine em_next rfl ?_
  refine em_tp e2 ?_
  iterate 2 refine em_next rfl ?_
  refine em_done rfl ?_
  show Q (some (.int 1)) (em_SH, em_u I1 47 4 (nI (u - 1)), J, em_RT lw)
  refine h _ (fun a h1 h2 => ?_) (fun n W hn hc => (a2 n W hn (hc.keep (fun a z1 z2 => em_u_row (by omega)))).keep (fun a z1 z2 => em_u_row (by omega))) ?_ em_u_self
  · rw [em_u_row h1, a1 a h2, em_u_row h1]
  · rw [em_u_ne (by decide), a1 _ (by decide), em_u_self]
theorem ce_add_past13 (hK : I 47 3 = nI 13) (hu : u ≤ 40) (hZ : I 47 4 = nI u) (h : ∀ I' : Nat → Nat → Int32, (∀ a, a ≠ 47 → ¬ (116 ≤ a ∧ a ≤ 120) → I' a = I a) → (∀ (n : Nat) (W : em_Wt), n ≤ 9 → cr I 42 n W → cr I' 116 n W) → I' 47 3 = nI ((13 + 1) % 40) → I' 47 4 = nI (eh_u u) → Q none (em_SH, I', J, em_RT lw)) : em_call (d + 1) 17 [.ref 47, .ref 42] (em_SH, I, J, em_RT lw) Q := by
  iterate 4 refine em_next rfl ?_
  refine em_aaE (k := 13) (b := 116) rfl rfl hK (by decide) (by decide) rfl ?_
  iterate 1 refine em_next rfl ?_
  refine em_inv_call rfl (ce_cpIn_past13 (fun I1 a1 a2 => ?_))
  have e1 : I1 47 3 + 1 = nI (13 + 1) := by rw [a1 _ (by decide), hK]; exact (nI_succ 13).symm
  have e2 : I1 47 4 = nI u := by rw [a1 _ (by decide)]; exact hZ
  iterate 7 refine em_next rfl ?_
  refine em_tp (em_remE e1 (by decide)) ?_
  iterate 8 refine em_next rfl ?_
  refine em_tp (em_min40 e2 hu) ?_
  iterate 1 refine em_next rfl ?_
  refine em_done rfl ?_
  show Q none (em_SH, em_u (em_u I1 47 3 (nI ((13 + 1) % 40))) 47 4 (nI (eh_u u)), J, em_RT lw)
  refine h _ (fun a h1 h2 => ?_) (fun n W hn hc => (a2 n W hn hc).keep (fun a z1 z2 => ?_)) ?_ ?_
  · rw [em_u_row h1, em_u_row h1]; exact a1 a h2
  · rw [em_u_row (by omega), em_u_row (by omega)]
  · rw [em_u_ne (by decide), em_u_self]
  · exact em_u_self
theorem ce_last_past13 {j : Nat} (hj : j < 40) (hK : (j + 39) % 40 = 13) (hN : I 47 3 = nI j) (hu : u ≤ 40) (hZ : I 47 4 = nI u) (h0 : ¬ u = 0) (h : ∀ I' : Nat → Nat → Int32, (∀ a, a ≠ 47 → ¬ (42 ≤ a ∧ a ≤ 46) → I' a = I a) → (∀ (n : Nat) (W : em_Wt), n ≤ 9 → cr I 116 n W → cr I' 42 n W) → I' 47 3 = nI 13 → I' 47 4 = nI (u - 1) → Q (some (.int 1)) (em_SH, I', J, em_RT lw)) : em_call (d + 1) 18 [.ref 47, .ref 42] (em_SH, I, J, em_RT lw) Q := by
  have e1 : I 47 3 + 40 - 1 = nI (j + 39) := by
    rw [hN, show nI j + 40 = nI (j + 39 + 1) from (em_nadd j 40).symm, nI_pred]
  iterate 3 refine em_next rfl ?_
  refine em_z_neE hZ (fun _ => ?_) (fun q => absurd ((nI_eq (b := 0) (by omega) (by decide)).mp q) h0)
  iterate 9 refine em_next rfl ?_
  refine em_tp (y := nI 13) ((em_remE e1 (by omega)).trans (by rw [hK])) ?_
  iterate 1 refine em_next rfl ?_
  show em_wp em_sc0 (d + 1) 18 _ _ _ (em_SH, em_u I 47 3 (nI 13), J, em_RT lw) Q
  iterate 5 refine em_next rfl ?_
  refine em_aaE (k := 13) (b := 116) rfl rfl (em_u_self (I := I) (a := 47) (j := 3) (x := nI 13)) (by decide) (by decide) rfl ?_
  refine em_inv_call rfl (ce_cpOut_past13 (fun I1 a1 a2 => ?_))
  have e2 : I1 47 4 - 1 = nI (u - 1) := by rw [a1 _ (by decide), em_u_ne (by decide), hZ, em_pred1 (by omega)]
  iterate 4 refine em_next rfl ?_
  refine em_next rfl ?_
  refine em_tp e2 ?_
  iterate 2 refine em_next rfl ?_
  refine em_done rfl ?_
  show Q (some (.int 1)) (em_SH, em_u I1 47 4 (nI (u - 1)), J, em_RT lw)
  refine h _ (fun a h1 h2 => ?_) (fun n W hn hc => (a2 n W hn (hc.keep (fun a z1 z2 => em_u_row (by omega)))).keep (fun a z1 z2 => em_u_row (by omega))) ?_ em_u_self
  · rw [em_u_row h1, a1 a h2, em_u_row h1]
  · rw [em_u_ne (by decide), a1 _ (by decide), em_u_self]
theorem ce_add_past14 (hK : I 47 3 = nI 14) (hu : u ≤ 40) (hZ : I 47 4 = nI u) (h : ∀ I' : Nat → Nat → Int32, (∀ a, a ≠ 47 → ¬ (121 ≤ a ∧ a ≤ 125) → I' a = I a) → (∀ (n : Nat) (W : em_Wt), n ≤ 9 → cr I 42 n W → cr I' 121 n W) → I' 47 3 = nI ((14 + 1) % 40) → I' 47 4 = nI (eh_u u) → Q none (em_SH, I', J, em_RT lw)) : em_call (d + 1) 17 [.ref 47, .ref 42] (em_SH, I, J, em_RT lw) Q := by
  iterate 4 refine em_next rfl ?_
  refine em_aaE (k := 14) (b := 121) rfl rfl hK (by decide) (by decide) rfl ?_
  iterate 1 refine em_next rfl ?_
  refine em_inv_call rfl (ce_cpIn_past14 (fun I1 a1 a2 => ?_))
  have e1 : I1 47 3 + 1 = nI (14 + 1) := by rw [a1 _ (by decide), hK]; exact (nI_succ 14).symm
  have e2 : I1 47 4 = nI u := by rw [a1 _ (by decide)]; exact hZ
  iterate 7 refine em_next rfl ?_
  refine em_tp (em_remE e1 (by decide)) ?_
  iterate 8 refine em_next rfl ?_
  refine em_tp (em_min40 e2 hu) ?_
  iterate 1 refine em_next rfl ?_
  refine em_done rfl ?_
  show Q none (em_SH, em_u (em_u I1 47 3 (nI ((14 + 1) % 40))) 47 4 (nI (eh_u u)), J, em_RT lw)
  refine h _ (fun a h1 h2 => ?_) (fun n W hn hc => (a2 n W hn hc).keep (fun a z1 z2 => ?_)) ?_ ?_
  · rw [em_u_row h1, em_u_row h1]; exact a1 a h2
  · rw [em_u_row (by omega), em_u_row (by omega)]
  · rw [em_u_ne (by decide), em_u_self]
  · exact em_u_self
theorem ce_last_past14 {j : Nat} (hj : j < 40) (hK : (j + 39) % 40 = 14) (hN : I 47 3 = nI j) (hu : u ≤ 40) (hZ : I 47 4 = nI u) (h0 : ¬ u = 0) (h : ∀ I' : Nat → Nat → Int32, (∀ a, a ≠ 47 → ¬ (42 ≤ a ∧ a ≤ 46) → I' a = I a) → (∀ (n : Nat) (W : em_Wt), n ≤ 9 → cr I 121 n W → cr I' 42 n W) → I' 47 3 = nI 14 → I' 47 4 = nI (u - 1) → Q (some (.int 1)) (em_SH, I', J, em_RT lw)) : em_call (d + 1) 18 [.ref 47, .ref 42] (em_SH, I, J, em_RT lw) Q := by
  have e1 : I 47 3 + 40 - 1 = nI (j + 39) := by
    rw [hN, show nI j + 40 = nI (j + 39 + 1) from (em_nadd j 40).symm, nI_pred]
  iterate 3 refine em_next rfl ?_
  refine em_z_neE hZ (fun _ => ?_) (fun q => absurd ((nI_eq (b := 0) (by omega) (by decide)).mp q) h0)
  iterate 9 refine em_next rfl ?_
  refine em_tp (y := nI 14) ((em_remE e1 (by omega)).trans (by rw [hK])) ?_
  iterate 1 refine em_next rfl ?_
  show em_wp em_sc0 (d + 1) 18 _ _ _ (em_SH, em_u I 47 3 (nI 14), J, em_RT lw) Q
  iterate 5 refine em_next rfl ?_
  refine em_aaE (k := 14) (b := 121) rfl rfl (em_u_self (I := I) (a := 47) (j := 3) (x := nI 14)) (by decide) (by decide) rfl ?_
  refine em_inv_call rfl (ce_cpOut_past14 (fun I1 a1 a2 => ?_))
  have e2 : I1 47 4 - 1 = nI (u - 1) := by rw [a1 _ (by decide), em_u_ne (by decide), hZ, em_pred1 (by omega)]
  iterate 4 refine em_next rfl ?_
  refine em_next rfl ?_
  refine em_tp e2 ?_
  iterate 2 refine em_next rfl ?_
  refine em_done rfl ?_
  show Q (some (.int 1)) (em_SH, em_u I1 47 4 (nI (u - 1)), J, em_RT lw)
  refine h _ (fun a h1 h2 => ?_) (fun n W hn hc => (a2 n W hn (hc.keep (fun a z1 z2 => em_u_row (by omega)))).keep (fun a z1 z2 => em_u_row (by omega))) ?_ em_u_self
  · rw [em_u_row h1, a1 a h2, em_u_row h1]
  · rw [em_u_ne (by decide), a1 _ (by decide), em_u_self]
theorem ce_add_past15 (hK : I 47 3 = nI 15) (hu : u ≤ 40) (hZ : I 47 4 = nI u) (h : ∀ I' : Nat → Nat → Int32, (∀ a, a ≠ 47 → ¬ (126 ≤ a ∧ a ≤ 130) → I' a = I a) → (∀ (n : Nat) (W : em_Wt), n ≤ 9 → cr I 42 n W → cr I' 126 n W) → I' 47 3 = nI ((15 + 1) % 40) → I' 47 4 = nI (eh_u u) → Q none (em_SH, I', J, em_RT lw)) : em_call (d + 1) 17 [.ref 47, .ref 42] (em_SH, I, J, em_RT lw) Q := by
  iterate 4 refine em_next rfl ?_
  refine em_aaE (k := 15) (b := 126) rfl rfl hK (by decide) (by decide) rfl ?_
  iterate 1 refine em_next rfl ?_
  refine em_inv_call rfl (ce_cpIn_past15 (fun I1 a1 a2 => ?_))
  have e1 : I1 47 3 + 1 = nI (15 + 1) := by rw [a1 _ (by decide), hK]; exact (nI_succ 15).symm
  have e2 : I1 47 4 = nI u := by rw [a1 _ (by decide)]; exact hZ
  iterate 7 refine em_next rfl ?_
  refine em_tp (em_remE e1 (by decide)) ?_
  iterate 8 refine em_next rfl ?_
  refine em_tp (em_min40 e2 hu) ?_
  iterate 1 refine em_next rfl ?_
  refine em_done rfl ?_
  show Q none (em_SH, em_u (em_u I1 47 3 (nI ((15 + 1) % 40))) 47 4 (nI (eh_u u)), J, em_RT lw)
  refine h _ (fun a h1 h2 => ?_) (fun n W hn hc => (a2 n W hn hc).keep (fun a z1 z2 => ?_)) ?_ ?_
  · rw [em_u_row h1, em_u_row h1]; exact a1 a h2
  · rw [em_u_row (by omega), em_u_row (by omega)]
  · rw [em_u_ne (by decide), em_u_self]
  · exact em_u_self
theorem ce_last_past15 {j : Nat} (hj : j < 40) (hK : (j + 39) % 40 = 15) (hN : I 47 3 = nI j) (hu : u ≤ 40) (hZ : I 47 4 = nI u) (h0 : ¬ u = 0) (h : ∀ I' : Nat → Nat → Int32, (∀ a, a ≠ 47 → ¬ (42 ≤ a ∧ a ≤ 46) → I' a = I a) → (∀ (n : Nat) (W : em_Wt), n ≤ 9 → cr I 126 n W → cr I' 42 n W) → I' 47 3 = nI 15 → I' 47 4 = nI (u - 1) → Q (some (.int 1)) (em_SH, I', J, em_RT lw)) : em_call (d + 1) 18 [.ref 47, .ref 42] (em_SH, I, J, em_RT lw) Q := by
  have e1 : I 47 3 + 40 - 1 = nI (j + 39) := by
    rw [hN, show nI j + 40 = nI (j + 39 + 1) from (em_nadd j 40).symm, nI_pred]
  iterate 3 refine em_next rfl ?_
  refine em_z_neE hZ (fun _ => ?_) (fun q => absurd ((nI_eq (b := 0) (by omega) (by decide)).mp q) h0)
  iterate 9 refine em_next rfl ?_
  refine em_tp (y := nI 15) ((em_remE e1 (by omega)).trans (by rw [hK])) ?_
  iterate 1 refine em_next rfl ?_
  show em_wp em_sc0 (d + 1) 18 _ _ _ (em_SH, em_u I 47 3 (nI 15), J, em_RT lw) Q
  iterate 5 refine em_next rfl ?_
  refine em_aaE (k := 15) (b := 126) rfl rfl (em_u_self (I := I) (a := 47) (j := 3) (x := nI 15)) (by decide) (by decide) rfl ?_
  refine em_inv_call rfl (ce_cpOut_past15 (fun I1 a1 a2 => ?_))
  have e2 : I1 47 4 - 1 = nI (u - 1) := by rw [a1 _ (by decide), em_u_ne (by decide), hZ, em_pred1 (by omega)]
  iterate 4 refine em_next rfl ?_
  refine em_next rfl ?_
  refine em_tp e2 ?_
  iterate 2 refine em_next rfl ?_
  refine em_done rfl ?_
  show Q (some (.int 1)) (em_SH, em_u I1 47 4 (nI (u - 1)), J, em_RT lw)
  refine h _ (fun a h1 h2 => ?_) (fun n W hn hc => (a2 n W hn (hc.keep (fun a z1 z2 => em_u_row (by omega)))).keep (fun a z1 z2 => em_u_row (by omega))) ?_ em_u_self
  · rw [em_u_row h1, a1 a h2, em_u_row h1]
  · rw [em_u_ne (by decide), a1 _ (by decide), em_u_self]
theorem ce_add_past16 (hK : I 47 3 = nI 16) (hu : u ≤ 40) (hZ : I 47 4 = nI u) (h : ∀ I' : Nat → Nat → Int32, (∀ a, a ≠ 47 → ¬ (131 ≤ a ∧ a ≤ 135) → I' a = I a) → (∀ (n : Nat) (W : em_Wt), n ≤ 9 → cr I 42 n W → cr I' 131 n W) → I' 47 3 = nI ((16 + 1) % 40) → I' 47 4 = nI (eh_u u) → Q none (em_SH, I', J, em_RT lw)) : em_call (d + 1) 17 [.ref 47, .ref 42] (em_SH, I, J, em_RT lw) Q := by
  iterate 4 refine em_next rfl ?_
  refine em_aaE (k := 16) (b := 131) rfl rfl hK (by decide) (by decide) rfl ?_
  iterate 1 refine em_next rfl ?_
  refine em_inv_call rfl (ce_cpIn_past16 (fun I1 a1 a2 => ?_))
  have e1 : I1 47 3 + 1 = nI (16 + 1) := by rw [a1 _ (by decide), hK]; exact (nI_succ 16).symm
  have e2 : I1 47 4 = nI u := by rw [a1 _ (by decide)]; exact hZ
  iterate 7 refine em_next rfl ?_
  refine em_tp (em_remE e1 (by decide)) ?_
  iterate 8 refine em_next rfl ?_
  refine em_tp (em_min40 e2 hu) ?_
  iterate 1 refine em_next rfl ?_
  refine em_done rfl ?_
  show Q none (em_SH, em_u (em_u I1 47 3 (nI ((16 + 1) % 40))) 47 4 (nI (eh_u u)), J, em_RT lw)
  refine h _ (fun a h1 h2 => ?_) (fun n W hn hc => (a2 n W hn hc).keep (fun a z1 z2 => ?_)) ?_ ?_
  · rw [em_u_row h1, em_u_row h1]; exact a1 a h2
  · rw [em_u_row (by omega), em_u_row (by omega)]
  · rw [em_u_ne (by decide), em_u_self]
  · exact em_u_self
theorem ce_last_past16 {j : Nat} (hj : j < 40) (hK : (j + 39) % 40 = 16) (hN : I 47 3 = nI j) (hu : u ≤ 40) (hZ : I 47 4 = nI u) (h0 : ¬ u = 0) (h : ∀ I' : Nat → Nat → Int32, (∀ a, a ≠ 47 → ¬ (42 ≤ a ∧ a ≤ 46) → I' a = I a) → (∀ (n : Nat) (W : em_Wt), n ≤ 9 → cr I 131 n W → cr I' 42 n W) → I' 47 3 = nI 16 → I' 47 4 = nI (u - 1) → Q (some (.int 1)) (em_SH, I', J, em_RT lw)) : em_call (d + 1) 18 [.ref 47, .ref 42] (em_SH, I, J, em_RT lw) Q := by
  have e1 : I 47 3 + 40 - 1 = nI (j + 39) := by
    rw [hN, show nI j + 40 = nI (j + 39 + 1) from (em_nadd j 40).symm, nI_pred]
  iterate 3 refine em_next rfl ?_
  refine em_z_neE hZ (fun _ => ?_) (fun q => absurd ((nI_eq (b := 0) (by omega) (by decide)).mp q) h0)
  iterate 9 refine em_next rfl ?_
  refine em_tp (y := nI 16) ((em_remE e1 (by omega)).trans (by rw [hK])) ?_
  iterate 1 refine em_next rfl ?_
  show em_wp em_sc0 (d + 1) 18 _ _ _ (em_SH, em_u I 47 3 (nI 16), J, em_RT lw) Q
  iterate 5 refine em_next rfl ?_
  refine em_aaE (k := 16) (b := 131) rfl rfl (em_u_self (I := I) (a := 47) (j := 3) (x := nI 16)) (by decide) (by decide) rfl ?_
  refine em_inv_call rfl (ce_cpOut_past16 (fun I1 a1 a2 => ?_))
  have e2 : I1 47 4 - 1 = nI (u - 1) := by rw [a1 _ (by decide), em_u_ne (by decide), hZ, em_pred1 (by omega)]
  iterate 4 refine em_next rfl ?_
  refine em_next rfl ?_
  refine em_tp e2 ?_
  iterate 2 refine em_next rfl ?_
  refine em_done rfl ?_
  show Q (some (.int 1)) (em_SH, em_u I1 47 4 (nI (u - 1)), J, em_RT lw)
  refine h _ (fun a h1 h2 => ?_) (fun n W hn hc => (a2 n W hn (hc.keep (fun a z1 z2 => em_u_row (by omega)))).keep (fun a z1 z2 => em_u_row (by omega))) ?_ em_u_self
  · rw [em_u_row h1, a1 a h2, em_u_row h1]
  · rw [em_u_ne (by decide), a1 _ (by decide), em_u_self]
theorem ce_add_past17 (hK : I 47 3 = nI 17) (hu : u ≤ 40) (hZ : I 47 4 = nI u) (h : ∀ I' : Nat → Nat → Int32, (∀ a, a ≠ 47 → ¬ (136 ≤ a ∧ a ≤ 140) → I' a = I a) → (∀ (n : Nat) (W : em_Wt), n ≤ 9 → cr I 42 n W → cr I' 136 n W) → I' 47 3 = nI ((17 + 1) % 40) → I' 47 4 = nI (eh_u u) → Q none (em_SH, I', J, em_RT lw)) : em_call (d + 1) 17 [.ref 47, .ref 42] (em_SH, I, J, em_RT lw) Q := by
  iterate 4 refine em_next rfl ?_
  refine em_aaE (k := 17) (b := 136) rfl rfl hK (by decide) (by decide) rfl ?_
  iterate 1 refine em_next rfl ?_
  refine em_inv_call rfl (ce_cpIn_past17 (fun I1 a1 a2 => ?_))
  have e1 : I1 47 3 + 1 = nI (17 + 1) := by rw [a1 _ (by decide), hK]; exact (nI_succ 17).symm
  have e2 : I1 47 4 = nI u := by rw [a1 _ (by decide)]; exact hZ
  iterate 7 refine em_next rfl ?_
  refine em_tp (em_remE e1 (by decide)) ?_
  iterate 8 refine em_next rfl ?_
  refine em_tp (em_min40 e2 hu) ?_
  iterate 1 refine em_next rfl ?_
  refine em_done rfl ?_
  show Q none (em_SH, em_u (em_u I1 47 3 (nI ((17 + 1) % 40))) 47 4 (nI (eh_u u)), J, em_RT lw)
  refine h _ (fun a h1 h2 => ?_) (fun n W hn hc => (a2 n W hn hc).keep (fun a z1 z2 => ?_)) ?_ ?_
  · rw [em_u_row h1, em_u_row h1]; exact a1 a h2
  · rw [em_u_row (by omega), em_u_row (by omega)]
  · rw [em_u_ne (by decide), em_u_self]
  · exact em_u_self
theorem ce_last_past17 {j : Nat} (hj : j < 40) (hK : (j + 39) % 40 = 17) (hN : I 47 3 = nI j) (hu : u ≤ 40) (hZ : I 47 4 = nI u) (h0 : ¬ u = 0) (h : ∀ I' : Nat → Nat → Int32, (∀ a, a ≠ 47 → ¬ (42 ≤ a ∧ a ≤ 46) → I' a = I a) → (∀ (n : Nat) (W : em_Wt), n ≤ 9 → cr I 136 n W → cr I' 42 n W) → I' 47 3 = nI 17 → I' 47 4 = nI (u - 1) → Q (some (.int 1)) (em_SH, I', J, em_RT lw)) : em_call (d + 1) 18 [.ref 47, .ref 42] (em_SH, I, J, em_RT lw) Q := by
  have e1 : I 47 3 + 40 - 1 = nI (j + 39) := by
    rw [hN, show nI j + 40 = nI (j + 39 + 1) from (em_nadd j 40).symm, nI_pred]
  iterate 3 refine em_next rfl ?_
  refine em_z_neE hZ (fun _ => ?_) (fun q => absurd ((nI_eq (b := 0) (by omega) (by decide)).mp q) h0)
  iterate 9 refine em_next rfl ?_
  refine em_tp (y := nI 17) ((em_remE e1 (by omega)).trans (by rw [hK])) ?_
  iterate 1 refine em_next rfl ?_
  show em_wp em_sc0 (d + 1) 18 _ _ _ (em_SH, em_u I 47 3 (nI 17), J, em_RT lw) Q
  iterate 5 refine em_next rfl ?_
  refine em_aaE (k := 17) (b := 136) rfl rfl (em_u_self (I := I) (a := 47) (j := 3) (x := nI 17)) (by decide) (by decide) rfl ?_
  refine em_inv_call rfl (ce_cpOut_past17 (fun I1 a1 a2 => ?_))
  have e2 : I1 47 4 - 1 = nI (u - 1) := by rw [a1 _ (by decide), em_u_ne (by decide), hZ, em_pred1 (by omega)]
  iterate 4 refine em_next rfl ?_
  refine em_next rfl ?_
  refine em_tp e2 ?_
  iterate 2 refine em_next rfl ?_
  refine em_done rfl ?_
  show Q (some (.int 1)) (em_SH, em_u I1 47 4 (nI (u - 1)), J, em_RT lw)
  refine h _ (fun a h1 h2 => ?_) (fun n W hn hc => (a2 n W hn (hc.keep (fun a z1 z2 => em_u_row (by omega)))).keep (fun a z1 z2 => em_u_row (by omega))) ?_ em_u_self
  · rw [em_u_row h1, a1 a h2, em_u_row h1]
  · rw [em_u_ne (by decide), a1 _ (by decide), em_u_self]
theorem ce_add_past18 (hK : I 47 3 = nI 18) (hu : u ≤ 40) (hZ : I 47 4 = nI u) (h : ∀ I' : Nat → Nat → Int32, (∀ a, a ≠ 47 → ¬ (141 ≤ a ∧ a ≤ 145) → I' a = I a) → (∀ (n : Nat) (W : em_Wt), n ≤ 9 → cr I 42 n W → cr I' 141 n W) → I' 47 3 = nI ((18 + 1) % 40) → I' 47 4 = nI (eh_u u) → Q none (em_SH, I', J, em_RT lw)) : em_call (d + 1) 17 [.ref 47, .ref 42] (em_SH, I, J, em_RT lw) Q := by
  iterate 4 refine em_next rfl ?_
  refine em_aaE (k := 18) (b := 141) rfl rfl hK (by decide) (by decide) rfl ?_
  iterate 1 refine em_next rfl ?_
  refine em_inv_call rfl (ce_cpIn_past18 (fun I1 a1 a2 => ?_))
  have e1 : I1 47 3 + 1 = nI (18 + 1) := by rw [a1 _ (by decide), hK]; exact (nI_succ 18).symm
  have e2 : I1 47 4 = nI u := by rw [a1 _ (by decide)]; exact hZ
  iterate 7 refine em_next rfl ?_
  refine em_tp (em_remE e1 (by decide)) ?_
  iterate 8 refine em_next rfl ?_
  refine em_tp (em_min40 e2 hu) ?_
  iterate 1 refine em_next rfl ?_
  refine em_done rfl ?_
  show Q none (em_SH, em_u (em_u I1 47 3 (nI ((18 + 1) % 40))) 47 4 (nI (eh_u u)), J, em_RT lw)
  refine h _ (fun a h1 h2 => ?_) (fun n W hn hc => (a2 n W hn hc).keep (fun a z1 z2 => ?_)) ?_ ?_
  · rw [em_u_row h1, em_u_row h1]; exact a1 a h2
  · rw [em_u_row (by omega), em_u_row (by omega)]
  · rw [em_u_ne (by decide), em_u_self]
  · exact em_u_self
theorem ce_last_past18 {j : Nat} (hj : j < 40) (hK : (j + 39) % 40 = 18) (hN : I 47 3 = nI j) (hu : u ≤ 40) (hZ : I 47 4 = nI u) (h0 : ¬ u = 0) (h : ∀ I' : Nat → Nat → Int32, (∀ a, a ≠ 47 → ¬ (42 ≤ a ∧ a ≤ 46) → I' a = I a) → (∀ (n : Nat) (W : em_Wt), n ≤ 9 → cr I 141 n W → cr I' 42 n W) → I' 47 3 = nI 18 → I' 47 4 = nI (u - 1) → Q (some (.int 1)) (em_SH, I', J, em_RT lw)) : em_call (d + 1) 18 [.ref 47, .ref 42] (em_SH, I, J, em_RT lw) Q := by
  have e1 : I 47 3 + 40 - 1 = nI (j + 39) := by
    rw [hN, show nI j + 40 = nI (j + 39 + 1) from (em_nadd j 40).symm, nI_pred]
  iterate 3 refine em_next rfl ?_
  refine em_z_neE hZ (fun _ => ?_) (fun q => absurd ((nI_eq (b := 0) (by omega) (by decide)).mp q) h0)
  iterate 9 refine em_next rfl ?_
  refine em_tp (y := nI 18) ((em_remE e1 (by omega)).trans (by rw [hK])) ?_
  iterate 1 refine em_next rfl ?_
  show em_wp em_sc0 (d + 1) 18 _ _ _ (em_SH, em_u I 47 3 (nI 18), J, em_RT lw) Q
  iterate 5 refine em_next rfl ?_
  refine em_aaE (k := 18) (b := 141) rfl rfl (em_u_self (I := I) (a := 47) (j := 3) (x := nI 18)) (by decide) (by decide) rfl ?_
  refine em_inv_call rfl (ce_cpOut_past18 (fun I1 a1 a2 => ?_))
  have e2 : I1 47 4 - 1 = nI (u - 1) := by rw [a1 _ (by decide), em_u_ne (by decide), hZ, em_pred1 (by omega)]
  iterate 4 refine em_next rfl ?_
  refine em_next rfl ?_
  refine em_tp e2 ?_
  iterate 2 refine em_next rfl ?_
  refine em_done rfl ?_
  show Q (some (.int 1)) (em_SH, em_u I1 47 4 (nI (u - 1)), J, em_RT lw)
  refine h _ (fun a h1 h2 => ?_) (fun n W hn hc => (a2 n W hn (hc.keep (fun a z1 z2 => em_u_row (by omega)))).keep (fun a z1 z2 => em_u_row (by omega))) ?_ em_u_self
  · rw [em_u_row h1, a1 a h2, em_u_row h1]
  · rw [em_u_ne (by decide), a1 _ (by decide), em_u_self]
theorem ce_add_past19 (hK : I 47 3 = nI 19) (hu : u ≤ 40) (hZ : I 47 4 = nI u) (h : ∀ I' : Nat → Nat → Int32, (∀ a, a ≠ 47 → ¬ (146 ≤ a ∧ a ≤ 150) → I' a = I a) → (∀ (n : Nat) (W : em_Wt), n ≤ 9 → cr I 42 n W → cr I' 146 n W) → I' 47 3 = nI ((19 + 1) % 40) → I' 47 4 = nI (eh_u u) → Q none (em_SH, I', J, em_RT lw)) : em_call (d + 1) 17 [.ref 47, .ref 42] (em_SH, I, J, em_RT lw) Q := by
  iterate 4 refine em_next rfl ?_
  refine em_aaE (k := 19) (b := 146) rfl rfl hK (by decide) (by decide) rfl ?_
  iterate 1 refine em_next rfl ?_
  refine em_inv_call rfl (ce_cpIn_past19 (fun I1 a1 a2 => ?_))
  have e1 : I1 47 3 + 1 = nI (19 + 1) := by rw [a1 _ (by decide), hK]; exact (nI_succ 19).symm
  have e2 : I1 47 4 = nI u := by rw [a1 _ (by decide)]; exact hZ
  iterate 7 refine em_next rfl ?_
  refine em_tp (em_remE e1 (by decide)) ?_
  iterate 8 refine em_next rfl ?_
  refine em_tp (em_min40 e2 hu) ?_
  iterate 1 refine em_next rfl ?_
  refine em_done rfl ?_
  show Q none (em_SH, em_u (em_u I1 47 3 (nI ((19 + 1) % 40))) 47 4 (nI (eh_u u)), J, em_RT lw)
  refine h _ (fun a h1 h2 => ?_) (fun n W hn hc => (a2 n W hn hc).keep (fun a z1 z2 => ?_)) ?_ ?_
  · rw [em_u_row h1, em_u_row h1]; exact a1 a h2
  · rw [em_u_row (by omega), em_u_row (by omega)]
  · rw [em_u_ne (by decide), em_u_self]
  · exact em_u_self
theorem ce_last_past19 {j : Nat} (hj : j < 40) (hK : (j + 39) % 40 = 19) (hN : I 47 3 = nI j) (hu : u ≤ 40) (hZ : I 47 4 = nI u) (h0 : ¬ u = 0) (h : ∀ I' : Nat → Nat → Int32, (∀ a, a ≠ 47 → ¬ (42 ≤ a ∧ a ≤ 46) → I' a = I a) → (∀ (n : Nat) (W : em_Wt), n ≤ 9 → cr I 146 n W → cr I' 42 n W) → I' 47 3 = nI 19 → I' 47 4 = nI (u - 1) → Q (some (.int 1)) (em_SH, I', J, em_RT lw)) : em_call (d + 1) 18 [.ref 47, .ref 42] (em_SH, I, J, em_RT lw) Q := by
  have e1 : I 47 3 + 40 - 1 = nI (j + 39) := by
    rw [hN, show nI j + 40 = nI (j + 39 + 1) from (em_nadd j 40).symm, nI_pred]
  iterate 3 refine em_next rfl ?_
  refine em_z_neE hZ (fun _ => ?_) (fun q => absurd ((nI_eq (b := 0) (by omega) (by decide)).mp q) h0)
  iterate 9 refine em_next rfl ?_
  refine em_tp (y := nI 19) ((em_remE e1 (by omega)).trans (by rw [hK])) ?_
  iterate 1 refine em_next rfl ?_
  show em_wp em_sc0 (d + 1) 18 _ _ _ (em_SH, em_u I 47 3 (nI 19), J, em_RT lw) Q
  iterate 5 refine em_next rfl ?_
  refine em_aaE (k := 19) (b := 146) rfl rfl (em_u_self (I := I) (a := 47) (j := 3) (x := nI 19)) (by decide) (by decide) rfl ?_
  refine em_inv_call rfl (ce_cpOut_past19 (fun I1 a1 a2 => ?_))
  have e2 : I1 47 4 - 1 = nI (u - 1) := by rw [a1 _ (by decide), em_u_ne (by decide), hZ, em_pred1 (by omega)]
  iterate 4 refine em_next rfl ?_
  refine em_next rfl ?_
  refine em_tp e2 ?_
  iterate 2 refine em_next rfl ?_
  refine em_done rfl ?_
  show Q (some (.int 1)) (em_SH, em_u I1 47 4 (nI (u - 1)), J, em_RT lw)
  refine h _ (fun a h1 h2 => ?_) (fun n W hn hc => (a2 n W hn (hc.keep (fun a z1 z2 => em_u_row (by omega)))).keep (fun a z1 z2 => em_u_row (by omega))) ?_ em_u_self
  · rw [em_u_row h1, a1 a h2, em_u_row h1]
  · rw [em_u_ne (by decide), a1 _ (by decide), em_u_self]
theorem ce_add_past20 (hK : I 47 3 = nI 20) (hu : u ≤ 40) (hZ : I 47 4 = nI u) (h : ∀ I' : Nat → Nat → Int32, (∀ a, a ≠ 47 → ¬ (151 ≤ a ∧ a ≤ 155) → I' a = I a) → (∀ (n : Nat) (W : em_Wt), n ≤ 9 → cr I 42 n W → cr I' 151 n W) → I' 47 3 = nI ((20 + 1) % 40) → I' 47 4 = nI (eh_u u) → Q none (em_SH, I', J, em_RT lw)) : em_call (d + 1) 17 [.ref 47, .ref 42] (em_SH, I, J, em_RT lw) Q := by
  iterate 4 refine em_next rfl ?_
  refine em_aaE (k := 20) (b := 151) rfl rfl hK (by decide) (by decide) rfl ?_
  iterate 1 refine em_next rfl ?_
  refine em_inv_call rfl (ce_cpIn_past20 (fun I1 a1 a2 => ?_))
  have e1 : I1 47 3 + 1 = nI (20 + 1) := by rw [a1 _ (by decide), hK]; exact (nI_succ 20).symm
  have e2 : I1 47 4 = nI u := by rw [a1 _ (by decide)]; exact hZ
  iterate 7 refine em_next rfl ?_
  refine em_tp (em_remE e1 (by decide)) ?_
  iterate 8 refine em_next rfl ?_
  refine em_tp (em_min40 e2 hu) ?_
  iterate 1 refine em_next rfl ?_
  refine em_done rfl ?_
  show Q none (em_SH, em_u (em_u I1 47 3 (nI ((20 + 1) % 40))) 47 4 (nI (eh_u u)), J, em_RT lw)
  refine h _ (fun a h1 h2 => ?_) (fun n W hn hc => (a2 n W hn hc).keep (fun a z1 z2 => ?_)) ?_ ?_
  · rw [em_u_row h1, em_u_row h1]; exact a1 a h2
  · rw [em_u_row (by omega), em_u_row (by omega)]
  · rw [em_u_ne (by decide), em_u_self]
  · exact em_u_self
theorem ce_last_past20 {j : Nat} (hj : j < 40) (hK : (j + 39) % 40 = 20) (hN : I 47 3 = nI j) (hu : u ≤ 40) (hZ : I 47 4 = nI u) (h0 : ¬ u = 0) (h : ∀ I' : Nat → Nat → Int32, (∀ a, a ≠ 47 → ¬ (42 ≤ a ∧ a ≤ 46) → I' a = I a) → (∀ (n : Nat) (W : em_Wt), n ≤ 9 → cr I 151 n W → cr I' 42 n W) → I' 47 3 = nI 20 → I' 47 4 = nI (u - 1) → Q (some (.int 1)) (em_SH, I', J, em_RT lw)) : em_call (d + 1) 18 [.ref 47, .ref 42] (em_SH, I, J, em_RT lw) Q := by
  have e1 : I 47 3 + 40 - 1 = nI (j + 39) := by
    rw [hN, show nI j + 40 = nI (j + 39 + 1) from (em_nadd j 40).symm, nI_pred]
  iterate 3 refine em_next rfl ?_
  refine em_z_neE hZ (fun _ => ?_) (fun q => absurd ((nI_eq (b := 0) (by omega) (by decide)).mp q) h0)
  iterate 9 refine em_next rfl ?_
  refine em_tp (y := nI 20) ((em_remE e1 (by omega)).trans (by rw [hK])) ?_
  iterate 1 refine em_next rfl ?_
  show em_wp em_sc0 (d + 1) 18 _ _ _ (em_SH, em_u I 47 3 (nI 20), J, em_RT lw) Q
  iterate 5 refine em_next rfl ?_
  refine em_aaE (k := 20) (b := 151) rfl rfl (em_u_self (I := I) (a := 47) (j := 3) (x := nI 20)) (by decide) (by decide) rfl ?_
  refine em_inv_call rfl (ce_cpOut_past20 (fun I1 a1 a2 => ?_))
  have e2 : I1 47 4 - 1 = nI (u - 1) := by rw [a1 _ (by decide), em_u_ne (by decide), hZ, em_pred1 (by omega)]
  iterate 4 refine em_next rfl ?_
  refine em_next rfl ?_
  refine em_tp e2 ?_
  iterate 2 refine em_next rfl ?_
  refine em_done rfl ?_
  show Q (some (.int 1)) (em_SH, em_u I1 47 4 (nI (u - 1)), J, em_RT lw)
  refine h _ (fun a h1 h2 => ?_) (fun n W hn hc => (a2 n W hn (hc.keep (fun a z1 z2 => em_u_row (by omega)))).keep (fun a z1 z2 => em_u_row (by omega))) ?_ em_u_self
  · rw [em_u_row h1, a1 a h2, em_u_row h1]
  · rw [em_u_ne (by decide), a1 _ (by decide), em_u_self]
theorem ce_add_past21 (hK : I 47 3 = nI 21) (hu : u ≤ 40) (hZ : I 47 4 = nI u) (h : ∀ I' : Nat → Nat → Int32, (∀ a, a ≠ 47 → ¬ (156 ≤ a ∧ a ≤ 160) → I' a = I a) → (∀ (n : Nat) (W : em_Wt), n ≤ 9 → cr I 42 n W → cr I' 156 n W) → I' 47 3 = nI ((21 + 1) % 40) → I' 47 4 = nI (eh_u u) → Q none (em_SH, I', J, em_RT lw)) : em_call (d + 1) 17 [.ref 47, .ref 42] (em_SH, I, J, em_RT lw) Q := by
  iterate 4 refine em_next rfl ?_
  refine em_aaE (k := 21) (b := 156) rfl rfl hK (by decide) (by decide) rfl ?_
  iterate 1 refine em_next rfl ?_
  refine em_inv_call rfl (ce_cpIn_past21 (fun I1 a1 a2 => ?_))
  have e1 : I1 47 3 + 1 = nI (21 + 1) := by rw [a1 _ (by decide), hK]; exact (nI_succ 21).symm
  have e2 : I1 47 4 = nI u := by rw [a1 _ (by decide)]; exact hZ
  iterate 7 refine em_next rfl ?_
  refine em_tp (em_remE e1 (by decide)) ?_
  iterate 8 refine em_next rfl ?_
  refine em_tp (em_min40 e2 hu) ?_
  iterate 1 refine em_next rfl ?_
  refine em_done rfl ?_
  show Q none (em_SH, em_u (em_u I1 47 3 (nI ((21 + 1) % 40))) 47 4 (nI (eh_u u)), J, em_RT lw)
  refine h _ (fun a h1 h2 => ?_) (fun n W hn hc => (a2 n W hn hc).keep (fun a z1 z2 => ?_)) ?_ ?_
  · rw [em_u_row h1, em_u_row h1]; exact a1 a h2
  · rw [em_u_row (by omega), em_u_row (by omega)]
  · rw [em_u_ne (by decide), em_u_self]
  · exact em_u_self
theorem ce_last_past21 {j : Nat} (hj : j < 40) (hK : (j + 39) % 40 = 21) (hN : I 47 3 = nI j) (hu : u ≤ 40) (hZ : I 47 4 = nI u) (h0 : ¬ u = 0) (h : ∀ I' : Nat → Nat → Int32, (∀ a, a ≠ 47 → ¬ (42 ≤ a ∧ a ≤ 46) → I' a = I a) → (∀ (n : Nat) (W : em_Wt), n ≤ 9 → cr I 156 n W → cr I' 42 n W) → I' 47 3 = nI 21 → I' 47 4 = nI (u - 1) → Q (some (.int 1)) (em_SH, I', J, em_RT lw)) : em_call (d + 1) 18 [.ref 47, .ref 42] (em_SH, I, J, em_RT lw) Q := by
  have e1 : I 47 3 + 40 - 1 = nI (j + 39) := by
    rw [hN, show nI j + 40 = nI (j + 39 + 1) from (em_nadd j 40).symm, nI_pred]
  iterate 3 refine em_next rfl ?_
  refine em_z_neE hZ (fun _ => ?_) (fun q => absurd ((nI_eq (b := 0) (by omega) (by decide)).mp q) h0)
  iterate 9 refine em_next rfl ?_
  refine em_tp (y := nI 21) ((em_remE e1 (by omega)).trans (by rw [hK])) ?_
  iterate 1 refine em_next rfl ?_
  show em_wp em_sc0 (d + 1) 18 _ _ _ (em_SH, em_u I 47 3 (nI 21), J, em_RT lw) Q
  iterate 5 refine em_next rfl ?_
  refine em_aaE (k := 21) (b := 156) rfl rfl (em_u_self (I := I) (a := 47) (j := 3) (x := nI 21)) (by decide) (by decide) rfl ?_
  refine em_inv_call rfl (ce_cpOut_past21 (fun I1 a1 a2 => ?_))
  have e2 : I1 47 4 - 1 = nI (u - 1) := by rw [a1 _ (by decide), em_u_ne (by decide), hZ, em_pred1 (by omega)]
  iterate 4 refine em_next rfl ?_
  refine em_next rfl ?_
  refine em_tp e2 ?_
  iterate 2 refine em_next rfl ?_
  refine em_done rfl ?_
  show Q (some (.int 1)) (em_SH, em_u I1 47 4 (nI (u - 1)), J, em_RT lw)
  refine h _ (fun a h1 h2 => ?_) (fun n W hn hc => (a2 n W hn (hc.keep (fun a z1 z2 => em_u_row (by omega)))).keep (fun a z1 z2 => em_u_row (by omega))) ?_ em_u_self
  · rw [em_u_row h1, a1 a h2, em_u_row h1]
  · rw [em_u_ne (by decide), a1 _ (by decide), em_u_self]
theorem ce_add_past22 (hK : I 47 3 = nI 22) (hu : u ≤ 40) (hZ : I 47 4 = nI u) (h : ∀ I' : Nat → Nat → Int32, (∀ a, a ≠ 47 → ¬ (161 ≤ a ∧ a ≤ 165) → I' a = I a) → (∀ (n : Nat) (W : em_Wt), n ≤ 9 → cr I 42 n W → cr I' 161 n W) → I' 47 3 = nI ((22 + 1) % 40) → I' 47 4 = nI (eh_u u) → Q none (em_SH, I', J, em_RT lw)) : em_call (d + 1) 17 [.ref 47, .ref 42] (em_SH, I, J, em_RT lw) Q := by
  iterate 4 refine em_next rfl ?_
  refine em_aaE (k := 22) (b := 161) rfl rfl hK (by decide) (by decide) rfl ?_
  iterate 1 refine em_next rfl ?_
  refine em_inv_call rfl (ce_cpIn_past22 (fun I1 a1 a2 => ?_))
  have e1 : I1 47 3 + 1 = nI (22 + 1) := by rw [a1 _ (by decide), hK]; exact (nI_succ 22).symm
  have e2 : I1 47 4 = nI u := by rw [a1 _ (by decide)]; exact hZ
  iterate 7 refine em_next rfl ?_
  refine em_tp (em_remE e1 (by decide)) ?_
  iterate 8 refine em_next rfl ?_
  refine em_tp (em_min40 e2 hu) ?_
  iterate 1 refine em_next rfl ?_
  refine em_done rfl ?_
  show Q none (em_SH, em_u (em_u I1 47 3 (nI ((22 + 1) % 40))) 47 4 (nI (eh_u u)), J, em_RT lw)
  refine h _ (fun a h1 h2 => ?_) (fun n W hn hc => (a2 n W hn hc).keep (fun a z1 z2 => ?_)) ?_ ?_
  · rw [em_u_row h1, em_u_row h1]; exact a1 a h2
  · rw [em_u_row (by omega), em_u_row (by omega)]
  · rw [em_u_ne (by decide), em_u_self]
  · exact em_u_self
theorem ce_last_past22 {j : Nat} (hj : j < 40) (hK : (j + 39) % 40 = 22) (hN : I 47 3 = nI j) (hu : u ≤ 40) (hZ : I 47 4 = nI u) (h0 : ¬ u = 0) (h : ∀ I' : Nat → Nat → Int32, (∀ a, a ≠ 47 → ¬ (42 ≤ a ∧ a ≤ 46) → I' a = I a) → (∀ (n : Nat) (W : em_Wt), n ≤ 9 → cr I 161 n W → cr I' 42 n W) → I' 47 3 = nI 22 → I' 47 4 = nI (u - 1) → Q (some (.int 1)) (em_SH, I', J, em_RT lw)) : em_call (d + 1) 18 [.ref 47, .ref 42] (em_SH, I, J, em_RT lw) Q := by
  have e1 : I 47 3 + 40 - 1 = nI (j + 39) := by
    rw [hN, show nI j + 40 = nI (j + 39 + 1) from (em_nadd j 40).symm, nI_pred]
  iterate 3 refine em_next rfl ?_
  refine em_z_neE hZ (fun _ => ?_) (fun q => absurd ((nI_eq (b := 0) (by omega) (by decide)).mp q) h0)
  iterate 9 refine em_next rfl ?_
  refine em_tp (y := nI 22) ((em_remE e1 (by omega)).trans (by rw [hK])) ?_
  iterate 1 refine em_next rfl ?_
  show em_wp em_sc0 (d + 1) 18 _ _ _ (em_SH, em_u I 47 3 (nI 22), J, em_RT lw) Q
  iterate 5 refine em_next rfl ?_
  refine em_aaE (k := 22) (b := 161) rfl rfl (em_u_self (I := I) (a := 47) (j := 3) (x := nI 22)) (by decide) (by decide) rfl ?_
  refine em_inv_call rfl (ce_cpOut_past22 (fun I1 a1 a2 => ?_))
  have e2 : I1 47 4 - 1 = nI (u - 1) := by rw [a1 _ (by decide), em_u_ne (by decide), hZ, em_pred1 (by omega)]
  iterate 4 refine em_next rfl ?_
  refine em_next rfl ?_
  refine em_tp e2 ?_
  iterate 2 refine em_next rfl ?_
  refine em_done rfl ?_
  show Q (some (.int 1)) (em_SH, em_u I1 47 4 (nI (u - 1)), J, em_RT lw)
  refine h _ (fun a h1 h2 => ?_) (fun n W hn hc => (a2 n W hn (hc.keep (fun a z1 z2 => em_u_row (by omega)))).keep (fun a z1 z2 => em_u_row (by omega))) ?_ em_u_self
  · rw [em_u_row h1, a1 a h2, em_u_row h1]
  · rw [em_u_ne (by decide), a1 _ (by decide), em_u_self]
theorem ce_add_past23 (hK : I 47 3 = nI 23) (hu : u ≤ 40) (hZ : I 47 4 = nI u) (h : ∀ I' : Nat → Nat → Int32, (∀ a, a ≠ 47 → ¬ (166 ≤ a ∧ a ≤ 170) → I' a = I a) → (∀ (n : Nat) (W : em_Wt), n ≤ 9 → cr I 42 n W → cr I' 166 n W) → I' 47 3 = nI ((23 + 1) % 40) → I' 47 4 = nI (eh_u u) → Q none (em_SH, I', J, em_RT lw)) : em_call (d + 1) 17 [.ref 47, .ref 42] (em_SH, I, J, em_RT lw) Q := by
  iterate 4 refine em_next rfl ?_
  refine em_aaE (k := 23) (b := 166) rfl rfl hK (by decide) (by decide) rfl ?_
  iterate 1 refine em_next rfl ?_
  refine em_inv_call rfl (ce_cpIn_past23 (fun I1 a1 a2 => ?_))
  have e1 : I1 47 3 + 1 = nI (23 + 1) := by rw [a1 _ (by decide), hK]; exact (nI_succ 23).symm
  have e2 : I1 47 4 = nI u := by rw [a1 _ (by decide)]; exact hZ
  iterate 7 refine em_next rfl ?_
  refine em_tp (em_remE e1 (by decide)) ?_
  iterate 8 refine em_next rfl ?_
  refine em_tp (em_min40 e2 hu) ?_
  iterate 1 refine em_next rfl ?_
  refine em_done rfl ?_
  show Q none (em_SH, em_u (em_u I1 47 3 (nI ((23 + 1) % 40))) 47 4 (nI (eh_u u)), J, em_RT lw)
  refine h _ (fun a h1 h2 => ?_) (fun n W hn hc => (a2 n W hn hc).keep (fun a z1 z2 => ?_)) ?_ ?_
  · rw [em_u_row h1, em_u_row h1]; exact a1 a h2
  · rw [em_u_row (by omega), em_u_row (by omega)]
  · rw [em_u_ne (by decide), em_u_self]
  · exact em_u_self
theorem ce_last_past23 {j : Nat} (hj : j < 40) (hK : (j + 39) % 40 = 23) (hN : I 47 3 = nI j) (hu : u ≤ 40) (hZ : I 47 4 = nI u) (h0 : ¬ u = 0) (h : ∀ I' : Nat → Nat → Int32, (∀ a, a ≠ 47 → ¬ (42 ≤ a ∧ a ≤ 46) → I' a = I a) → (∀ (n : Nat) (W : em_Wt), n ≤ 9 → cr I 166 n W → cr I' 42 n W) → I' 47 3 = nI 23 → I' 47 4 = nI (u - 1) → Q (some (.int 1)) (em_SH, I', J, em_RT lw)) : em_call (d + 1) 18 [.ref 47, .ref 42] (em_SH, I, J, em_RT lw) Q := by
  have e1 : I 47 3 + 40 - 1 = nI (j + 39) := by
    rw [hN, show nI j + 40 = nI (j + 39 + 1) from (em_nadd j 40).symm, nI_pred]
  iterate 3 refine em_next rfl ?_
  refine em_z_neE hZ (fun _ => ?_) (fun q => absurd ((nI_eq (b := 0) (by omega) (by decide)).mp q) h0)
  iterate 9 refine em_next rfl ?_
  refine em_tp (y := nI 23) ((em_remE e1 (by omega)).trans (by rw [hK])) ?_
  iterate 1 refine em_next rfl ?_
  show em_wp em_sc0 (d + 1) 18 _ _ _ (em_SH, em_u I 47 3 (nI 23), J, em_RT lw) Q
  iterate 5 refine em_next rfl ?_
  refine em_aaE (k := 23) (b := 166) rfl rfl (em_u_self (I := I) (a := 47) (j := 3) (x := nI 23)) (by decide) (by decide) rfl ?_
  refine em_inv_call rfl (ce_cpOut_past23 (fun I1 a1 a2 => ?_))
  have e2 : I1 47 4 - 1 = nI (u - 1) := by rw [a1 _ (by decide), em_u_ne (by decide), hZ, em_pred1 (by omega)]
  iterate 4 refine em_next rfl ?_
  refine em_next rfl ?_
  refine em_tp e2 ?_
  iterate 2 refine em_next rfl ?_
  refine em_done rfl ?_
  show Q (some (.int 1)) (em_SH, em_u I1 47 4 (nI (u - 1)), J, em_RT lw)
  refine h _ (fun a h1 h2 => ?_) (fun n W hn hc => (a2 n W hn (hc.keep (fun a z1 z2 => em_u_row (by omega)))).keep (fun a z1 z2 => em_u_row (by omega))) ?_ em_u_self
  · rw [em_u_row h1, a1 a h2, em_u_row h1]
  · rw [em_u_ne (by decide), a1 _ (by decide), em_u_self]
theorem ce_add_past24 (hK : I 47 3 = nI 24) (hu : u ≤ 40) (hZ : I 47 4 = nI u) (h : ∀ I' : Nat → Nat → Int32, (∀ a, a ≠ 47 → ¬ (171 ≤ a ∧ a ≤ 175) → I' a = I a) → (∀ (n : Nat) (W : em_Wt), n ≤ 9 → cr I 42 n W → cr I' 171 n W) → I' 47 3 = nI ((24 + 1) % 40) → I' 47 4 = nI (eh_u u) → Q none (em_SH, I', J, em_RT lw)) : em_call (d + 1) 17 [.ref 47, .ref 42] (em_SH, I, J, em_RT lw) Q := by
  iterate 4 refine em_next rfl ?_
  refine em_aaE (k := 24) (b := 171) rfl rfl hK (by decide) (by decide) rfl ?_
  iterate 1 refine em_next rfl ?_
  refine em_inv_call rfl (ce_cpIn_past24 (fun I1 a1 a2 => ?_))
  have e1 : I1 47 3 + 1 = nI (24 + 1) := by rw [a1 _ (by decide), hK]; exact (nI_succ 24).symm
  have e2 : I1 47 4 = nI u := by rw [a1 _ (by decide)]; exact hZ
  iterate 7 refine em_next rfl ?_
  refine em_tp (em_remE e1 (by decide)) ?_
  iterate 8 refine em_next rfl ?_
  refine em_tp (em_min40 e2 hu) ?_
  iterate 1 refine em_next rfl ?_
  refine em_done rfl ?_
  show Q none (em_SH, em_u (em_u I1 47 3 (nI ((24 + 1) % 40))) 47 4 (nI (eh_u u)), J, em_RT lw)
  refine h _ (fun a h1 h2 => ?_) (fun n W hn hc => (a2 n W hn hc).keep (fun a z1 z2 => ?_)) ?_ ?_
  · rw [em_u_row h1, em_u_row h1]; exact a1 a h2
  · rw [em_u_row (by omega), em_u_row (by omega)]
  · rw [em_u_ne (by decide), em_u_self]
  · exact em_u_self
theorem ce_last_past24 {j : Nat} (hj : j < 40) (hK : (j + 39) % 40 = 24) (hN : I 47 3 = nI j) (hu : u ≤ 40) (hZ : I 47 4 = nI u) (h0 : ¬ u = 0) (h : ∀ I' : Nat → Nat → Int32, (∀ a, a ≠ 47 → ¬ (42 ≤ a ∧ a ≤ 46) → I' a = I a) → (∀ (n : Nat) (W : em_Wt), n ≤ 9 → cr I 171 n W → cr I' 42 n W) → I' 47 3 = nI 24 → I' 47 4 = nI (u - 1) → Q (some (.int 1)) (em_SH, I', J, em_RT lw)) : em_call (d + 1) 18 [.ref 47, .ref 42] (em_SH, I, J, em_RT lw) Q := by
  have e1 : I 47 3 + 40 - 1 = nI (j + 39) := by
    rw [hN, show nI j + 40 = nI (j + 39 + 1) from (em_nadd j 40).symm, nI_pred]
  iterate 3 refine em_next rfl ?_
  refine em_z_neE hZ (fun _ => ?_) (fun q => absurd ((nI_eq (b := 0) (by omega) (by decide)).mp q) h0)
  iterate 9 refine em_next rfl ?_
  refine em_tp (y := nI 24) ((em_remE e1 (by omega)).trans (by rw [hK])) ?_
  iterate 1 refine em_next rfl ?_
  show em_wp em_sc0 (d + 1) 18 _ _ _ (em_SH, em_u I 47 3 (nI 24), J, em_RT lw) Q
  iterate 5 refine em_next rfl ?_
  refine em_aaE (k := 24) (b := 171) rfl rfl (em_u_self (I := I) (a := 47) (j := 3) (x := nI 24)) (by decide) (by decide) rfl ?_
  refine em_inv_call rfl (ce_cpOut_past24 (fun I1 a1 a2 => ?_))
  have e2 : I1 47 4 - 1 = nI (u - 1) := by rw [a1 _ (by decide), em_u_ne (by decide), hZ, em_pred1 (by omega)]
  iterate 4 refine em_next rfl ?_
  refine em_next rfl ?_
  refine em_tp e2 ?_
  iterate 2 refine em_next rfl ?_
  refine em_done rfl ?_
  show Q (some (.int 1)) (em_SH, em_u I1 47 4 (nI (u - 1)), J, em_RT lw)
  refine h _ (fun a h1 h2 => ?_) (fun n W hn hc => (a2 n W hn (hc.keep (fun a z1 z2 => em_u_row (by omega)))).keep (fun a z1 z2 => em_u_row (by omega))) ?_ em_u_self
  · rw [em_u_row h1, a1 a h2, em_u_row h1]
  · rw [em_u_ne (by decide), a1 _ (by decide), em_u_self]
theorem ce_add_past25 (hK : I 47 3 = nI 25) (hu : u ≤ 40) (hZ : I 47 4 = nI u) (h : ∀ I' : Nat → Nat → Int32, (∀ a, a ≠ 47 → ¬ (176 ≤ a ∧ a ≤ 180) → I' a = I a) → (∀ (n : Nat) (W : em_Wt), n ≤ 9 → cr I 42 n W → cr I' 176 n W) → I' 47 3 = nI ((25 + 1) % 40) → I' 47 4 = nI (eh_u u) → Q none (em_SH, I', J, em_RT lw)) : em_call (d + 1) 17 [.ref 47, .ref 42] (em_SH, I, J, em_RT lw) Q := by
  iterate 4 refine em_next rfl ?_
  refine em_aaE (k := 25) (b := 176) rfl rfl hK (by decide) (by decide) rfl ?_
  iterate 1 refine em_next rfl ?_
  refine em_inv_call rfl (ce_cpIn_past25 (fun I1 a1 a2 => ?_))
  have e1 : I1 47 3 + 1 = nI (25 + 1) := by rw [a1 _ (by decide), hK]; exact (nI_succ 25).symm
  have e2 : I1 47 4 = nI u := by rw [a1 _ (by decide)]; exact hZ
  iterate 7 refine em_next rfl ?_
  refine em_tp (em_remE e1 (by decide)) ?_
  iterate 8 refine em_next rfl ?_
  refine em_tp (em_min40 e2 hu) ?_
  iterate 1 refine em_next rfl ?_
  refine em_done rfl ?_
  show Q none (em_SH, em_u (em_u I1 47 3 (nI ((25 + 1) % 40))) 47 4 (nI (eh_u u)), J, em_RT lw)
  refine h _ (fun a h1 h2 => ?_) (fun n W hn hc => (a2 n W hn hc).keep (fun a z1 z2 => ?_)) ?_ ?_
  · rw [em_u_row h1, em_u_row h1]; exact a1 a h2
  · rw [em_u_row (by omega), em_u_row (by omega)]
  · rw [em_u_ne (by decide), em_u_self]
  · exact em_u_self
theorem ce_last_past25 {j : Nat} (hj : j < 40) (hK : (j + 39) % 40 = 25) (hN : I 47 3 = nI j) (hu : u ≤ 40) (hZ : I 47 4 = nI u) (h0 : ¬ u = 0) (h : ∀ I' : Nat → Nat → Int32, (∀ a, a ≠ 47 → ¬ (42 ≤ a ∧ a ≤ 46) → I' a = I a) → (∀ (n : Nat) (W : em_Wt), n ≤ 9 → cr I 176 n W → cr I' 42 n W) → I' 47 3 = nI 25 → I' 47 4 = nI (u - 1) → Q (some (.int 1)) (em_SH, I', J, em_RT lw)) : em_call (d + 1) 18 [.ref 47, .ref 42] (em_SH, I, J, em_RT lw) Q := by
  have e1 : I 47 3 + 40 - 1 = nI (j + 39) := by
    rw [hN, show nI j + 40 = nI (j + 39 + 1) from (em_nadd j 40).symm, nI_pred]
  iterate 3 refine em_next rfl ?_
  refine em_z_neE hZ (fun _ => ?_) (fun q => absurd ((nI_eq (b := 0) (by omega) (by decide)).mp q) h0)
  iterate 9 refine em_next rfl ?_
  refine em_tp (y := nI 25) ((em_remE e1 (by omega)).trans (by rw [hK])) ?_
  iterate 1 refine em_next rfl ?_
  show em_wp em_sc0 (d + 1) 18 _ _ _ (em_SH, em_u I 47 3 (nI 25), J, em_RT lw) Q
  iterate 5 refine em_next rfl ?_
  refine em_aaE (k := 25) (b := 176) rfl rfl (em_u_self (I := I) (a := 47) (j := 3) (x := nI 25)) (by decide) (by decide) rfl ?_
  refine em_inv_call rfl (ce_cpOut_past25 (fun I1 a1 a2 => ?_))
  have e2 : I1 47 4 - 1 = nI (u - 1) := by rw [a1 _ (by decide), em_u_ne (by decide), hZ, em_pred1 (by omega)]
  iterate 4 refine em_next rfl ?_
  refine em_next rfl ?_
  refine em_tp e2 ?_
  iterate 2 refine em_next rfl ?_
  refine em_done rfl ?_
  show Q (some (.int 1)) (em_SH, em_u I1 47 4 (nI (u - 1)), J, em_RT lw)
  refine h _ (fun a h1 h2 => ?_) (fun n W hn hc => (a2 n W hn (hc.keep (fun a z1 z2 => em_u_row (by omega)))).keep (fun a z1 z2 => em_u_row (by omega))) ?_ em_u_self
  · rw [em_u_row h1, a1 a h2, em_u_row h1]
  · rw [em_u_ne (by decide), a1 _ (by decide), em_u_self]
theorem ce_add_past26 (hK : I 47 3 = nI 26) (hu : u ≤ 40) (hZ : I 47 4 = nI u) (h : ∀ I' : Nat → Nat → Int32, (∀ a, a ≠ 47 → ¬ (181 ≤ a ∧ a ≤ 185) → I' a = I a) → (∀ (n : Nat) (W : em_Wt), n ≤ 9 → cr I 42 n W → cr I' 181 n W) → I' 47 3 = nI ((26 + 1) % 40) → I' 47 4 = nI (eh_u u) → Q none (em_SH, I', J, em_RT lw)) : em_call (d + 1) 17 [.ref 47, .ref 42] (em_SH, I, J, em_RT lw) Q := by
  iterate 4 refine em_next rfl ?_
  refine em_aaE (k := 26) (b := 181) rfl rfl hK (by decide) (by decide) rfl ?_
  iterate 1 refine em_next rfl ?_
  refine em_inv_call rfl (ce_cpIn_past26 (fun I1 a1 a2 => ?_))
  have e1 : I1 47 3 + 1 = nI (26 + 1) := by rw [a1 _ (by decide), hK]; exact (nI_succ 26).symm
  have e2 : I1 47 4 = nI u := by rw [a1 _ (by decide)]; exact hZ
  iterate 7 refine em_next rfl ?_
  refine em_tp (em_remE e1 (by decide)) ?_
  iterate 8 refine em_next rfl ?_
  refine em_tp (em_min40 e2 hu) ?_
  iterate 1 refine em_next rfl ?_
  refine em_done rfl ?_
  show Q none (em_SH, em_u (em_u I1 47 3 (nI ((26 + 1) % 40))) 47 4 (nI (eh_u u)), J, em_RT lw)
  refine h _ (fun a h1 h2 => ?_) (fun n W hn hc => (a2 n W hn hc).keep (fun a z1 z2 => ?_)) ?_ ?_
  · rw [em_u_row h1, em_u_row h1]; exact a1 a h2
  · rw [em_u_row (by omega), em_u_row (by omega)]
  · rw [em_u_ne (by decide), em_u_self]
  · exact em_u_self
theorem ce_last_past26 {j : Nat} (hj : j < 40) (hK : (j + 39) % 40 = 26) (hN : I 47 3 = nI j) (hu : u ≤ 40) (hZ : I 47 4 = nI u) (h0 : ¬ u = 0) (h : ∀ I' : Nat → Nat → Int32, (∀ a, a ≠ 47 → ¬ (42 ≤ a ∧ a ≤ 46) → I' a = I a) → (∀ (n : Nat) (W : em_Wt), n ≤ 9 → cr I 181 n W → cr I' 42 n W) → I' 47 3 = nI 26 → I' 47 4 = nI (u - 1) → Q (some (.int 1)) (em_SH, I', J, em_RT lw)) : em_call (d + 1) 18 [.ref 47, .ref 42] (em_SH, I, J, em_RT lw) Q := by
  have e1 : I 47 3 + 40 - 1 = nI (j + 39) := by
    rw [hN, show nI j + 40 = nI (j + 39 + 1) from (em_nadd j 40).symm, nI_pred]
  iterate 3 refine em_next rfl ?_
  refine em_z_neE hZ (fun _ => ?_) (fun q => absurd ((nI_eq (b := 0) (by omega) (by decide)).mp q) h0)
  iterate 9 refine em_next rfl ?_
  refine em_tp (y := nI 26) ((em_remE e1 (by omega)).trans (by rw [hK])) ?_
  iterate 1 refine em_next rfl ?_
  show em_wp em_sc0 (d + 1) 18 _ _ _ (em_SH, em_u I 47 3 (nI 26), J, em_RT lw) Q
  iterate 5 refine em_next rfl ?_
  refine em_aaE (k := 26) (b := 181) rfl rfl (em_u_self (I := I) (a := 47) (j := 3) (x := nI 26)) (by decide) (by decide) rfl ?_
  refine em_inv_call rfl (ce_cpOut_past26 (fun I1 a1 a2 => ?_))
  have e2 : I1 47 4 - 1 = nI (u - 1) := by rw [a1 _ (by decide), em_u_ne (by decide), hZ, em_pred1 (by omega)]
  iterate 4 refine em_next rfl ?_
  refine em_next rfl ?_
  refine em_tp e2 ?_
  iterate 2 refine em_next rfl ?_
  refine em_done rfl ?_
  show Q (some (.int 1)) (em_SH, em_u I1 47 4 (nI (u - 1)), J, em_RT lw)
  refine h _ (fun a h1 h2 => ?_) (fun n W hn hc => (a2 n W hn (hc.keep (fun a z1 z2 => em_u_row (by omega)))).keep (fun a z1 z2 => em_u_row (by omega))) ?_ em_u_self
  · rw [em_u_row h1, a1 a h2, em_u_row h1]
  · rw [em_u_ne (by decide), a1 _ (by decide), em_u_self]
theorem ce_add_past27 (hK : I 47 3 = nI 27) (hu : u ≤ 40) (hZ : I 47 4 = nI u) (h : ∀ I' : Nat → Nat → Int32, (∀ a, a ≠ 47 → ¬ (186 ≤ a ∧ a ≤ 190) → I' a = I a) → (∀ (n : Nat) (W : em_Wt), n ≤ 9 → cr I 42 n W → cr I' 186 n W) → I' 47 3 = nI ((27 + 1) % 40) → I' 47 4 = nI (eh_u u) → Q none (em_SH, I', J, em_RT lw)) : em_call (d + 1) 17 [.ref 47, .ref 42] (em_SH, I, J, em_RT lw) Q := by
  iterate 4 refine em_next rfl ?_
  refine em_aaE (k := 27) (b := 186) rfl rfl hK (by decide) (by decide) rfl ?_
  iterate 1 refine em_next rfl ?_
  refine em_inv_call rfl (ce_cpIn_past27 (fun I1 a1 a2 => ?_))
  have e1 : I1 47 3 + 1 = nI (27 + 1) := by rw [a1 _ (by decide), hK]; exact (nI_succ 27).symm
  have e2 : I1 47 4 = nI u := by rw [a1 _ (by decide)]; exact hZ
  iterate 7 refine em_next rfl ?_
  refine em_tp (em_remE e1 (by decide)) ?_
  iterate 8 refine em_next rfl ?_
  refine em_tp (em_min40 e2 hu) ?_
  iterate 1 refine em_next rfl ?_
  refine em_done rfl ?_
  show Q none (em_SH, em_u (em_u I1 47 3 (nI ((27 + 1) % 40))) 47 4 (nI (eh_u u)), J, em_RT lw)
  refine h _ (fun a h1 h2 => ?_) (fun n W hn hc => (a2 n W hn hc).keep (fun a z1 z2 => ?_)) ?_ ?_
  · rw [em_u_row h1, em_u_row h1]; exact a1 a h2
  · rw [em_u_row (by omega), em_u_row (by omega)]
  · rw [em_u_ne (by decide), em_u_self]
  · exact em_u_self
theorem ce_last_past27 {j : Nat} (hj : j < 40) (hK : (j + 39) % 40 = 27) (hN : I 47 3 = nI j) (hu : u ≤ 40) (hZ : I 47 4 = nI u) (h0 : ¬ u = 0) (h : ∀ I' : Nat → Nat → Int32, (∀ a, a ≠ 47 → ¬ (42 ≤ a ∧ a ≤ 46) → I' a = I a) → (∀ (n : Nat) (W : em_Wt), n ≤ 9 → cr I 186 n W → cr I' 42 n W) → I' 47 3 = nI 27 → I' 47 4 = nI (u - 1) → Q (some (.int 1)) (em_SH, I', J, em_RT lw)) : em_call (d + 1) 18 [.ref 47, .ref 42] (em_SH, I, J, em_RT lw) Q := by
  have e1 : I 47 3 + 40 - 1 = nI (j + 39) := by
    rw [hN, show nI j + 40 = nI (j + 39 + 1) from (em_nadd j 40).symm, nI_pred]
  iterate 3 refine em_next rfl ?_
  refine em_z_neE hZ (fun _ => ?_) (fun q => absurd ((nI_eq (b := 0) (by omega) (by decide)).mp q) h0)
  iterate 9 refine em_next rfl ?_
  refine em_tp (y := nI 27) ((em_remE e1 (by omega)).trans (by rw [hK])) ?_
  iterate 1 refine em_next rfl ?_
  show em_wp em_sc0 (d + 1) 18 _ _ _ (em_SH, em_u I 47 3 (nI 27), J, em_RT lw) Q
  iterate 5 refine em_next rfl ?_
  refine em_aaE (k := 27) (b := 186) rfl rfl (em_u_self (I := I) (a := 47) (j := 3) (x := nI 27)) (by decide) (by decide) rfl ?_
  refine em_inv_call rfl (ce_cpOut_past27 (fun I1 a1 a2 => ?_))
  have e2 : I1 47 4 - 1 = nI (u - 1) := by rw [a1 _ (by decide), em_u_ne (by decide), hZ, em_pred1 (by omega)]
  iterate 4 refine em_next rfl ?_
  refine em_next rfl ?_
  refine em_tp e2 ?_
  iterate 2 refine em_next rfl ?_
  refine em_done rfl ?_
  show Q (some (.int 1)) (em_SH, em_u I1 47 4 (nI (u - 1)), J, em_RT lw)
  refine h _ (fun a h1 h2 => ?_) (fun n W hn hc => (a2 n W hn (hc.keep (fun a z1 z2 => em_u_row (by omega)))).keep (fun a z1 z2 => em_u_row (by omega))) ?_ em_u_self
  · rw [em_u_row h1, a1 a h2, em_u_row h1]
  · rw [em_u_ne (by decide), a1 _ (by decide), em_u_self]
theorem ce_add_past28 (hK : I 47 3 = nI 28) (hu : u ≤ 40) (hZ : I 47 4 = nI u) (h : ∀ I' : Nat → Nat → Int32, (∀ a, a ≠ 47 → ¬ (191 ≤ a ∧ a ≤ 195) → I' a = I a) → (∀ (n : Nat) (W : em_Wt), n ≤ 9 → cr I 42 n W → cr I' 191 n W) → I' 47 3 = nI ((28 + 1) % 40) → I' 47 4 = nI (eh_u u) → Q none (em_SH, I', J, em_RT lw)) : em_call (d + 1) 17 [.ref 47, .ref 42] (em_SH, I, J, em_RT lw) Q := by
  iterate 4 refine em_next rfl ?_
  refine em_aaE (k := 28) (b := 191) rfl rfl hK (by decide) (by decide) rfl ?_
  iterate 1 refine em_next rfl ?_
  refine em_inv_call rfl (ce_cpIn_past28 (fun I1 a1 a2 => ?_))
  have e1 : I1 47 3 + 1 = nI (28 + 1) := by rw [a1 _ (by decide), hK]; exact (nI_succ 28).symm
  have e2 : I1 47 4 = nI u := by rw [a1 _ (by decide)]; exact hZ
  iterate 7 refine em_next rfl ?_
  refine em_tp (em_remE e1 (by decide)) ?_
  iterate 8 refine em_next rfl ?_
  refine em_tp (em_min40 e2 hu) ?_
  iterate 1 refine em_next rfl ?_
  refine em_done rfl ?_
  show Q none (em_SH, em_u (em_u I1 47 3 (nI ((28 + 1) % 40))) 47 4 (nI (eh_u u)), J, em_RT lw)
  refine h _ (fun a h1 h2 => ?_) (fun n W hn hc => (a2 n W hn hc).keep (fun a z1 z2 => ?_)) ?_ ?_
  · rw [em_u_row h1, em_u_row h1]; exact a1 a h2
  · rw [em_u_row (by omega), em_u_row (by omega)]
  · rw [em_u_ne (by decide), em_u_self]
  · exact em_u_self
theorem ce_last_past28 {j : Nat} (hj : j < 40) (hK : (j + 39) % 40 = 28) (hN : I 47 3 = nI j) (hu : u ≤ 40) (hZ : I 47 4 = nI u) (h0 : ¬ u = 0) (h : ∀ I' : Nat → Nat → Int32, (∀ a, a ≠ 47 → ¬ (42 ≤ a ∧ a ≤ 46) → I' a = I a) → (∀ (n : Nat) (W : em_Wt), n ≤ 9 → cr I 191 n W → cr I' 42 n W) → I' 47 3 = nI 28 → I' 47 4 = nI (u - 1) → Q (some (.int 1)) (em_SH, I', J, em_RT lw)) : em_call (d + 1) 18 [.ref 47, .ref 42] (em_SH, I, J, em_RT lw) Q := by
  have e1 : I 47 3 + 40 - 1 = nI (j + 39) := by
    rw [hN, show nI j + 40 = nI (j + 39 + 1) from (em_nadd j 40).symm, nI_pred]
  iterate 3 refine em_next rfl ?_
  refine em_z_neE hZ (fun _ => ?_) (fun q => absurd ((nI_eq (b := 0) (by omega) (by decide)).mp q) h0)
  iterate 9 refine em_next rfl ?_
  refine em_tp (y := nI 28) ((em_remE e1 (by omega)).trans (by rw [hK])) ?_
  iterate 1 refine em_next rfl ?_
  show em_wp em_sc0 (d + 1) 18 _ _ _ (em_SH, em_u I 47 3 (nI 28), J, em_RT lw) Q
  iterate 5 refine em_next rfl ?_
  refine em_aaE (k := 28) (b := 191) rfl rfl (em_u_self (I := I) (a := 47) (j := 3) (x := nI 28)) (by decide) (by decide) rfl ?_
  refine em_inv_call rfl (ce_cpOut_past28 (fun I1 a1 a2 => ?_))
  have e2 : I1 47 4 - 1 = nI (u - 1) := by rw [a1 _ (by decide), em_u_ne (by decide), hZ, em_pred1 (by omega)]
  iterate 4 refine em_next rfl ?_
  refine em_next rfl ?_
  refine em_tp e2 ?_
  iterate 2 refine em_next rfl ?_
  refine em_done rfl ?_
  show Q (some (.int 1)) (em_SH, em_u I1 47 4 (nI (u - 1)), J, em_RT lw)
  refine h _ (fun a h1 h2 => ?_) (fun n W hn hc => (a2 n W hn (hc.keep (fun a z1 z2 => em_u_row (by omega)))).keep (fun a z1 z2 => em_u_row (by omega))) ?_ em_u_self
  · rw [em_u_row h1, a1 a h2, em_u_row h1]
  · rw [em_u_ne (by decide), a1 _ (by decide), em_u_self]
theorem ce_add_past29 (hK : I 47 3 = nI 29) (hu : u ≤ 40) (hZ : I 47 4 = nI u) (h : ∀ I' : Nat → Nat → Int32, (∀ a, a ≠ 47 → ¬ (196 ≤ a ∧ a ≤ 200) → I' a = I a) → (∀ (n : Nat) (W : em_Wt), n ≤ 9 → cr I 42 n W → cr I' 196 n W) → I' 47 3 = nI ((29 + 1) % 40) → I' 47 4 = nI (eh_u u) → Q none (em_SH, I', J, em_RT lw)) : em_call (d + 1) 17 [.ref 47, .ref 42] (em_SH, I, J, em_RT lw) Q := by
  iterate 4 refine em_next rfl ?_
  refine em_aaE (k := 29) (b := 196) rfl rfl hK (by decide) (by decide) rfl ?_
  iterate 1 refine em_next rfl ?_
  refine em_inv_call rfl (ce_cpIn_past29 (fun I1 a1 a2 => ?_))
  have e1 : I1 47 3 + 1 = nI (29 + 1) := by rw [a1 _ (by decide), hK]; exact (nI_succ 29).symm
  have e2 : I1 47 4 = nI u := by rw [a1 _ (by decide)]; exact hZ
  iterate 7 refine em_next rfl ?_
  refine em_tp (em_remE e1 (by decide)) ?_
  iterate 8 refine em_next rfl ?_
  refine em_tp (em_min40 e2 hu) ?_
  iterate 1 refine em_next rfl ?_
  refine em_done rfl ?_
  show Q none (em_SH, em_u (em_u I1 47 3 (nI ((29 + 1) % 40))) 47 4 (nI (eh_u u)), J, em_RT lw)
  refine h _ (fun a h1 h2 => ?_) (fun n W hn hc => (a2 n W hn hc).keep (fun a z1 z2 => ?_)) ?_ ?_
  · rw [em_u_row h1, em_u_row h1]; exact a1 a h2
  · rw [em_u_row (by omega), em_u_row (by omega)]
  · rw [em_u_ne (by decide), em_u_self]
  · exact em_u_self
theorem ce_last_past29 {j : Nat} (hj : j < 40) (hK : (j + 39) % 40 = 29) (hN : I 47 3 = nI j) (hu : u ≤ 40) (hZ : I 47 4 = nI u) (h0 : ¬ u = 0) (h : ∀ I' : Nat → Nat → Int32, (∀ a, a ≠ 47 → ¬ (42 ≤ a ∧ a ≤ 46) → I' a = I a) → (∀ (n : Nat) (W : em_Wt), n ≤ 9 → cr I 196 n W → cr I' 42 n W) → I' 47 3 = nI 29 → I' 47 4 = nI (u - 1) → Q (some (.int 1)) (em_SH, I', J, em_RT lw)) : em_call (d + 1) 18 [.ref 47, .ref 42] (em_SH, I, J, em_RT lw) Q := by
  have e1 : I 47 3 + 40 - 1 = nI (j + 39) := by
    rw [hN, show nI j + 40 = nI (j + 39 + 1) from (em_nadd j 40).symm, nI_pred]
  iterate 3 refine em_next rfl ?_
  refine em_z_neE hZ (fun _ => ?_) (fun q => absurd ((nI_eq (b := 0) (by omega) (by decide)).mp q) h0)
  iterate 9 refine em_next rfl ?_
  refine em_tp (y := nI 29) ((em_remE e1 (by omega)).trans (by rw [hK])) ?_
  iterate 1 refine em_next rfl ?_
  show em_wp em_sc0 (d + 1) 18 _ _ _ (em_SH, em_u I 47 3 (nI 29), J, em_RT lw) Q
  iterate 5 refine em_next rfl ?_
  refine em_aaE (k := 29) (b := 196) rfl rfl (em_u_self (I := I) (a := 47) (j := 3) (x := nI 29)) (by decide) (by decide) rfl ?_
  refine em_inv_call rfl (ce_cpOut_past29 (fun I1 a1 a2 => ?_))
  have e2 : I1 47 4 - 1 = nI (u - 1) := by rw [a1 _ (by decide), em_u_ne (by decide), hZ, em_pred1 (by omega)]
  iterate 4 refine em_next rfl ?_
  refine em_next rfl ?_
  refine em_tp e2 ?_
  iterate 2 refine em_next rfl ?_
  refine em_done rfl ?_
  show Q (some (.int 1)) (em_SH, em_u I1 47 4 (nI (u - 1)), J, em_RT lw)
  refine h _ (fun a h1 h2 => ?_) (fun n W hn hc => (a2 n W hn (hc.keep (fun a z1 z2 => em_u_row (by omega)))).keep (fun a z1 z2 => em_u_row (by omega))) ?_ em_u_self
  · rw [em_u_row h1, a1 a h2, em_u_row h1]
  · rw [em_u_ne (by decide), a1 _ (by decide), em_u_self]
theorem ce_add_past30 (hK : I 47 3 = nI 30) (hu : u ≤ 40) (hZ : I 47 4 = nI u) (h : ∀ I' : Nat → Nat → Int32, (∀ a, a ≠ 47 → ¬ (201 ≤ a ∧ a ≤ 205) → I' a = I a) → (∀ (n : Nat) (W : em_Wt), n ≤ 9 → cr I 42 n W → cr I' 201 n W) → I' 47 3 = nI ((30 + 1) % 40) → I' 47 4 = nI (eh_u u) → Q none (em_SH, I', J, em_RT lw)) : em_call (d + 1) 17 [.ref 47, .ref 42] (em_SH, I, J, em_RT lw) Q := by
  iterate 4 refine em_next rfl ?_
  refine em_aaE (k := 30) (b := 201) rfl rfl hK (by decide) (by decide) rfl ?_
  iterate 1 refine em_next rfl ?_
  refine em_inv_call rfl (ce_cpIn_past30 (fun I1 a1 a2 => ?_))
  have e1 : I1 47 3 + 1 = nI (30 + 1) := by rw [a1 _ (by decide), hK]; exact (nI_succ 30).symm
  have e2 : I1 47 4 = nI u := by rw [a1 _ (by decide)]; exact hZ
  iterate 7 refine em_next rfl ?_
  refine em_tp (em_remE e1 (by decide)) ?_
  iterate 8 refine em_next rfl ?_
  refine em_tp (em_min40 e2 hu) ?_
  iterate 1 refine em_next rfl ?_
  refine em_done rfl ?_
  show Q none (em_SH, em_u (em_u I1 47 3 (nI ((30 + 1) % 40))) 47 4 (nI (eh_u u)), J, em_RT lw)
  refine h _ (fun a h1 h2 => ?_) (fun n W hn hc => (a2 n W hn hc).keep (fun a z1 z2 => ?_)) ?_ ?_
  · rw [em_u_row h1, em_u_row h1]; exact a1 a h2
  · rw [em_u_row (by omega), em_u_row (by omega)]
  · rw [em_u_ne (by decide), em_u_self]
  · exact em_u_self
theorem ce_last_past30 {j : Nat} (hj : j < 40) (hK : (j + 39) % 40 = 30) (hN : I 47 3 = nI j) (hu : u ≤ 40) (hZ : I 47 4 = nI u) (h0 : ¬ u = 0) (h : ∀ I' : Nat → Nat → Int32, (∀ a, a ≠ 47 → ¬ (42 ≤ a ∧ a ≤ 46) → I' a = I a) → (∀ (n : Nat) (W : em_Wt), n ≤ 9 → cr I 201 n W → cr I' 42 n W) → I' 47 3 = nI 30 → I' 47 4 = nI (u - 1) → Q (some (.int 1)) (em_SH, I', J, em_RT lw)) : em_call (d + 1) 18 [.ref 47, .ref 42] (em_SH, I, J, em_RT lw) Q := by
  have e1 : I 47 3 + 40 - 1 = nI (j + 39) := by
    rw [hN, show nI j + 40 = nI (j + 39 + 1) from (em_nadd j 40).symm, nI_pred]
  iterate 3 refine em_next rfl ?_
  refine em_z_neE hZ (fun _ => ?_) (fun q => absurd ((nI_eq (b := 0) (by omega) (by decide)).mp q) h0)
  iterate 9 refine em_next rfl ?_
  refine em_tp (y := nI 30) ((em_remE e1 (by omega)).trans (by rw [hK])) ?_
  iterate 1 refine em_next rfl ?_
  show em_wp em_sc0 (d + 1) 18 _ _ _ (em_SH, em_u I 47 3 (nI 30), J, em_RT lw) Q
  iterate 5 refine em_next rfl ?_
  refine em_aaE (k := 30) (b := 201) rfl rfl (em_u_self (I := I) (a := 47) (j := 3) (x := nI 30)) (by decide) (by decide) rfl ?_
  refine em_inv_call rfl (ce_cpOut_past30 (fun I1 a1 a2 => ?_))
  have e2 : I1 47 4 - 1 = nI (u - 1) := by rw [a1 _ (by decide), em_u_ne (by decide), hZ, em_pred1 (by omega)]
  iterate 4 refine em_next rfl ?_
  refine em_next rfl ?_
  refine em_tp e2 ?_
  iterate 2 refine em_next rfl ?_
  refine em_done rfl ?_
  show Q (some (.int 1)) (em_SH, em_u I1 47 4 (nI (u - 1)), J, em_RT lw)
  refine h _ (fun a h1 h2 => ?_) (fun n W hn hc => (a2 n W hn (hc.keep (fun a z1 z2 => em_u_row (by omega)))).keep (fun a z1 z2 => em_u_row (by omega))) ?_ em_u_self
  · rw [em_u_row h1, a1 a h2, em_u_row h1]
  · rw [em_u_ne (by decide), a1 _ (by decide), em_u_self]
theorem ce_add_past31 (hK : I 47 3 = nI 31) (hu : u ≤ 40) (hZ : I 47 4 = nI u) (h : ∀ I' : Nat → Nat → Int32, (∀ a, a ≠ 47 → ¬ (206 ≤ a ∧ a ≤ 210) → I' a = I a) → (∀ (n : Nat) (W : em_Wt), n ≤ 9 → cr I 42 n W → cr I' 206 n W) → I' 47 3 = nI ((31 + 1) % 40) → I' 47 4 = nI (eh_u u) → Q none (em_SH, I', J, em_RT lw)) : em_call (d + 1) 17 [.ref 47, .ref 42] (em_SH, I, J, em_RT lw) Q := by
  iterate 4 refine em_next rfl ?_
  refine em_aaE (k := 31) (b := 206) rfl rfl hK (by decide) (by decide) rfl ?_
  iterate 1 refine em_next rfl ?_
  refine em_inv_call rfl (ce_cpIn_past31 (fun I1 a1 a2 => ?_))
  have e1 : I1 47 3 + 1 = nI (31 + 1) := by rw [a1 _ (by decide), hK]; exact (nI_succ 31).symm
  have e2 : I1 47 4 = nI u := by rw [a1 _ (by decide)]; exact hZ
  iterate 7 refine em_next rfl ?_
  refine em_tp (em_remE e1 (by decide)) ?_
  iterate 8 refine em_next rfl ?_
  refine em_tp (em_min40 e2 hu) ?_
  iterate 1 refine em_next rfl ?_
  refine em_done rfl ?_
  show Q none (em_SH, em_u (em_u I1 47 3 (nI ((31 + 1) % 40))) 47 4 (nI (eh_u u)), J, em_RT lw)
  refine h _ (fun a h1 h2 => ?_) (fun n W hn hc => (a2 n W hn hc).keep (fun a z1 z2 => ?_)) ?_ ?_
  · rw [em_u_row h1, em_u_row h1]; exact a1 a h2
  · rw [em_u_row (by omega), em_u_row (by omega)]
  · rw [em_u_ne (by decide), em_u_self]
  · exact em_u_self
theorem ce_last_past31 {j : Nat} (hj : j < 40) (hK : (j + 39) % 40 = 31) (hN : I 47 3 = nI j) (hu : u ≤ 40) (hZ : I 47 4 = nI u) (h0 : ¬ u = 0) (h : ∀ I' : Nat → Nat → Int32, (∀ a, a ≠ 47 → ¬ (42 ≤ a ∧ a ≤ 46) → I' a = I a) → (∀ (n : Nat) (W : em_Wt), n ≤ 9 → cr I 206 n W → cr I' 42 n W) → I' 47 3 = nI 31 → I' 47 4 = nI (u - 1) → Q (some (.int 1)) (em_SH, I', J, em_RT lw)) : em_call (d + 1) 18 [.ref 47, .ref 42] (em_SH, I, J, em_RT lw) Q := by
  have e1 : I 47 3 + 40 - 1 = nI (j + 39) := by
    rw [hN, show nI j + 40 = nI (j + 39 + 1) from (em_nadd j 40).symm, nI_pred]
  iterate 3 refine em_next rfl ?_
  refine em_z_neE hZ (fun _ => ?_) (fun q => absurd ((nI_eq (b := 0) (by omega) (by decide)).mp q) h0)
  iterate 9 refine em_next rfl ?_
  refine em_tp (y := nI 31) ((em_remE e1 (by omega)).trans (by rw [hK])) ?_
  iterate 1 refine em_next rfl ?_
  show em_wp em_sc0 (d + 1) 18 _ _ _ (em_SH, em_u I 47 3 (nI 31), J, em_RT lw) Q
  iterate 5 refine em_next rfl ?_
  refine em_aaE (k := 31) (b := 206) rfl rfl (em_u_self (I := I) (a := 47) (j := 3) (x := nI 31)) (by decide) (by decide) rfl ?_
  refine em_inv_call rfl (ce_cpOut_past31 (fun I1 a1 a2 => ?_))
  have e2 : I1 47 4 - 1 = nI (u - 1) := by rw [a1 _ (by decide), em_u_ne (by decide), hZ, em_pred1 (by omega)]
  iterate 4 refine em_next rfl ?_
  refine em_next rfl ?_
  refine em_tp e2 ?_
  iterate 2 refine em_next rfl ?_
  refine em_done rfl ?_
  show Q (some (.int 1)) (em_SH, em_u I1 47 4 (nI (u - 1)), J, em_RT lw)
  refine h _ (fun a h1 h2 => ?_) (fun n W hn hc => (a2 n W hn (hc.keep (fun a z1 z2 => em_u_row (by omega)))).keep (fun a z1 z2 => em_u_row (by omega))) ?_ em_u_self
  · rw [em_u_row h1, a1 a h2, em_u_row h1]
  · rw [em_u_ne (by decide), a1 _ (by decide), em_u_self]
theorem ce_add_past32 (hK : I 47 3 = nI 32) (hu : u ≤ 40) (hZ : I 47 4 = nI u) (h : ∀ I' : Nat → Nat → Int32, (∀ a, a ≠ 47 → ¬ (211 ≤ a ∧ a ≤ 215) → I' a = I a) → (∀ (n : Nat) (W : em_Wt), n ≤ 9 → cr I 42 n W → cr I' 211 n W) → I' 47 3 = nI ((32 + 1) % 40) → I' 47 4 = nI (eh_u u) → Q none (em_SH, I', J, em_RT lw)) : em_call (d + 1) 17 [.ref 47, .ref 42] (em_SH, I, J, em_RT lw) Q := by
  iterate 4 refine em_next rfl ?_
  refine em_aaE (k := 32) (b := 211) rfl rfl hK (by decide) (by decide) rfl ?_
  iterate 1 refine em_next rfl ?_
  refine em_inv_call rfl (ce_cpIn_past32 (fun I1 a1 a2 => ?_))
  have e1 : I1 47 3 + 1 = nI (32 + 1) := by rw [a1 _ (by decide), hK]; exact (nI_succ 32).symm
  have e2 : I1 47 4 = nI u := by rw [a1 _ (by decide)]; exact hZ
  iterate 7 refine em_next rfl ?_
  refine em_tp (em_remE e1 (by decide)) ?_
  iterate 8 refine em_next rfl ?_
  refine em_tp (em_min40 e2 hu) ?_
  iterate 1 refine em_next rfl ?_
  refine em_done rfl ?_
  show Q none (em_SH, em_u (em_u I1 47 3 (nI ((32 + 1) % 40))) 47 4 (nI (eh_u u)), J, em_RT lw)
  refine h _ (fun a h1 h2 => ?_) (fun n W hn hc => (a2 n W hn hc).keep (fun a z1 z2 => ?_)) ?_ ?_
  · rw [em_u_row h1, em_u_row h1]; exact a1 a h2
  · rw [em_u_row (by omega), em_u_row (by omega)]
  · rw [em_u_ne (by decide), em_u_self]
  · exact em_u_self
theorem ce_last_past32 {j : Nat} (hj : j < 40) (hK : (j + 39) % 40 = 32) (hN : I 47 3 = nI j) (hu : u ≤ 40) (hZ : I 47 4 = nI u) (h0 : ¬ u = 0) (h : ∀ I' : Nat → Nat → Int32, (∀ a, a ≠ 47 → ¬ (42 ≤ a ∧ a ≤ 46) → I' a = I a) → (∀ (n : Nat) (W : em_Wt), n ≤ 9 → cr I 211 n W → cr I' 42 n W) → I' 47 3 = nI 32 → I' 47 4 = nI (u - 1) → Q (some (.int 1)) (em_SH, I', J, em_RT lw)) : em_call (d + 1) 18 [.ref 47, .ref 42] (em_SH, I, J, em_RT lw) Q := by
  have e1 : I 47 3 + 40 - 1 = nI (j + 39) := by
    rw [hN, show nI j + 40 = nI (j + 39 + 1) from (em_nadd j 40).symm, nI_pred]
  iterate 3 refine em_next rfl ?_
  refine em_z_neE hZ (fun _ => ?_) (fun q => absurd ((nI_eq (b := 0) (by omega) (by decide)).mp q) h0)
  iterate 9 refine em_next rfl ?_
  refine em_tp (y := nI 32) ((em_remE e1 (by omega)).trans (by rw [hK])) ?_
  iterate 1 refine em_next rfl ?_
  show em_wp em_sc0 (d + 1) 18 _ _ _ (em_SH, em_u I 47 3 (nI 32), J, em_RT lw) Q
  iterate 5 refine em_next rfl ?_
  refine em_aaE (k := 32) (b := 211) rfl rfl (em_u_self (I := I) (a := 47) (j := 3) (x := nI 32)) (by decide) (by decide) rfl ?_
  refine em_inv_call rfl (ce_cpOut_past32 (fun I1 a1 a2 => ?_))
  have e2 : I1 47 4 - 1 = nI (u - 1) := by rw [a1 _ (by decide), em_u_ne (by decide), hZ, em_pred1 (by omega)]
  iterate 4 refine em_next rfl ?_
  refine em_next rfl ?_
  refine em_tp e2 ?_
  iterate 2 refine em_next rfl ?_
  refine em_done rfl ?_
  show Q (some (.int 1)) (em_SH, em_u I1 47 4 (nI (u - 1)), J, em_RT lw)
  refine h _ (fun a h1 h2 => ?_) (fun n W hn hc => (a2 n W hn (hc.keep (fun a z1 z2 => em_u_row (by omega)))).keep (fun a z1 z2 => em_u_row (by omega))) ?_ em_u_self
  · rw [em_u_row h1, a1 a h2, em_u_row h1]
  · rw [em_u_ne (by decide), a1 _ (by decide), em_u_self]
theorem ce_add_past33 (hK : I 47 3 = nI 33) (hu : u ≤ 40) (hZ : I 47 4 = nI u) (h : ∀ I' : Nat → Nat → Int32, (∀ a, a ≠ 47 → ¬ (216 ≤ a ∧ a ≤ 220) → I' a = I a) → (∀ (n : Nat) (W : em_Wt), n ≤ 9 → cr I 42 n W → cr I' 216 n W) → I' 47 3 = nI ((33 + 1) % 40) → I' 47 4 = nI (eh_u u) → Q none (em_SH, I', J, em_RT lw)) : em_call (d + 1) 17 [.ref 47, .ref 42] (em_SH, I, J, em_RT lw) Q := by
  iterate 4 refine em_next rfl ?_
  refine em_aaE (k := 33) (b := 216) rfl rfl hK (by decide) (by decide) rfl ?_
  iterate 1 refine em_next rfl ?_
  refine em_inv_call rfl (ce_cpIn_past33 (fun I1 a1 a2 => ?_))
  have e1 : I1 47 3 + 1 = nI (33 + 1) := by rw [a1 _ (by decide), hK]; exact (nI_succ 33).symm
  have e2 : I1 47 4 = nI u := by rw [a1 _ (by decide)]; exact hZ
  iterate 7 refine em_next rfl ?_
  refine em_tp (em_remE e1 (by decide)) ?_
  iterate 8 refine em_next rfl ?_
  refine em_tp (em_min40 e2 hu) ?_
  iterate 1 refine em_next rfl ?_
  refine em_done rfl ?_
  show Q none (em_SH, em_u (em_u I1 47 3 (nI ((33 + 1) % 40))) 47 4 (nI (eh_u u)), J, em_RT lw)
  refine h _ (fun a h1 h2 => ?_) (fun n W hn hc => (a2 n W hn hc).keep (fun a z1 z2 => ?_)) ?_ ?_
  · rw [em_u_row h1, em_u_row h1]; exact a1 a h2
  · rw [em_u_row (by omega), em_u_row (by omega)]
  · rw [em_u_ne (by decide), em_u_self]
  · exact em_u_self
theorem ce_last_past33 {j : Nat} (hj : j < 40) (hK : (j + 39) % 40 = 33) (hN : I 47 3 = nI j) (hu : u ≤ 40) (hZ : I 47 4 = nI u) (h0 : ¬ u = 0) (h : ∀ I' : Nat → Nat → Int32, (∀ a, a ≠ 47 → ¬ (42 ≤ a ∧ a ≤ 46) → I' a = I a) → (∀ (n : Nat) (W : em_Wt), n ≤ 9 → cr I 216 n W → cr I' 42 n W) → I' 47 3 = nI 33 → I' 47 4 = nI (u - 1) → Q (some (.int 1)) (em_SH, I', J, em_RT lw)) : em_call (d + 1) 18 [.ref 47, .ref 42] (em_SH, I, J, em_RT lw) Q := by
  have e1 : I 47 3 + 40 - 1 = nI (j + 39) := by
    rw [hN, show nI j + 40 = nI (j + 39 + 1) from (em_nadd j 40).symm, nI_pred]
  iterate 3 refine em_next rfl ?_
  refine em_z_neE hZ (fun _ => ?_) (fun q => absurd ((nI_eq (b := 0) (by omega) (by decide)).mp q) h0)
  iterate 9 refine em_next rfl ?_
  refine em_tp (y := nI 33) ((em_remE e1 (by omega)).trans (by rw [hK])) ?_
  iterate 1 refine em_next rfl ?_
  show em_wp em_sc0 (d + 1) 18 _ _ _ (em_SH, em_u I 47 3 (nI 33), J, em_RT lw) Q
  iterate 5 refine em_next rfl ?_
  refine em_aaE (k := 33) (b := 216) rfl rfl (em_u_self (I := I) (a := 47) (j := 3) (x := nI 33)) (by decide) (by decide) rfl ?_
  refine em_inv_call rfl (ce_cpOut_past33 (fun I1 a1 a2 => ?_))
  have e2 : I1 47 4 - 1 = nI (u - 1) := by rw [a1 _ (by decide), em_u_ne (by decide), hZ, em_pred1 (by omega)]
  iterate 4 refine em_next rfl ?_
  refine em_next rfl ?_
  refine em_tp e2 ?_
  iterate 2 refine em_next rfl ?_
  refine em_done rfl ?_
  show Q (some (.int 1)) (em_SH, em_u I1 47 4 (nI (u - 1)), J, em_RT lw)
  refine h _ (fun a h1 h2 => ?_) (fun n W hn hc => (a2 n W hn (hc.keep (fun a z1 z2 => em_u_row (by omega)))).keep (fun a z1 z2 => em_u_row (by omega))) ?_ em_u_self
  · rw [em_u_row h1, a1 a h2, em_u_row h1]
  · rw [em_u_ne (by decide), a1 _ (by decide), em_u_self]
theorem ce_add_past34 (hK : I 47 3 = nI 34) (hu : u ≤ 40) (hZ : I 47 4 = nI u) (h : ∀ I' : Nat → Nat → Int32, (∀ a, a ≠ 47 → ¬ (221 ≤ a ∧ a ≤ 225) → I' a = I a) → (∀ (n : Nat) (W : em_Wt), n ≤ 9 → cr I 42 n W → cr I' 221 n W) → I' 47 3 = nI ((34 + 1) % 40) → I' 47 4 = nI (eh_u u) → Q none (em_SH, I', J, em_RT lw)) : em_call (d + 1) 17 [.ref 47, .ref 42] (em_SH, I, J, em_RT lw) Q := by
  iterate 4 refine em_next rfl ?_
  refine em_aaE (k := 34) (b := 221) rfl rfl hK (by decide) (by decide) rfl ?_
  iterate 1 refine em_next rfl ?_
  refine em_inv_call rfl (ce_cpIn_past34 (fun I1 a1 a2 => ?_))
  have e1 : I1 47 3 + 1 = nI (34 + 1) := by rw [a1 _ (by decide), hK]; exact (nI_succ 34).symm
  have e2 : I1 47 4 = nI u := by rw [a1 _ (by decide)]; exact hZ
  iterate 7 refine em_next rfl ?_
  refine em_tp (em_remE e1 (by decide)) ?_
  iterate 8 refine em_next rfl ?_
  refine em_tp (em_min40 e2 hu) ?_
  iterate 1 refine em_next rfl ?_
  refine em_done rfl ?_
  show Q none (em_SH, em_u (em_u I1 47 3 (nI ((34 + 1) % 40))) 47 4 (nI (eh_u u)), J, em_RT lw)
  refine h _ (fun a h1 h2 => ?_) (fun n W hn hc => (a2 n W hn hc).keep (fun a z1 z2 => ?_)) ?_ ?_
  · rw [em_u_row h1, em_u_row h1]; exact a1 a h2
  · rw [em_u_row (by omega), em_u_row (by omega)]
  · rw [em_u_ne (by decide), em_u_self]
  · exact em_u_self
theorem ce_last_past34 {j : Nat} (hj : j < 40) (hK : (j + 39) % 40 = 34) (hN : I 47 3 = nI j) (hu : u ≤ 40) (hZ : I 47 4 = nI u) (h0 : ¬ u = 0) (h : ∀ I' : Nat → Nat → Int32, (∀ a, a ≠ 47 → ¬ (42 ≤ a ∧ a ≤ 46) → I' a = I a) → (∀ (n : Nat) (W : em_Wt), n ≤ 9 → cr I 221 n W → cr I' 42 n W) → I' 47 3 = nI 34 → I' 47 4 = nI (u - 1) → Q (some (.int 1)) (em_SH, I', J, em_RT lw)) : em_call (d + 1) 18 [.ref 47, .ref 42] (em_SH, I, J, em_RT lw) Q := by
  have e1 : I 47 3 + 40 - 1 = nI (j + 39) := by
    rw [hN, show nI j + 40 = nI (j + 39 + 1) from (em_nadd j 40).symm, nI_pred]
  iterate 3 refine em_next rfl ?_
  refine em_z_neE hZ (fun _ => ?_) (fun q => absurd ((nI_eq (b := 0) (by omega) (by decide)).mp q) h0)
  iterate 9 refine em_next rfl ?_
  refine em_tp (y := nI 34) ((em_remE e1 (by omega)).trans (by rw [hK])) ?_
  iterate 1 refine em_next rfl ?_
  show em_wp em_sc0 (d + 1) 18 _ _ _ (em_SH, em_u I 47 3 (nI 34), J, em_RT lw) Q
  iterate 5 refine em_next rfl ?_
  refine em_aaE (k := 34) (b := 221) rfl rfl (em_u_self (I := I) (a := 47) (j := 3) (x := nI 34)) (by decide) (by decide) rfl ?_
  refine em_inv_call rfl (ce_cpOut_past34 (fun I1 a1 a2 => ?_))
  have e2 : I1 47 4 - 1 = nI (u - 1) := by rw [a1 _ (by decide), em_u_ne (by decide), hZ, em_pred1 (by omega)]
  iterate 4 refine em_next rfl ?_
  refine em_next rfl ?_
  refine em_tp e2 ?_
  iterate 2 refine em_next rfl ?_
  refine em_done rfl ?_
  show Q (some (.int 1)) (em_SH, em_u I1 47 4 (nI (u - 1)), J, em_RT lw)
  refine h _ (fun a h1 h2 => ?_) (fun n W hn hc => (a2 n W hn (hc.keep (fun a z1 z2 => em_u_row (by omega)))).keep (fun a z1 z2 => em_u_row (by omega))) ?_ em_u_self
  · rw [em_u_row h1, a1 a h2, em_u_row h1]
  · rw [em_u_ne (by decide), a1 _ (by decide), em_u_self]
theorem ce_add_past35 (hK : I 47 3 = nI 35) (hu : u ≤ 40) (hZ : I 47 4 = nI u) (h : ∀ I' : Nat → Nat → Int32, (∀ a, a ≠ 47 → ¬ (226 ≤ a ∧ a ≤ 230) → I' a = I a) → (∀ (n : Nat) (W : em_Wt), n ≤ 9 → cr I 42 n W → cr I' 226 n W) → I' 47 3 = nI ((35 + 1) % 40) → I' 47 4 = nI (eh_u u) → Q none (em_SH, I', J, em_RT lw)) : em_call (d + 1) 17 [.ref 47, .ref 42] (em_SH, I, J, em_RT lw) Q := by
  iterate 4 refine em_next rfl ?_
  refine em_aaE (k := 35) (b := 226) rfl rfl hK (by decide) (by decide) rfl ?_
  iterate 1 refine em_next rfl ?_
  refine em_inv_call rfl (ce_cpIn_past35 (fun I1 a1 a2 => ?_))
  have e1 : I1 47 3 + 1 = nI (35 + 1) := by rw [a1 _ (by decide), hK]; exact (nI_succ 35).symm
  have e2 : I1 47 4 = nI u := by rw [a1 _ (by decide)]; exact hZ
  iterate 7 refine em_next rfl ?_
  refine em_tp (em_remE e1 (by decide)) ?_
  iterate 8 refine em_next rfl ?_
  refine em_tp (em_min40 e2 hu) ?_
  iterate 1 refine em_next rfl ?_
  refine em_done rfl ?_
  show Q none (em_SH, em_u (em_u I1 47 3 (nI ((35 + 1) % 40))) 47 4 (nI (eh_u u)), J, em_RT lw)
  refine h _ (fun a h1 h2 => ?_) (fun n W hn hc => (a2 n W hn hc).keep (fun a z1 z2 => ?_)) ?_ ?_
  · rw [em_u_row h1, em_u_row h1]; exact a1 a h2
  · rw [em_u_row (by omega), em_u_row (by omega)]
  · rw [em_u_ne (by decide), em_u_self]
  · exact em_u_self
theorem ce_last_past35 {j : Nat} (hj : j < 40) (hK : (j + 39) % 40 = 35) (hN : I 47 3 = nI j) (hu : u ≤ 40) (hZ : I 47 4 = nI u) (h0 : ¬ u = 0) (h : ∀ I' : Nat → Nat → Int32, (∀ a, a ≠ 47 → ¬ (42 ≤ a ∧ a ≤ 46) → I' a = I a) → (∀ (n : Nat) (W : em_Wt), n ≤ 9 → cr I 226 n W → cr I' 42 n W) → I' 47 3 = nI 35 → I' 47 4 = nI (u - 1) → Q (some (.int 1)) (em_SH, I', J, em_RT lw)) : em_call (d + 1) 18 [.ref 47, .ref 42] (em_SH, I, J, em_RT lw) Q := by
  have e1 : I 47 3 + 40 - 1 = nI (j + 39) := by
    rw [hN, show nI j + 40 = nI (j + 39 + 1) from (em_nadd j 40).symm, nI_pred]
  iterate 3 refine em_next rfl ?_
  refine em_z_neE hZ (fun _ => ?_) (fun q => absurd ((nI_eq (b := 0) (by omega) (by decide)).mp q) h0)
  iterate 9 refine em_next rfl ?_
  refine em_tp (y := nI 35) ((em_remE e1 (by omega)).trans (by rw [hK])) ?_
  iterate 1 refine em_next rfl ?_
  show em_wp em_sc0 (d + 1) 18 _ _ _ (em_SH, em_u I 47 3 (nI 35), J, em_RT lw) Q
  iterate 5 refine em_next rfl ?_
  refine em_aaE (k := 35) (b := 226) rfl rfl (em_u_self (I := I) (a := 47) (j := 3) (x := nI 35)) (by decide) (by decide) rfl ?_
  refine em_inv_call rfl (ce_cpOut_past35 (fun I1 a1 a2 => ?_))
  have e2 : I1 47 4 - 1 = nI (u - 1) := by rw [a1 _ (by decide), em_u_ne (by decide), hZ, em_pred1 (by omega)]
  iterate 4 refine em_next rfl ?_
  refine em_next rfl ?_
  refine em_tp e2 ?_
  iterate 2 refine em_next rfl ?_
  refine em_done rfl ?_
  show Q (some (.int 1)) (em_SH, em_u I1 47 4 (nI (u - 1)), J, em_RT lw)
  refine h _ (fun a h1 h2 => ?_) (fun n W hn hc => (a2 n W hn (hc.keep (fun a z1 z2 => em_u_row (by omega)))).keep (fun a z1 z2 => em_u_row (by omega))) ?_ em_u_self
  · rw [em_u_row h1, a1 a h2, em_u_row h1]
  · rw [em_u_ne (by decide), a1 _ (by decide), em_u_self]
theorem ce_add_past36 (hK : I 47 3 = nI 36) (hu : u ≤ 40) (hZ : I 47 4 = nI u) (h : ∀ I' : Nat → Nat → Int32, (∀ a, a ≠ 47 → ¬ (231 ≤ a ∧ a ≤ 235) → I' a = I a) → (∀ (n : Nat) (W : em_Wt), n ≤ 9 → cr I 42 n W → cr I' 231 n W) → I' 47 3 = nI ((36 + 1) % 40) → I' 47 4 = nI (eh_u u) → Q none (em_SH, I', J, em_RT lw)) : em_call (d + 1) 17 [.ref 47, .ref 42] (em_SH, I, J, em_RT lw) Q := by
  iterate 4 refine em_next rfl ?_
  refine em_aaE (k := 36) (b := 231) rfl rfl hK (by decide) (by decide) rfl ?_
  iterate 1 refine em_next rfl ?_
  refine em_inv_call rfl (ce_cpIn_past36 (fun I1 a1 a2 => ?_))
  have e1 : I1 47 3 + 1 = nI (36 + 1) := by rw [a1 _ (by decide), hK]; exact (nI_succ 36).symm
  have e2 : I1 47 4 = nI u := by rw [a1 _ (by decide)]; exact hZ
  iterate 7 refine em_next rfl ?_
  refine em_tp (em_remE e1 (by decide)) ?_
  iterate 8 refine em_next rfl ?_
  refine em_tp (em_min40 e2 hu) ?_
  iterate 1 refine em_next rfl ?_
  refine em_done rfl ?_
  show Q none (em_SH, em_u (em_u I1 47 3 (nI ((36 + 1) % 40))) 47 4 (nI (eh_u u)), J, em_RT lw)
  refine h _ (fun a h1 h2 => ?_) (fun n W hn hc => (a2 n W hn hc).keep (fun a z1 z2 => ?_)) ?_ ?_
  · rw [em_u_row h1, em_u_row h1]; exact a1 a h2
  · rw [em_u_row (by omega), em_u_row (by omega)]
  · rw [em_u_ne (by decide), em_u_self]
  · exact em_u_self
theorem ce_last_past36 {j : Nat} (hj : j < 40) (hK : (j + 39) % 40 = 36) (hN : I 47 3 = nI j) (hu : u ≤ 40) (hZ : I 47 4 = nI u) (h0 : ¬ u = 0) (h : ∀ I' : Nat → Nat → Int32, (∀ a, a ≠ 47 → ¬ (42 ≤ a ∧ a ≤ 46) → I' a = I a) → (∀ (n : Nat) (W : em_Wt), n ≤ 9 → cr I 231 n W → cr I' 42 n W) → I' 47 3 = nI 36 → I' 47 4 = nI (u - 1) → Q (some (.int 1)) (em_SH, I', J, em_RT lw)) : em_call (d + 1) 18 [.ref 47, .ref 42] (em_SH, I, J, em_RT lw) Q := by
  have e1 : I 47 3 + 40 - 1 = nI (j + 39) := by
    rw [hN, show nI j + 40 = nI (j + 39 + 1) from (em_nadd j 40).symm, nI_pred]
  iterate 3 refine em_next rfl ?_
  refine em_z_neE hZ (fun _ => ?_) (fun q => absurd ((nI_eq (b := 0) (by omega) (by decide)).mp q) h0)
  iterate 9 refine em_next rfl ?_
  refine em_tp (y := nI 36) ((em_remE e1 (by omega)).trans (by rw [hK])) ?_
  iterate 1 refine em_next rfl ?_
  show em_wp em_sc0 (d + 1) 18 _ _ _ (em_SH, em_u I 47 3 (nI 36), J, em_RT lw) Q
  iterate 5 refine em_next rfl ?_
  refine em_aaE (k := 36) (b := 231) rfl rfl (em_u_self (I := I) (a := 47) (j := 3) (x := nI 36)) (by decide) (by decide) rfl ?_
  refine em_inv_call rfl (ce_cpOut_past36 (fun I1 a1 a2 => ?_))
  have e2 : I1 47 4 - 1 = nI (u - 1) := by rw [a1 _ (by decide), em_u_ne (by decide), hZ, em_pred1 (by omega)]
  iterate 4 refine em_next rfl ?_
  refine em_next rfl ?_
  refine em_tp e2 ?_
  iterate 2 refine em_next rfl ?_
  refine em_done rfl ?_
  show Q (some (.int 1)) (em_SH, em_u I1 47 4 (nI (u - 1)), J, em_RT lw)
  refine h _ (fun a h1 h2 => ?_) (fun n W hn hc => (a2 n W hn (hc.keep (fun a z1 z2 => em_u_row (by omega)))).keep (fun a z1 z2 => em_u_row (by omega))) ?_ em_u_self
  · rw [em_u_row h1, a1 a h2, em_u_row h1]
  · rw [em_u_ne (by decide), a1 _ (by decide), em_u_self]
theorem ce_add_past37 (hK : I 47 3 = nI 37) (hu : u ≤ 40) (hZ : I 47 4 = nI u) (h : ∀ I' : Nat → Nat → Int32, (∀ a, a ≠ 47 → ¬ (236 ≤ a ∧ a ≤ 240) → I' a = I a) → (∀ (n : Nat) (W : em_Wt), n ≤ 9 → cr I 42 n W → cr I' 236 n W) → I' 47 3 = nI ((37 + 1) % 40) → I' 47 4 = nI (eh_u u) → Q none (em_SH, I', J, em_RT lw)) : em_call (d + 1) 17 [.ref 47, .ref 42] (em_SH, I, J, em_RT lw) Q := by
  iterate 4 refine em_next rfl ?_
  refine em_aaE (k := 37) (b := 236) rfl rfl hK (by decide) (by decide) rfl ?_
  iterate 1 refine em_next rfl ?_
  refine em_inv_call rfl (ce_cpIn_past37 (fun I1 a1 a2 => ?_))
  have e1 : I1 47 3 + 1 = nI (37 + 1) := by rw [a1 _ (by decide), hK]; exact (nI_succ 37).symm
  have e2 : I1 47 4 = nI u := by rw [a1 _ (by decide)]; exact hZ
  iterate 7 refine em_next rfl ?_
  refine em_tp (em_remE e1 (by decide)) ?_
  iterate 8 refine em_next rfl ?_
  refine em_tp (em_min40 e2 hu) ?_
  iterate 1 refine em_next rfl ?_
  refine em_done rfl ?_
  show Q none (em_SH, em_u (em_u I1 47 3 (nI ((37 + 1) % 40))) 47 4 (nI (eh_u u)), J, em_RT lw)
  refine h _ (fun a h1 h2 => ?_) (fun n W hn hc => (a2 n W hn hc).keep (fun a z1 z2 => ?_)) ?_ ?_
  · rw [em_u_row h1, em_u_row h1]; exact a1 a h2
  · rw [em_u_row (by omega), em_u_row (by omega)]
  · rw [em_u_ne (by decide), em_u_self]
  · exact em_u_self
theorem ce_last_past37 {j : Nat} (hj : j < 40) (hK : (j + 39) % 40 = 37) (hN : I 47 3 = nI j) (hu : u ≤ 40) (hZ : I 47 4 = nI u) (h0 : ¬ u = 0) (h : ∀ I' : Nat → Nat → Int32, (∀ a, a ≠ 47 → ¬ (42 ≤ a ∧ a ≤ 46) → I' a = I a) → (∀ (n : Nat) (W : em_Wt), n ≤ 9 → cr I 236 n W → cr I' 42 n W) → I' 47 3 = nI 37 → I' 47 4 = nI (u - 1) → Q (some (.int 1)) (em_SH, I', J, em_RT lw)) : em_call (d + 1) 18 [.ref 47, .ref 42] (em_SH, I, J, em_RT lw) Q := by
  have e1 : I 47 3 + 40 - 1 = nI (j + 39) := by
    rw [hN, show nI j + 40 = nI (j + 39 + 1) from (em_nadd j 40).symm, nI_pred]
  iterate 3 refine em_next rfl ?_
  refine em_z_neE hZ (fun _ => ?_) (fun q => absurd ((nI_eq (b := 0) (by omega) (by decide)).mp q) h0)
  iterate 9 refine em_next rfl ?_
  refine em_tp (y := nI 37) ((em_remE e1 (by omega)).trans (by rw [hK])) ?_
  iterate 1 refine em_next rfl ?_
  show em_wp em_sc0 (d + 1) 18 _ _ _ (em_SH, em_u I 47 3 (nI 37), J, em_RT lw) Q
  iterate 5 refine em_next rfl ?_
  refine em_aaE (k := 37) (b := 236) rfl rfl (em_u_self (I := I) (a := 47) (j := 3) (x := nI 37)) (by decide) (by decide) rfl ?_
  refine em_inv_call rfl (ce_cpOut_past37 (fun I1 a1 a2 => ?_))
  have e2 : I1 47 4 - 1 = nI (u - 1) := by rw [a1 _ (by decide), em_u_ne (by decide), hZ, em_pred1 (by omega)]
  iterate 4 refine em_next rfl ?_
  refine em_next rfl ?_
  refine em_tp e2 ?_
  iterate 2 refine em_next rfl ?_
  refine em_done rfl ?_
  show Q (some (.int 1)) (em_SH, em_u I1 47 4 (nI (u - 1)), J, em_RT lw)
  refine h _ (fun a h1 h2 => ?_) (fun n W hn hc => (a2 n W hn (hc.keep (fun a z1 z2 => em_u_row (by omega)))).keep (fun a z1 z2 => em_u_row (by omega))) ?_ em_u_self
  · rw [em_u_row h1, a1 a h2, em_u_row h1]
  · rw [em_u_ne (by decide), a1 _ (by decide), em_u_self]
theorem ce_add_past38 (hK : I 47 3 = nI 38) (hu : u ≤ 40) (hZ : I 47 4 = nI u) (h : ∀ I' : Nat → Nat → Int32, (∀ a, a ≠ 47 → ¬ (241 ≤ a ∧ a ≤ 245) → I' a = I a) → (∀ (n : Nat) (W : em_Wt), n ≤ 9 → cr I 42 n W → cr I' 241 n W) → I' 47 3 = nI ((38 + 1) % 40) → I' 47 4 = nI (eh_u u) → Q none (em_SH, I', J, em_RT lw)) : em_call (d + 1) 17 [.ref 47, .ref 42] (em_SH, I, J, em_RT lw) Q := by
  iterate 4 refine em_next rfl ?_
  refine em_aaE (k := 38) (b := 241) rfl rfl hK (by decide) (by decide) rfl ?_
  iterate 1 refine em_next rfl ?_
  refine em_inv_call rfl (ce_cpIn_past38 (fun I1 a1 a2 => ?_))
  have e1 : I1 47 3 + 1 = nI (38 + 1) := by rw [a1 _ (by decide), hK]; exact (nI_succ 38).symm
  have e2 : I1 47 4 = nI u := by rw [a1 _ (by decide)]; exact hZ
  iterate 7 refine em_next rfl ?_
  refine em_tp (em_remE e1 (by decide)) ?_
  iterate 8 refine em_next rfl ?_
  refine em_tp (em_min40 e2 hu) ?_
  iterate 1 refine em_next rfl ?_
  refine em_done rfl ?_
  show Q none (em_SH, em_u (em_u I1 47 3 (nI ((38 + 1) % 40))) 47 4 (nI (eh_u u)), J, em_RT lw)
  refine h _ (fun a h1 h2 => ?_) (fun n W hn hc => (a2 n W hn hc).keep (fun a z1 z2 => ?_)) ?_ ?_
  · rw [em_u_row h1, em_u_row h1]; exact a1 a h2
  · rw [em_u_row (by omega), em_u_row (by omega)]
  · rw [em_u_ne (by decide), em_u_self]
  · exact em_u_self
theorem ce_last_past38 {j : Nat} (hj : j < 40) (hK : (j + 39) % 40 = 38) (hN : I 47 3 = nI j) (hu : u ≤ 40) (hZ : I 47 4 = nI u) (h0 : ¬ u = 0) (h : ∀ I' : Nat → Nat → Int32, (∀ a, a ≠ 47 → ¬ (42 ≤ a ∧ a ≤ 46) → I' a = I a) → (∀ (n : Nat) (W : em_Wt), n ≤ 9 → cr I 241 n W → cr I' 42 n W) → I' 47 3 = nI 38 → I' 47 4 = nI (u - 1) → Q (some (.int 1)) (em_SH, I', J, em_RT lw)) : em_call (d + 1) 18 [.ref 47, .ref 42] (em_SH, I, J, em_RT lw) Q := by
  have e1 : I 47 3 + 40 - 1 = nI (j + 39) := by
    rw [hN, show nI j + 40 = nI (j + 39 + 1) from (em_nadd j 40).symm, nI_pred]
  iterate 3 refine em_next rfl ?_
  refine em_z_neE hZ (fun _ => ?_) (fun q => absurd ((nI_eq (b := 0) (by omega) (by decide)).mp q) h0)
  iterate 9 refine em_next rfl ?_
  refine em_tp (y := nI 38) ((em_remE e1 (by omega)).trans (by rw [hK])) ?_
  iterate 1 refine em_next rfl ?_
  show em_wp em_sc0 (d + 1) 18 _ _ _ (em_SH, em_u I 47 3 (nI 38), J, em_RT lw) Q
  iterate 5 refine em_next rfl ?_
  refine em_aaE (k := 38) (b := 241) rfl rfl (em_u_self (I := I) (a := 47) (j := 3) (x := nI 38)) (by decide) (by decide) rfl ?_
  refine em_inv_call rfl (ce_cpOut_past38 (fun I1 a1 a2 => ?_))
  have e2 : I1 47 4 - 1 = nI (u - 1) := by rw [a1 _ (by decide), em_u_ne (by decide), hZ, em_pred1 (by omega)]
  iterate 4 refine em_next rfl ?_
  refine em_next rfl ?_
  refine em_tp e2 ?_
  iterate 2 refine em_next rfl ?_
  refine em_done rfl ?_
  show Q (some (.int 1)) (em_SH, em_u I1 47 4 (nI (u - 1)), J, em_RT lw)
  refine h _ (fun a h1 h2 => ?_) (fun n W hn hc => (a2 n W hn (hc.keep (fun a z1 z2 => em_u_row (by omega)))).keep (fun a z1 z2 => em_u_row (by omega))) ?_ em_u_self
  · rw [em_u_row h1, a1 a h2, em_u_row h1]
  · rw [em_u_ne (by decide), a1 _ (by decide), em_u_self]
theorem ce_add_past39 (hK : I 47 3 = nI 39) (hu : u ≤ 40) (hZ : I 47 4 = nI u) (h : ∀ I' : Nat → Nat → Int32, (∀ a, a ≠ 47 → ¬ (246 ≤ a ∧ a ≤ 250) → I' a = I a) → (∀ (n : Nat) (W : em_Wt), n ≤ 9 → cr I 42 n W → cr I' 246 n W) → I' 47 3 = nI ((39 + 1) % 40) → I' 47 4 = nI (eh_u u) → Q none (em_SH, I', J, em_RT lw)) : em_call (d + 1) 17 [.ref 47, .ref 42] (em_SH, I, J, em_RT lw) Q := by
  iterate 4 refine em_next rfl ?_
  refine em_aaE (k := 39) (b := 246) rfl rfl hK (by decide) (by decide) rfl ?_
  iterate 1 refine em_next rfl ?_
  refine em_inv_call rfl (ce_cpIn_past39 (fun I1 a1 a2 => ?_))
  have e1 : I1 47 3 + 1 = nI (39 + 1) := by rw [a1 _ (by decide), hK]; exact (nI_succ 39).symm
  have e2 : I1 47 4 = nI u := by rw [a1 _ (by decide)]; exact hZ
  iterate 7 refine em_next rfl ?_
  refine em_tp (em_remE e1 (by decide)) ?_
  iterate 8 refine em_next rfl ?_
  refine em_tp (em_min40 e2 hu) ?_
  iterate 1 refine em_next rfl ?_
  refine em_done rfl ?_
  show Q none (em_SH, em_u (em_u I1 47 3 (nI ((39 + 1) % 40))) 47 4 (nI (eh_u u)), J, em_RT lw)
  refine h _ (fun a h1 h2 => ?_) (fun n W hn hc => (a2 n W hn hc).keep (fun a z1 z2 => ?_)) ?_ ?_
  · rw [em_u_row h1, em_u_row h1]; exact a1 a h2
  · rw [em_u_row (by omega), em_u_row (by omega)]
  · rw [em_u_ne (by decide), em_u_self]
  · exact em_u_self
theorem ce_last_past39 {j : Nat} (hj : j < 40) (hK : (j + 39) % 40 = 39) (hN : I 47 3 = nI j) (hu : u ≤ 40) (hZ : I 47 4 = nI u) (h0 : ¬ u = 0) (h : ∀ I' : Nat → Nat → Int32, (∀ a, a ≠ 47 → ¬ (42 ≤ a ∧ a ≤ 46) → I' a = I a) → (∀ (n : Nat) (W : em_Wt), n ≤ 9 → cr I 246 n W → cr I' 42 n W) → I' 47 3 = nI 39 → I' 47 4 = nI (u - 1) → Q (some (.int 1)) (em_SH, I', J, em_RT lw)) : em_call (d + 1) 18 [.ref 47, .ref 42] (em_SH, I, J, em_RT lw) Q := by
  have e1 : I 47 3 + 40 - 1 = nI (j + 39) := by
    rw [hN, show nI j + 40 = nI (j + 39 + 1) from (em_nadd j 40).symm, nI_pred]
  iterate 3 refine em_next rfl ?_
  refine em_z_neE hZ (fun _ => ?_) (fun q => absurd ((nI_eq (b := 0) (by omega) (by decide)).mp q) h0)
  iterate 9 refine em_next rfl ?_
  refine em_tp (y := nI 39) ((em_remE e1 (by omega)).trans (by rw [hK])) ?_
  iterate 1 refine em_next rfl ?_
  show em_wp em_sc0 (d + 1) 18 _ _ _ (em_SH, em_u I 47 3 (nI 39), J, em_RT lw) Q
  iterate 5 refine em_next rfl ?_
  refine em_aaE (k := 39) (b := 246) rfl rfl (em_u_self (I := I) (a := 47) (j := 3) (x := nI 39)) (by decide) (by decide) rfl ?_
  refine em_inv_call rfl (ce_cpOut_past39 (fun I1 a1 a2 => ?_))
  have e2 : I1 47 4 - 1 = nI (u - 1) := by rw [a1 _ (by decide), em_u_ne (by decide), hZ, em_pred1 (by omega)]
  iterate 4 refine em_next rfl ?_
  refine em_next rfl ?_
  refine em_tp e2 ?_
  iterate 2 refine em_next rfl ?_
  refine em_done rfl ?_
  show Q (some (.int 1)) (em_SH, em_u I1 47 4 (nI (u - 1)), J, em_RT lw)
  refine h _ (fun a h1 h2 => ?_) (fun n W hn hc => (a2 n W hn (hc.keep (fun a z1 z2 => em_u_row (by omega)))).keep (fun a z1 z2 => em_u_row (by omega))) ?_ em_u_self
  · rw [em_u_row h1, a1 a h2, em_u_row h1]
  · rw [em_u_ne (by decide), a1 _ (by decide), em_u_self]
theorem ce_add {k : Nat} (hk : k < 40) (hK : I 47 3 = nI k) (hu : u ≤ 40) (hZ : I 47 4 = nI u) (h : ∀ I' : Nat → Nat → Int32, (∀ a, a ≠ 47 → ¬ (51 + 5 * k ≤ a ∧ a ≤ 51 + 5 * k + 4) → I' a = I a) → (∀ (n : Nat) (W : em_Wt), n ≤ 9 → cr I 42 n W → cr I' (51 + 5 * k) n W) → I' 47 3 = nI ((k + 1) % 40) → I' 47 4 = nI (eh_u u) → Q none (em_SH, I', J, em_RT lw)) : em_call (d + 1) 17 [.ref 47, .ref 42] (em_SH, I, J, em_RT lw) Q := by
  match k, hk, hK, h with
  | 0, _, hK, h => exact ce_add_past0 hK hu hZ h
  | 1, _, hK, h => exact ce_add_past1 hK hu hZ h
  | 2, _, hK, h => exact ce_add_past2 hK hu hZ h
  | 3, _, hK, h => exact ce_add_past3 hK hu hZ h
  | 4, _, hK, h => exact ce_add_past4 hK hu hZ h
  | 5, _, hK, h => exact ce_add_past5 hK hu hZ h
  | 6, _, hK, h => exact ce_add_past6 hK hu hZ h
  | 7, _, hK, h => exact ce_add_past7 hK hu hZ h
  | 8, _, hK, h => exact ce_add_past8 hK hu hZ h
  | 9, _, hK, h => exact ce_add_past9 hK hu hZ h
  | 10, _, hK, h => exact ce_add_past10 hK hu hZ h
  | 11, _, hK, h => exact ce_add_past11 hK hu hZ h
  | 12, _, hK, h => exact ce_add_past12 hK hu hZ h
  | 13, _, hK, h => exact ce_add_past13 hK hu hZ h
  | 14, _, hK, h => exact ce_add_past14 hK hu hZ h
  | 15, _, hK, h => exact ce_add_past15 hK hu hZ h
  | 16, _, hK, h => exact ce_add_past16 hK hu hZ h
  | 17, _, hK, h => exact ce_add_past17 hK hu hZ h
  | 18, _, hK, h => exact ce_add_past18 hK hu hZ h
  | 19, _, hK, h => exact ce_add_past19 hK hu hZ h
  | 20, _, hK, h => exact ce_add_past20 hK hu hZ h
  | 21, _, hK, h => exact ce_add_past21 hK hu hZ h
  | 22, _, hK, h => exact ce_add_past22 hK hu hZ h
  | 23, _, hK, h => exact ce_add_past23 hK hu hZ h
  | 24, _, hK, h => exact ce_add_past24 hK hu hZ h
  | 25, _, hK, h => exact ce_add_past25 hK hu hZ h
  | 26, _, hK, h => exact ce_add_past26 hK hu hZ h
  | 27, _, hK, h => exact ce_add_past27 hK hu hZ h
  | 28, _, hK, h => exact ce_add_past28 hK hu hZ h
  | 29, _, hK, h => exact ce_add_past29 hK hu hZ h
  | 30, _, hK, h => exact ce_add_past30 hK hu hZ h
  | 31, _, hK, h => exact ce_add_past31 hK hu hZ h
  | 32, _, hK, h => exact ce_add_past32 hK hu hZ h
  | 33, _, hK, h => exact ce_add_past33 hK hu hZ h
  | 34, _, hK, h => exact ce_add_past34 hK hu hZ h
  | 35, _, hK, h => exact ce_add_past35 hK hu hZ h
  | 36, _, hK, h => exact ce_add_past36 hK hu hZ h
  | 37, _, hK, h => exact ce_add_past37 hK hu hZ h
  | 38, _, hK, h => exact ce_add_past38 hK hu hZ h
  | 39, _, hK, h => exact ce_add_past39 hK hu hZ h
  | k + 40, hk, _, _ => omega
theorem ce_last40 {j k : Nat} (hj : j < 40) (hK : (j + 39) % 40 = k) (hN : I 47 3 = nI j) (hu : u ≤ 40) (hZ : I 47 4 = nI u) (h0 : ¬ u = 0) (h : ∀ I' : Nat → Nat → Int32, (∀ a, a ≠ 47 → ¬ (42 ≤ a ∧ a ≤ 46) → I' a = I a) → (∀ (n : Nat) (W : em_Wt), n ≤ 9 → cr I (51 + 5 * k) n W → cr I' 42 n W) → I' 47 3 = nI k → I' 47 4 = nI (u - 1) → Q (some (.int 1)) (em_SH, I', J, em_RT lw)) : em_call (d + 1) 18 [.ref 47, .ref 42] (em_SH, I, J, em_RT lw) Q := by
  have hk : k < 40 := by omega
  match k, hk, hK, h with
  | 0, _, hK, h => exact ce_last_past0 hj hK hN hu hZ h0 h
  | 1, _, hK, h => exact ce_last_past1 hj hK hN hu hZ h0 h
  | 2, _, hK, h => exact ce_last_past2 hj hK hN hu hZ h0 h
  | 3, _, hK, h => exact ce_last_past3 hj hK hN hu hZ h0 h
  | 4, _, hK, h => exact ce_last_past4 hj hK hN hu hZ h0 h
  | 5, _, hK, h => exact ce_last_past5 hj hK hN hu hZ h0 h
  | 6, _, hK, h => exact ce_last_past6 hj hK hN hu hZ h0 h
  | 7, _, hK, h => exact ce_last_past7 hj hK hN hu hZ h0 h
  | 8, _, hK, h => exact ce_last_past8 hj hK hN hu hZ h0 h
  | 9, _, hK, h => exact ce_last_past9 hj hK hN hu hZ h0 h
  | 10, _, hK, h => exact ce_last_past10 hj hK hN hu hZ h0 h
  | 11, _, hK, h => exact ce_last_past11 hj hK hN hu hZ h0 h
  | 12, _, hK, h => exact ce_last_past12 hj hK hN hu hZ h0 h
  | 13, _, hK, h => exact ce_last_past13 hj hK hN hu hZ h0 h
  | 14, _, hK, h => exact ce_last_past14 hj hK hN hu hZ h0 h
  | 15, _, hK, h => exact ce_last_past15 hj hK hN hu hZ h0 h
  | 16, _, hK, h => exact ce_last_past16 hj hK hN hu hZ h0 h
  | 17, _, hK, h => exact ce_last_past17 hj hK hN hu hZ h0 h
  | 18, _, hK, h => exact ce_last_past18 hj hK hN hu hZ h0 h
  | 19, _, hK, h => exact ce_last_past19 hj hK hN hu hZ h0 h
  | 20, _, hK, h => exact ce_last_past20 hj hK hN hu hZ h0 h
  | 21, _, hK, h => exact ce_last_past21 hj hK hN hu hZ h0 h
  | 22, _, hK, h => exact ce_last_past22 hj hK hN hu hZ h0 h
  | 23, _, hK, h => exact ce_last_past23 hj hK hN hu hZ h0 h
  | 24, _, hK, h => exact ce_last_past24 hj hK hN hu hZ h0 h
  | 25, _, hK, h => exact ce_last_past25 hj hK hN hu hZ h0 h
  | 26, _, hK, h => exact ce_last_past26 hj hK hN hu hZ h0 h
  | 27, _, hK, h => exact ce_last_past27 hj hK hN hu hZ h0 h
  | 28, _, hK, h => exact ce_last_past28 hj hK hN hu hZ h0 h
  | 29, _, hK, h => exact ce_last_past29 hj hK hN hu hZ h0 h
  | 30, _, hK, h => exact ce_last_past30 hj hK hN hu hZ h0 h
  | 31, _, hK, h => exact ce_last_past31 hj hK hN hu hZ h0 h
  | 32, _, hK, h => exact ce_last_past32 hj hK hN hu hZ h0 h
  | 33, _, hK, h => exact ce_last_past33 hj hK hN hu hZ h0 h
  | 34, _, hK, h => exact ce_last_past34 hj hK hN hu hZ h0 h
  | 35, _, hK, h => exact ce_last_past35 hj hK hN hu hZ h0 h
  | 36, _, hK, h => exact ce_last_past36 hj hK hN hu hZ h0 h
  | 37, _, hK, h => exact ce_last_past37 hj hK hN hu hZ h0 h
  | 38, _, hK, h => exact ce_last_past38 hj hK hN hu hZ h0 h
  | 39, _, hK, h => exact ce_last_past39 hj hK hN hu hZ h0 h
  | k + 40, hk, _, _ => omega
theorem ce_keep_slot0 (h : ∀ I' : Nat → Nat → Int32, (∀ a, a ≠ 50 → ¬ (251 ≤ a ∧ a ≤ 255) → I' a = I a) → (∀ (n : Nat) (W : em_Wt), n ≤ 9 → cr I 42 n W → cr I' 251 n W) → I' 50 0 = 1 → (∀ j, j ≠ 0 → I' 50 j = I 50 j) → Q (some (.int 1)) (em_SH, I', J, em_RT lw)) : em_call (d + 1) 20 [.ref 47, .int (nI 0), .ref 42] (em_SH, I, J, em_RT lw) Q := by
  iterate 3 refine em_next rfl ?_
  refine em_inv_call rfl (ce_within (a := 0) (b := 2) ?_)
  iterate 1 refine em_next rfl ?_
  refine em_b_ne (fun _ => ?_) (fun q => absurd (by decide) q)
  iterate 3 refine em_next rfl ?_
  refine em_aaE (k := 0) (b := 251) rfl rfl rfl (by decide) (by decide) rfl ?_
  iterate 1 refine em_next rfl ?_
  refine em_inv_call rfl (ce_cpIn_slot0 (fun I1 a1 a2 => ?_))
  iterate 4 refine em_next rfl ?_
  refine em_basn (k := 0) (y := 1) rfl rfl (by decide) (by decide) rfl ?_
  iterate 1 refine em_next rfl ?_
  refine em_done rfl ?_
  refine h _ (fun a h1 h2 => by rw [em_u_row h1]; exact a1 a h2) (fun n W hn hc => (a2 n W hn hc).keep (fun a z1 z2 => em_u_row (by omega))) em_u_self (fun j hj => by rw [em_u_ne hj, a1 _ (by decide)])
theorem ce_give_slot0 (hF : I 50 0 = 1) (h : ∀ I' : Nat → Nat → Int32, (∀ a, ¬ (42 ≤ a ∧ a ≤ 46) → I' a = I a) → (∀ (n : Nat) (W : em_Wt), n ≤ 9 → cr I 251 n W → cr I' 42 n W) → Q (some (.int 1)) (em_SH, I', J, em_RT lw)) : em_call (d + 1) 21 [.ref 47, .int (nI 0), .ref 42] (em_SH, I, J, em_RT lw) Q := by
  iterate 3 refine em_next rfl ?_
  refine em_inv_call rfl (ce_within (a := 0) (b := 2) ?_)
  iterate 1 refine em_next rfl ?_
  refine em_b_eq (fun q => absurd (by decide) q) (fun _ => ?_)
  iterate 3 refine em_next rfl ?_
  refine em_baln (k := 0) rfl rfl (by decide) (by decide) ?_
  iterate 1 refine em_next rfl ?_
  refine em_z_neE hF (fun _ => ?_) (fun q => absurd q (by decide))
  iterate 4 refine em_next rfl ?_
  refine em_aaE (k := 0) (b := 251) rfl rfl rfl (by decide) (by decide) rfl ?_
  refine em_inv_call rfl (ce_cpOut_slot0 (fun I1 a1 a2 => ?_))
  iterate 1 refine em_next rfl ?_
  exact em_done rfl (h I1 a1 a2)
theorem ce_keep_slot1 (h : ∀ I' : Nat → Nat → Int32, (∀ a, a ≠ 50 → ¬ (256 ≤ a ∧ a ≤ 260) → I' a = I a) → (∀ (n : Nat) (W : em_Wt), n ≤ 9 → cr I 42 n W → cr I' 256 n W) → I' 50 1 = 1 → (∀ j, j ≠ 1 → I' 50 j = I 50 j) → Q (some (.int 1)) (em_SH, I', J, em_RT lw)) : em_call (d + 1) 20 [.ref 47, .int (nI 1), .ref 42] (em_SH, I, J, em_RT lw) Q := by
  iterate 3 refine em_next rfl ?_
  refine em_inv_call rfl (ce_within (a := 0) (b := 2) ?_)
  iterate 1 refine em_next rfl ?_
  refine em_b_ne (fun _ => ?_) (fun q => absurd (by decide) q)
  iterate 3 refine em_next rfl ?_
  refine em_aaE (k := 1) (b := 256) rfl rfl rfl (by decide) (by decide) rfl ?_
  iterate 1 refine em_next rfl ?_
  refine em_inv_call rfl (ce_cpIn_slot1 (fun I1 a1 a2 => ?_))
  iterate 4 refine em_next rfl ?_
  refine em_basn (k := 1) (y := 1) rfl rfl (by decide) (by decide) rfl ?_
  iterate 1 refine em_next rfl ?_
  refine em_done rfl ?_
  refine h _ (fun a h1 h2 => by rw [em_u_row h1]; exact a1 a h2) (fun n W hn hc => (a2 n W hn hc).keep (fun a z1 z2 => em_u_row (by omega))) em_u_self (fun j hj => by rw [em_u_ne hj, a1 _ (by decide)])
theorem ce_give_slot1 (hF : I 50 1 = 1) (h : ∀ I' : Nat → Nat → Int32, (∀ a, ¬ (42 ≤ a ∧ a ≤ 46) → I' a = I a) → (∀ (n : Nat) (W : em_Wt), n ≤ 9 → cr I 256 n W → cr I' 42 n W) → Q (some (.int 1)) (em_SH, I', J, em_RT lw)) : em_call (d + 1) 21 [.ref 47, .int (nI 1), .ref 42] (em_SH, I, J, em_RT lw) Q := by
  iterate 3 refine em_next rfl ?_
  refine em_inv_call rfl (ce_within (a := 0) (b := 2) ?_)
  iterate 1 refine em_next rfl ?_
  refine em_b_eq (fun q => absurd (by decide) q) (fun _ => ?_)
  iterate 3 refine em_next rfl ?_
  refine em_baln (k := 1) rfl rfl (by decide) (by decide) ?_
  iterate 1 refine em_next rfl ?_
  refine em_z_neE hF (fun _ => ?_) (fun q => absurd q (by decide))
  iterate 4 refine em_next rfl ?_
  refine em_aaE (k := 1) (b := 256) rfl rfl rfl (by decide) (by decide) rfl ?_
  refine em_inv_call rfl (ce_cpOut_slot1 (fun I1 a1 a2 => ?_))
  iterate 1 refine em_next rfl ?_
  exact em_done rfl (h I1 a1 a2)
theorem ce_keep_slot2 (h : ∀ I' : Nat → Nat → Int32, (∀ a, a ≠ 50 → ¬ (261 ≤ a ∧ a ≤ 265) → I' a = I a) → (∀ (n : Nat) (W : em_Wt), n ≤ 9 → cr I 42 n W → cr I' 261 n W) → I' 50 2 = 1 → (∀ j, j ≠ 2 → I' 50 j = I 50 j) → Q (some (.int 1)) (em_SH, I', J, em_RT lw)) : em_call (d + 1) 20 [.ref 47, .int (nI 2), .ref 42] (em_SH, I, J, em_RT lw) Q := by
  iterate 3 refine em_next rfl ?_
  refine em_inv_call rfl (ce_within (a := 0) (b := 2) ?_)
  iterate 1 refine em_next rfl ?_
  refine em_b_ne (fun _ => ?_) (fun q => absurd (by decide) q)
  iterate 3 refine em_next rfl ?_
  refine em_aaE (k := 2) (b := 261) rfl rfl rfl (by decide) (by decide) rfl ?_
  iterate 1 refine em_next rfl ?_
  refine em_inv_call rfl (ce_cpIn_slot2 (fun I1 a1 a2 => ?_))
  iterate 4 refine em_next rfl ?_
  refine em_basn (k := 2) (y := 1) rfl rfl (by decide) (by decide) rfl ?_
  iterate 1 refine em_next rfl ?_
  refine em_done rfl ?_
  refine h _ (fun a h1 h2 => by rw [em_u_row h1]; exact a1 a h2) (fun n W hn hc => (a2 n W hn hc).keep (fun a z1 z2 => em_u_row (by omega))) em_u_self (fun j hj => by rw [em_u_ne hj, a1 _ (by decide)])
theorem ce_give_slot2 (hF : I 50 2 = 1) (h : ∀ I' : Nat → Nat → Int32, (∀ a, ¬ (42 ≤ a ∧ a ≤ 46) → I' a = I a) → (∀ (n : Nat) (W : em_Wt), n ≤ 9 → cr I 261 n W → cr I' 42 n W) → Q (some (.int 1)) (em_SH, I', J, em_RT lw)) : em_call (d + 1) 21 [.ref 47, .int (nI 2), .ref 42] (em_SH, I, J, em_RT lw) Q := by
  iterate 3 refine em_next rfl ?_
  refine em_inv_call rfl (ce_within (a := 0) (b := 2) ?_)
  iterate 1 refine em_next rfl ?_
  refine em_b_eq (fun q => absurd (by decide) q) (fun _ => ?_)
  iterate 3 refine em_next rfl ?_
  refine em_baln (k := 2) rfl rfl (by decide) (by decide) ?_
  iterate 1 refine em_next rfl ?_
  refine em_z_neE hF (fun _ => ?_) (fun q => absurd q (by decide))
  iterate 4 refine em_next rfl ?_
  refine em_aaE (k := 2) (b := 261) rfl rfl rfl (by decide) (by decide) rfl ?_
  refine em_inv_call rfl (ce_cpOut_slot2 (fun I1 a1 a2 => ?_))
  iterate 1 refine em_next rfl ?_
  exact em_done rfl (h I1 a1 a2)
theorem ce_keep {k : Nat} (hk : k ≤ 2) (h : ∀ I' : Nat → Nat → Int32, (∀ a, a ≠ 50 → ¬ (251 + 5 * k ≤ a ∧ a ≤ 251 + 5 * k + 4) → I' a = I a) → (∀ (n : Nat) (W : em_Wt), n ≤ 9 → cr I 42 n W → cr I' (251 + 5 * k) n W) → I' 50 k = 1 → (∀ j, j ≠ k → I' 50 j = I 50 j) → Q (some (.int 1)) (em_SH, I', J, em_RT lw)) : em_call (d + 1) 20 [.ref 47, .int (nI k), .ref 42] (em_SH, I, J, em_RT lw) Q := by
  match k, hk, h with
  | 0, _, h => exact ce_keep_slot0 h
  | 1, _, h => exact ce_keep_slot1 h
  | 2, _, h => exact ce_keep_slot2 h
  | k + 3, hk, _ => omega
theorem ce_give {k : Nat} (hk : k ≤ 2) (hF : I 50 k = 1) (h : ∀ I' : Nat → Nat → Int32, (∀ a, ¬ (42 ≤ a ∧ a ≤ 46) → I' a = I a) → (∀ (n : Nat) (W : em_Wt), n ≤ 9 → cr I (251 + 5 * k) n W → cr I' 42 n W) → Q (some (.int 1)) (em_SH, I', J, em_RT lw)) : em_call (d + 1) 21 [.ref 47, .int (nI k), .ref 42] (em_SH, I, J, em_RT lw) Q := by
  match k, hk, hF, h with
  | 0, _, hF, h => exact ce_give_slot0 hF h
  | 1, _, hF, h => exact ce_give_slot1 hF h
  | 2, _, hF, h => exact ce_give_slot2 hF h
  | k + 3, hk, _, _ => omega
theorem ce_forgetRules (h : Q none (em_SH, em_flr I 276 216 (-1), J, em_RT lw)) : em_call (d + 1) 1 [.ref 270] (em_SH, I, J, em_RT lw) Q := by
  iterate 3 refine em_next rfl ?_
  refine em_inv_call rfl (ce_fill_dream_rules ?_)
  exact em_done rfl h
end CCH2
