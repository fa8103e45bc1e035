/-! the class: nights kept and given back -/
section CCH
variable {d lw lv nx : Nat} {p : em_Pn} {W W' : em_Wt} {u : Nat} {H : Nat → em_Wt} {hl : Nat → Bool} {S : Nat → em_Wt} {T : Nat} {D : em_Td} {L : Nat} {tp : Nat → Int32} {pc : Int32} {lp : Bool} {I I0 : Nat → Nat → Int32} {J : Nat → Nat → Int64} {Q : Option Value → em_M → Prop} {B : Nat}
theorem ce_cpx {s t : Nat} (hd : s + 4 < t ∨ t + 4 < s) (h : ∀ I' : Nat → Nat → Int32, (∀ a, ¬ (t ≤ a ∧ a ≤ t + 4) → I' a = I a) → (∀ (n : Nat) (W : em_Wt), n ≤ 9 → cr I s n W → cr I' t n W) → Q none (em_SH, I', J, em_RT lw)) : Q none (em_SH, em_u (em_u (em_u (em_cpr (em_cpr (em_cpr (em_cpr I (s + 1) (t + 1) 9) (s + 2) (t + 2) 9) (s + 3) (t + 3) 9) (s + 4) (t + 4) 9) t 4 (em_cpr (em_cpr (em_cpr (em_cpr I (s + 1) (t + 1) 9) (s + 2) (t + 2) 9) (s + 3) (t + 3) 9) (s + 4) (t + 4) 9 s 4)) t 5 (em_u (em_cpr (em_cpr (em_cpr (em_cpr I (s + 1) (t + 1) 9) (s + 2) (t + 2) 9) (s + 3) (t + 3) 9) (s + 4) (t + 4) 9) t 4 (em_cpr (em_cpr (em_cpr (em_cpr I (s + 1) (t + 1) 9) (s + 2) (t + 2) 9) (s + 3) (t + 3) 9) (s + 4) (t + 4) 9 s 4) s 5)) t 6 (em_u (em_u (em_cpr (em_cpr (em_cpr (em_cpr I (s + 1) (t + 1) 9) (s + 2) (t + 2) 9) (s + 3) (t + 3) 9) (s + 4) (t + 4) 9) t 4 (em_cpr (em_cpr (em_cpr (em_cpr I (s + 1) (t + 1) 9) (s + 2) (t + 2) 9) (s + 3) (t + 3) 9) (s + 4) (t + 4) 9 s 4)) t 5 (em_u (em_cpr (em_cpr (em_cpr (em_cpr I (s + 1) (t + 1) 9) (s + 2) (t + 2) 9) (s + 3) (t + 3) 9) (s + 4) (t + 4) 9) t 4 (em_cpr (em_cpr (em_cpr (em_cpr I (s + 1) (t + 1) 9) (s + 2) (t + 2) 9) (s + 3) (t + 3) 9) (s + 4) (t + 4) 9 s 4) s 5) s 6), J, em_RT lw) := by
  have f4 : ∀ a, ¬ (t + 1 ≤ a ∧ a ≤ t + 4) → em_cpr (em_cpr (em_cpr (em_cpr I (s + 1) (t + 1) 9) (s + 2) (t + 2) 9) (s + 3) (t + 3) 9) (s + 4) (t + 4) 9 a = I a := fun a ha => by rw [em_cpr_row (by omega), em_cpr_row (by omega), em_cpr_row (by omega), em_cpr_row (by omega)]
  have a1 : ∀ j, j < 9 → em_cpr (em_cpr (em_cpr (em_cpr I (s + 1) (t + 1) 9) (s + 2) (t + 2) 9) (s + 3) (t + 3) 9) (s + 4) (t + 4) 9 (t + 1) j = I (s + 1) j := fun j hj => by rw [em_cpr_row (by omega), em_cpr_row (by omega), em_cpr_row (by omega), em_cpr_at hj]
  have a2 : ∀ j, j < 9 → em_cpr (em_cpr (em_cpr (em_cpr I (s + 1) (t + 1) 9) (s + 2) (t + 2) 9) (s + 3) (t + 3) 9) (s + 4) (t + 4) 9 (t + 2) j = I (s + 2) j := fun j hj => by rw [em_cpr_row (by omega), em_cpr_row (by omega), em_cpr_at hj, em_cpr_row (by omega)]
  have a3 : ∀ j, j < 9 → em_cpr (em_cpr (em_cpr (em_cpr I (s + 1) (t + 1) 9) (s + 2) (t + 2) 9) (s + 3) (t + 3) 9) (s + 4) (t + 4) 9 (t + 3) j = I (s + 3) j := fun j hj => by rw [em_cpr_row (by omega), em_cpr_at hj, em_cpr_row (by omega), em_cpr_row (by omega)]
  have a4 : ∀ j, j < 9 → em_cpr (em_cpr (em_cpr (em_cpr I (s + 1) (t + 1) 9) (s + 2) (t + 2) 9) (s + 3) (t + 3) 9) (s + 4) (t + 4) 9 (t + 4) j = I (s + 4) j := fun j hj => by rw [em_cpr_at hj, em_cpr_row (by omega), em_cpr_row (by omega), em_cpr_row (by omega)]
  generalize em_cpr (em_cpr (em_cpr (em_cpr I (s + 1) (t + 1) 9) (s + 2) (t + 2) 9) (s + 3) (t + 3) 9) (s + 4) (t + 4) 9 = I4 at f4 a1 a2 a3 a4 ⊢
  have hst : s ≠ t := by omega
  have hu : ∀ (K : Nat → Nat → Int32) (j : Nat) (x : Int32), em_u K t j x s = K s := fun K j x => em_u_row hst
  simp only [hu]
  have es : I4 s = I s := f4 s (by omega)
  rw [es]
  refine h _ (fun a ha => ?_) (fun n W hn hc => ⟨⟨hc.1.1, ?_, ?_, ?_⟩, fun b hb => ?_⟩)
  · rw [em_u_row (by omega), em_u_row (by omega), em_u_row (by omega)]
    exact f4 a (by omega)
  · rw [em_u_ne (by decide), em_u_ne (by decide), em_u_self]; exact hc.1.2.1
  · rw [em_u_ne (by decide), em_u_self]; exact hc.1.2.2.1
  · rw [em_u_self]; exact hc.1.2.2.2
  · have r : ∀ k, 1 ≤ k → ∀ x y z : Int32, em_u (em_u (em_u I4 t 4 x) t 5 y) t 6 z (t + k) = I4 (t + k) := fun k hk x y z => by rw [em_u_row (by omega), em_u_row (by omega), em_u_row (by omega)]
    rw [r 1 (by decide), r 2 (by decide), r 3 (by decide), r 4 (by decide), a1 b (by omega), a2 b (by omega), a3 b (by omega), a4 b (by omega)]
    exact hc.2 b hb
theorem ce_cpIn_past0 (h : ∀ I' : Nat → Nat → Int32, (∀ a, ¬ (51 ≤ a ∧ a ≤ 55) → I' a = I a) → (∀ (n : Nat) (W : em_Wt), n ≤ 9 → cr I 42 n W → cr I' 51 n W) → Q none (em_SH, I', J, em_RT lw)) : em_call d 26 [.ref 51, .ref 42] (em_SH, I, J, em_RT lw) Q := by
  iterate 8 refine em_next rfl ?_
  show em_wp em_sc0 d 26 15 _ [] (em_cpy (em_SH, I, J, em_RT lw) 43 52 0 0 9) _
  rw [em_cpy9]
  iterate 8 refine em_next rfl ?_
  show em_wp em_sc0 d 26 30 _ [] (em_cpy (em_SH, em_cpr I 43 52 9, J, em_RT lw) 44 53 0 0 9) _
  rw [em_cpy9]
  iterate 8 refine em_next rfl ?_
  show em_wp em_sc0 d 26 45 _ [] (em_cpy (em_SH, em_cpr (em_cpr I 43 52 9) 44 53 9, J, em_RT lw) 45 54 0 0 9) _
  rw [em_cpy9]
  iterate 8 refine em_next rfl ?_
  show em_wp em_sc0 d 26 60 _ [] (em_cpy (em_SH, em_cpr (em_cpr (em_cpr I 43 52 9) 44 53 9) 45 54 9, J, em_RT lw) 46 55 0 0 9) _
  rw [em_cpy9]
  iterate 12 refine em_next rfl ?_
  refine em_done rfl ?_
  exact ce_cpx (s := 42) (t := 51) (by decide) h
theorem ce_cpOut_past0 (h : ∀ I' : Nat → Nat → Int32, (∀ a, ¬ (42 ≤ a ∧ a ≤ 46) → I' a = I a) → (∀ (n : Nat) (W : em_Wt), n ≤ 9 → cr I 51 n W → cr I' 42 n W) → Q none (em_SH, I', J, em_RT lw)) : em_call d 26 [.ref 42, .ref 51] (em_SH, I, J, em_RT lw) Q := by
  iterate 8 refine em_next rfl ?_
  show em_wp em_sc0 d 26 15 _ [] (em_cpy (em_SH, I, J, em_RT lw) 52 43 0 0 9) _
  rw [em_cpy9]
  iterate 8 refine em_next rfl ?_
  show em_wp em_sc0 d 26 30 _ [] (em_cpy (em_SH, em_cpr I 52 43 9, J, em_RT lw) 53 44 0 0 9) _
  rw [em_cpy9]
  iterate 8 refine em_next rfl ?_
  show em_wp em_sc0 d 26 45 _ [] (em_cpy (em_SH, em_cpr (em_cpr I 52 43 9) 53 44 9, J, em_RT lw) 54 45 0 0 9) _
  rw [em_cpy9]
  iterate 8 refine em_next rfl ?_
  show em_wp em_sc0 d 26 60 _ [] (em_cpy (em_SH, em_cpr (em_cpr (em_cpr I 52 43 9) 53 44 9) 54 45 9, J, em_RT lw) 55 46 0 0 9) _
  rw [em_cpy9]
  iterate 12 refine em_next rfl ?_
  refine em_done rfl ?_
  exact ce_cpx (s := 51) (t := 42) (by decide) h
theorem ce_cpIn_past1 (h : ∀ I' : Nat → Nat → Int32, (∀ a, ¬ (56 ≤ a ∧ a ≤ 60) → I' a = I a) → (∀ (n : Nat) (W : em_Wt), n ≤ 9 → cr I 42 n W → cr I' 56 n W) → Q none (em_SH, I', J, em_RT lw)) : em_call d 26 [.ref 56, .ref 42] (em_SH, I, J, em_RT lw) Q := by
  iterate 8 refine em_next rfl ?_
  show em_wp em_sc0 d 26 15 _ [] (em_cpy (em_SH, I, J, em_RT lw) 43 57 0 0 9) _
  rw [em_cpy9]
  iterate 8 refine em_next rfl ?_
  show em_wp em_sc0 d 26 30 _ [] (em_cpy (em_SH, em_cpr I 43 57 9, J, em_RT lw) 44 58 0 0 9) _
  rw [em_cpy9]
  iterate 8 refine em_next rfl ?_
  show em_wp em_sc0 d 26 45 _ [] (em_cpy (em_SH, em_cpr (em_cpr I 43 57 9) 44 58 9, J, em_RT lw) 45 59 0 0 9) _
  rw [em_cpy9]
  iterate 8 refine em_next rfl ?_
  show em_wp em_sc0 d 26 60 _ [] (em_cpy (em_SH, em_cpr (em_cpr (em_cpr I 43 57 9) 44 58 9) 45 59 9, J, em_RT lw) 46 60 0 0 9) _
  rw [em_cpy9]
  iterate 12 refine em_next rfl ?_
  refine em_done rfl ?_
  exact ce_cpx (s := 42) (t := 56) (by decide) h
theorem ce_cpOut_past1 (h : ∀ I' : Nat → Nat → Int32, (∀ a, ¬ (42 ≤ a ∧ a ≤ 46) → I' a = I a) → (∀ (n : Nat) (W : em_Wt), n ≤ 9 → cr I 56 n W → cr I' 42 n W) → Q none (em_SH, I', J, em_RT lw)) : em_call d 26 [.ref 42, .ref 56] (em_SH, I, J, em_RT lw) Q := by
  iterate 8 refine em_next rfl ?_
  show em_wp em_sc0 d 26 15 _ [] (em_cpy (em_SH, I, J, em_RT lw) 57 43 0 0 9) _
  rw [em_cpy9]
  iterate 8 refine em_next rfl ?_
  show em_wp em_sc0 d 26 30 _ [] (em_cpy (em_SH, em_cpr I 57 43 9, J, em_RT lw) 58 44 0 0 9) _
  rw [em_cpy9]
  iterate 8 refine em_next rfl ?_
  show em_wp em_sc0 d 26 45 _ [] (em_cpy (em_SH, em_cpr (em_cpr I 57 43 9) 58 44 9, J, em_RT lw) 59 45 0 0 9) _
  rw [em_cpy9]
  iterate 8 refine em_next rfl ?_
  show em_wp em_sc0 d 26 60 _ [] (em_cpy (em_SH, em_cpr (em_cpr (em_cpr I 57 43 9) 58 44 9) 59 45 9, J, em_RT lw) 60 46 0 0 9) _
  rw [em_cpy9]
  iterate 12 refine em_next rfl ?_
  refine em_done rfl ?_
  exact ce_cpx (s := 56) (t := 42) (by decide) h
theorem ce_cpIn_past2 (h : ∀ I' : Nat → Nat → Int32, (∀ a, ¬ (61 ≤ a ∧ a ≤ 65) → I' a = I a) → (∀ (n : Nat) (W : em_Wt), n ≤ 9 → cr I 42 n W → cr I' 61 n W) → Q none (em_SH, I', J, em_RT lw)) : em_call d 26 [.ref 61, .ref 42] (em_SH, I, J, em_RT lw) Q := by
  iterate 8 refine em_next rfl ?_
  show em_wp em_sc0 d 26 15 _ [] (em_cpy (em_SH, I, J, em_RT lw) 43 62 0 0 9) _
  rw [em_cpy9]
  iterate 8 refine em_next rfl ?_
  show em_wp em_sc0 d 26 30 _ [] (em_cpy (em_SH, em_cpr I 43 62 9, J, em_RT lw) 44 63 0 0 9) _
  rw [em_cpy9]
  iterate 8 refine em_next rfl ?_
  show em_wp em_sc0 d 26 45 _ [] (em_cpy (em_SH, em_cpr (em_cpr I 43 62 9) 44 63 9, J, em_RT lw) 45 64 0 0 9) _
  rw [em_cpy9]
  iterate 8 refine em_next rfl ?_
  show em_wp em_sc0 d 26 60 _ [] (em_cpy (em_SH, em_cpr (em_cpr (em_cpr I 43 62 9) 44 63 9) 45 64 9, J, em_RT lw) 46 65 0 0 9) _
  rw [em_cpy9]
  iterate 12 refine em_next rfl ?_
  refine em_done rfl ?_
  exact ce_cpx (s := 42) (t := 61) (by decide) h
theorem ce_cpOut_past2 (h : ∀ I' : Nat → Nat → Int32, (∀ a, ¬ (42 ≤ a ∧ a ≤ 46) → I' a = I a) → (∀ (n : Nat) (W : em_Wt), n ≤ 9 → cr I 61 n W → cr I' 42 n W) → Q none (em_SH, I', J, em_RT lw)) : em_call d 26 [.ref 42, .ref 61] (em_SH, I, J, em_RT lw) Q := by
  iterate 8 refine em_next rfl ?_
  show em_wp em_sc0 d 26 15 _ [] (em_cpy (em_SH, I, J, em_RT lw) 62 43 0 0 9) _
  rw [em_cpy9]
  iterate 8 refine em_next rfl ?_
  show em_wp em_sc0 d 26 30 _ [] (em_cpy (em_SH, em_cpr I 62 43 9, J, em_RT lw) 63 44 0 0 9) _
  rw [em_cpy9]
  iterate 8 refine em_next rfl ?_
  show em_wp em_sc0 d 26 45 _ [] (em_cpy (em_SH, em_cpr (em_cpr I 62 43 9) 63 44 9, J, em_RT lw) 64 45 0 0 9) _
  rw [em_cpy9]
  iterate 8 refine em_next rfl ?_
  show em_wp em_sc0 d 26 60 _ [] (em_cpy (em_SH, em_cpr (em_cpr (em_cpr I 62 43 9) 63 44 9) 64 45 9, J, em_RT lw) 65 46 0 0 9) _
  rw [em_cpy9]
  iterate 12 refine em_next rfl ?_
  refine em_done rfl ?_
  exact ce_cpx (s := 61) (t := 42) (by decide) h
theorem ce_cpIn_past3 (h : ∀ I' : Nat → Nat → Int32, (∀ a, ¬ (66 ≤ a ∧ a ≤ 70) → I' a = I a) → (∀ (n : Nat) (W : em_Wt), n ≤ 9 → cr I 42 n W → cr I' 66 n W) → Q none (em_SH, I', J, em_RT lw)) : em_call d 26 [.ref 66, .ref 42] (em_SH, I, J, em_RT lw) Q := by
  iterate 8 refine em_next rfl ?_
  show em_wp em_sc0 d 26 15 _ [] (em_cpy (em_SH, I, J, em_RT lw) 43 67 0 0 9) _
  rw [em_cpy9]
  iterate 8 refine em_next rfl ?_
  show em_wp em_sc0 d 26 30 _ [] (em_cpy (em_SH, em_cpr I 43 67 9, J, em_RT lw) 44 68 0 0 9) _
  rw [em_cpy9]
  iterate 8 refine em_next rfl ?_
  show em_wp em_sc0 d 26 45 _ [] (em_cpy (em_SH, em_cpr (em_cpr I 43 67 9) 44 68 9, J, em_RT lw) 45 69 0 0 9) _
  rw [em_cpy9]
  iterate 8 refine em_next rfl ?_
  show em_wp em_sc0 d 26 60 _ [] (em_cpy (em_SH, em_cpr (em_cpr (em_cpr I 43 67 9) 44 68 9) 45 69 9, J, em_RT lw) 46 70 0 0 9) _
  rw [em_cpy9]
  iterate 12 refine em_next rfl ?_
  refine em_done rfl ?_
  exact ce_cpx (s := 42) (t := 66) (by decide) h
theorem ce_cpOut_past3 (h : ∀ I' : Nat → Nat → Int32, (∀ a, ¬ (42 ≤ a ∧ a ≤ 46) → I' a = I a) → (∀ (n : Nat) (W : em_Wt), n ≤ 9 → cr I 66 n W → cr I' 42 n W) → Q none (em_SH, I', J, em_RT lw)) : em_call d 26 [.ref 42, .ref 66] (em_SH, I, J, em_RT lw) Q := by
  iterate 8 refine em_next rfl ?_
  show em_wp em_sc0 d 26 15 _ [] (em_cpy (em_SH, I, J, em_RT lw) 67 43 0 0 9) _
  rw [em_cpy9]
  iterate 8 refine em_next rfl ?_
  show em_wp em_sc0 d 26 30 _ [] (em_cpy (em_SH, em_cpr I 67 43 9, J, em_RT lw) 68 44 0 0 9) _
  rw [em_cpy9]
  iterate 8 refine em_next rfl ?_
  show em_wp em_sc0 d 26 45 _ [] (em_cpy (em_SH, em_cpr (em_cpr I 67 43 9) 68 44 9, J, em_RT lw) 69 45 0 0 9) _
  rw [em_cpy9]
  iterate 8 refine em_next rfl ?_
  show em_wp em_sc0 d 26 60 _ [] (em_cpy (em_SH, em_cpr (em_cpr (em_cpr I 67 43 9) 68 44 9) 69 45 9, J, em_RT lw) 70 46 0 0 9) _
  rw [em_cpy9]
  iterate 12 refine em_next rfl ?_
  refine em_done rfl ?_
  exact ce_cpx (s := 66) (t := 42) (by decide) h
theorem ce_cpIn_past4 (h : ∀ I' : Nat → Nat → Int32, (∀ a, ¬ (71 ≤ a ∧ a ≤ 75) → I' a = I a) → (∀ (n : Nat) (W : em_Wt), n ≤ 9 → cr I 42 n W → cr I' 71 n W) → Q none (em_SH, I', J, em_RT lw)) : em_call d 26 [.ref 71, .ref 42] (em_SH, I, J, em_RT lw) Q := by
  iterate 8 refine em_next rfl ?_
  show em_wp em_sc0 d 26 15 _ [] (em_cpy (em_SH, I, J, em_RT lw) 43 72 0 0 9) _
  rw [em_cpy9]
  iterate 8 refine em_next rfl ?_
  show em_wp em_sc0 d 26 30 _ [] (em_cpy (em_SH, em_cpr I 43 72 9, J, em_RT lw) 44 73 0 0 9) _
  rw [em_cpy9]
  iterate 8 refine em_next rfl ?_
  show em_wp em_sc0 d 26 45 _ [] (em_cpy (em_SH, em_cpr (em_cpr I 43 72 9) 44 73 9, J, em_RT lw) 45 74 0 0 9) _
  rw [em_cpy9]
  iterate 8 refine em_next rfl ?_
  show em_wp em_sc0 d 26 60 _ [] (em_cpy (em_SH, em_cpr (em_cpr (em_cpr I 43 72 9) 44 73 9) 45 74 9, J, em_RT lw) 46 75 0 0 9) _
  rw [em_cpy9]
  iterate 12 refine em_next rfl ?_
  refine em_done rfl ?_
  exact ce_cpx (s := 42) (t := 71) (by decide) h
theorem ce_cpOut_past4 (h : ∀ I' : Nat → Nat → Int32, (∀ a, ¬ (42 ≤ a ∧ a ≤ 46) → I' a = I a) → (∀ (n : Nat) (W : em_Wt), n ≤ 9 → cr I 71 n W → cr I' 42 n W) → Q none (em_SH, I', J, em_RT lw)) : em_call d 26 [.ref 42, .ref 71] (em_SH, I, J, em_RT lw) Q := by
  iterate 8 refine em_next rfl ?_
  show em_wp em_sc0 d 26 15 _ [] (em_cpy (em_SH, I, J, em_RT lw) 72 43 0 0 9) _
  rw [em_cpy9]
  iterate 8 refine em_next rfl ?_
  show em_wp em_sc0 d 26 30 _ [] (em_cpy (em_SH, em_cpr I 72 43 9, J, em_RT lw) 73 44 0 0 9) _
  rw [em_cpy9]
  iterate 8 refine em_next rfl ?_
  show em_wp em_sc0 d 26 45 _ [] (em_cpy (em_SH, em_cpr (em_cpr I 72 43 9) 73 44 9, J, em_RT lw) 74 45 0 0 9) _
  rw [em_cpy9]
  iterate 8 refine em_next rfl ?_
  show em_wp em_sc0 d 26 60 _ [] (em_cpy (em_SH, em_cpr (em_cpr (em_cpr I 72 43 9) 73 44 9) 74 45 9, J, em_RT lw) 75 46 0 0 9) _
  rw [em_cpy9]
  iterate 12 refine em_next rfl ?_
  refine em_done rfl ?_
  exact ce_cpx (s := 71) (t := 42) (by decide) h
theorem ce_cpIn_past5 (h : ∀ I' : Nat → Nat → Int32, (∀ a, ¬ (76 ≤ a ∧ a ≤ 80) → I' a = I a) → (∀ (n : Nat) (W : em_Wt), n ≤ 9 → cr I 42 n W → cr I' 76 n W) → Q none (em_SH, I', J, em_RT lw)) : em_call d 26 [.ref 76, .ref 42] (em_SH, I, J, em_RT lw) Q := by
  iterate 8 refine em_next rfl ?_
  show em_wp em_sc0 d 26 15 _ [] (em_cpy (em_SH, I, J, em_RT lw) 43 77 0 0 9) _
  rw [em_cpy9]
  iterate 8 refine em_next rfl ?_
  show em_wp em_sc0 d 26 30 _ [] (em_cpy (em_SH, em_cpr I 43 77 9, J, em_RT lw) 44 78 0 0 9) _
  rw [em_cpy9]
  iterate 8 refine em_next rfl ?_
  show em_wp em_sc0 d 26 45 _ [] (em_cpy (em_SH, em_cpr (em_cpr I 43 77 9) 44 78 9, J, em_RT lw) 45 79 0 0 9) _
  rw [em_cpy9]
  iterate 8 refine em_next rfl ?_
  show em_wp em_sc0 d 26 60 _ [] (em_cpy (em_SH, em_cpr (em_cpr (em_cpr I 43 77 9) 44 78 9) 45 79 9, J, em_RT lw) 46 80 0 0 9) _
  rw [em_cpy9]
  iterate 12 refine em_next rfl ?_
  refine em_done rfl ?_
  exact ce_cpx (s := 42) (t := 76) (by decide) h
theorem ce_cpOut_past5 (h : ∀ I' : Nat → Nat → Int32, (∀ a, ¬ (42 ≤ a ∧ a ≤ 46) → I' a = I a) → (∀ (n : Nat) (W : em_Wt), n ≤ 9 → cr I 76 n W → cr I' 42 n W) → Q none (em_SH, I', J, em_RT lw)) : em_call d 26 [.ref 42, .ref 76] (em_SH, I, J, em_RT lw) Q := by
  iterate 8 refine em_next rfl ?_
  show em_wp em_sc0 d 26 15 _ [] (em_cpy (em_SH, I, J, em_RT lw) 77 43 0 0 9) _
  rw [em_cpy9]
  iterate 8 refine em_next rfl ?_
  show em_wp em_sc0 d 26 30 _ [] (em_cpy (em_SH, em_cpr I 77 43 9, J, em_RT lw) 78 44 0 0 9) _
  rw [em_cpy9]
  iterate 8 refine em_next rfl ?_
  show em_wp em_sc0 d 26 45 _ [] (em_cpy (em_SH, em_cpr (em_cpr I 77 43 9) 78 44 9, J, em_RT lw) 79 45 0 0 9) _
  rw [em_cpy9]
  iterate 8 refine em_next rfl ?_
  show em_wp em_sc0 d 26 60 _ [] (em_cpy (em_SH, em_cpr (em_cpr (em_cpr I 77 43 9) 78 44 9) 79 45 9, J, em_RT lw) 80 46 0 0 9) _
  rw [em_cpy9]
  iterate 12 refine em_next rfl ?_
  refine em_done rfl ?_
  exact ce_cpx (s := 76) (t := 42) (by decide) h
theorem ce_cpIn_past6 (h : ∀ I' : Nat → Nat → Int32, (∀ a, ¬ (81 ≤ a ∧ a ≤ 85) → I' a = I a) → (∀ (n : Nat) (W : em_Wt), n ≤ 9 → cr I 42 n W → cr I' 81 n W) → Q none (em_SH, I', J, em_RT lw)) : em_call d 26 [.ref 81, .ref 42] (em_SH, I, J, em_RT lw) Q := by
  iterate 8 refine em_next rfl ?_
  show em_wp em_sc0 d 26 15 _ [] (em_cpy (em_SH, I, J, em_RT lw) 43 82 0 0 9) _
  rw [em_cpy9]
  iterate 8 refine em_next rfl ?_
  show em_wp em_sc0 d 26 30 _ [] (em_cpy (em_SH, em_cpr I 43 82 9, J, em_RT lw) 44 83 0 0 9) _
  rw [em_cpy9]
  iterate 8 refine em_next rfl ?_
  show em_wp em_sc0 d 26 45 _ [] (em_cpy (em_SH, em_cpr (em_cpr I 43 82 9) 44 83 9, J, em_RT lw) 45 84 0 0 9) _
  rw [em_cpy9]
  iterate 8 refine em_next rfl ?_
  show em_wp em_sc0 d 26 60 _ [] (em_cpy (em_SH, em_cpr (em_cpr (em_cpr I 43 82 9) 44 83 9) 45 84 9, J, em_RT lw) 46 85 0 0 9) _
  rw [em_cpy9]
  iterate 12 refine em_next rfl ?_
  refine em_done rfl ?_
  exact ce_cpx (s := 42) (t := 81) (by decide) h
theorem ce_cpOut_past6 (h : ∀ I' : Nat → Nat → Int32, (∀ a, ¬ (42 ≤ a ∧ a ≤ 46) → I' a = I a) → (∀ (n : Nat) (W : em_Wt), n ≤ 9 → cr I 81 n W → cr I' 42 n W) → Q none (em_SH, I', J, em_RT lw)) : em_call d 26 [.ref 42, .ref 81] (em_SH, I, J, em_RT lw) Q := by
  iterate 8 refine em_next rfl ?_
  show em_wp em_sc0 d 26 15 _ [] (em_cpy (em_SH, I, J, em_RT lw) 82 43 0 0 9) _
  rw [em_cpy9]
  iterate 8 refine em_next rfl ?_
  show em_wp em_sc0 d 26 30 _ [] (em_cpy (em_SH, em_cpr I 82 43 9, J, em_RT lw) 83 44 0 0 9) _
  rw [em_cpy9]
  iterate 8 refine em_next rfl ?_
  show em_wp em_sc0 d 26 45 _ [] (em_cpy (em_SH, em_cpr (em_cpr I 82 43 9) 83 44 9, J, em_RT lw) 84 45 0 0 9) _
  rw [em_cpy9]
  iterate 8 refine em_next rfl ?_
  show em_wp em_sc0 d 26 60 _ [] (em_cpy (em_SH, em_cpr (em_cpr (em_cpr I 82 43 9) 83 44 9) 84 45 9, J, em_RT lw) 85 46 0 0 9) _
  rw [em_cpy9]
  iterate 12 refine em_next rfl ?_
  refine em_done rfl ?_
  exact ce_cpx (s := 81) (t := 42) (by decide) h
theorem ce_cpIn_past7 (h : ∀ I' : Nat → Nat → Int32, (∀ a, ¬ (86 ≤ a ∧ a ≤ 90) → I' a = I a) → (∀ (n : Nat) (W : em_Wt), n ≤ 9 → cr I 42 n W → cr I' 86 n W) → Q none (em_SH, I', J, em_RT lw)) : em_call d 26 [.ref 86, .ref 42] (em_SH, I, J, em_RT lw) Q := by
  iterate 8 refine em_next rfl ?_
  show em_wp em_sc0 d 26 15 _ [] (em_cpy (em_SH, I, J, em_RT lw) 43 87 0 0 9) _
  rw [em_cpy9]
  iterate 8 refine em_next rfl ?_
  show em_wp em_sc0 d 26 30 _ [] (em_cpy (em_SH, em_cpr I 43 87 9, J, em_RT lw) 44 88 0 0 9) _
  rw [em_cpy9]
  iterate 8 refine em_next rfl ?_
  show em_wp em_sc0 d 26 45 _ [] (em_cpy (em_SH, em_cpr (em_cpr I 43 87 9) 44 88 9, J, em_RT lw) 45 89 0 0 9) _
  rw [em_cpy9]
  iterate 8 refine em_next rfl ?_
  show em_wp em_sc0 d 26 60 _ [] (em_cpy (em_SH, em_cpr (em_cpr (em_cpr I 43 87 9) 44 88 9) 45 89 9, J, em_RT lw) 46 90 0 0 9) _
  rw [em_cpy9]
  iterate 12 refine em_next rfl ?_
  refine em_done rfl ?_
  exact ce_cpx (s := 42) (t := 86) (by decide) h
theorem ce_cpOut_past7 (h : ∀ I' : Nat → Nat → Int32, (∀ a, ¬ (42 ≤ a ∧ a ≤ 46) → I' a = I a) → (∀ (n : Nat) (W : em_Wt), n ≤ 9 → cr I 86 n W → cr I' 42 n W) → Q none (em_SH, I', J, em_RT lw)) : em_call d 26 [.ref 42, .ref 86] (em_SH, I, J, em_RT lw) Q := by
  iterate 8 refine em_next rfl ?_
  show em_wp em_sc0 d 26 15 _ [] (em_cpy (em_SH, I, J, em_RT lw) 87 43 0 0 9) _
  rw [em_cpy9]
  iterate 8 refine em_next rfl ?_
  show em_wp em_sc0 d 26 30 _ [] (em_cpy (em_SH, em_cpr I 87 43 9, J, em_RT lw) 88 44 0 0 9) _
  rw [em_cpy9]
  iterate 8 refine em_next rfl ?_
  show em_wp em_sc0 d 26 45 _ [] (em_cpy (em_SH, em_cpr (em_cpr I 87 43 9) 88 44 9, J, em_RT lw) 89 45 0 0 9) _
  rw [em_cpy9]
  iterate 8 refine em_next rfl ?_
  show em_wp em_sc0 d 26 60 _ [] (em_cpy (em_SH, em_cpr (em_cpr (em_cpr I 87 43 9) 88 44 9) 89 45 9, J, em_RT lw) 90 46 0 0 9) _
  rw [em_cpy9]
  iterate 12 refine em_next rfl ?_
  refine em_done rfl ?_
  exact ce_cpx (s := 86) (t := 42) (by decide) h
theorem ce_cpIn_past8 (h : ∀ I' : Nat → Nat → Int32, (∀ a, ¬ (91 ≤ a ∧ a ≤ 95) → I' a = I a) → (∀ (n : Nat) (W : em_Wt), n ≤ 9 → cr I 42 n W → cr I' 91 n W) → Q none (em_SH, I', J, em_RT lw)) : em_call d 26 [.ref 91, .ref 42] (em_SH, I, J, em_RT lw) Q := by
  iterate 8 refine em_next rfl ?_
  show em_wp em_sc0 d 26 15 _ [] (em_cpy (em_SH, I, J, em_RT lw) 43 92 0 0 9) _
  rw [em_cpy9]
  iterate 8 refine em_next rfl ?_
  show em_wp em_sc0 d 26 30 _ [] (em_cpy (em_SH, em_cpr I 43 92 9, J, em_RT lw) 44 93 0 0 9) _
  rw [em_cpy9]
  iterate 8 refine em_next rfl ?_
  show em_wp em_sc0 d 26 45 _ [] (em_cpy (em_SH, em_cpr (em_cpr I 43 92 9) 44 93 9, J, em_RT lw) 45 94 0 0 9) _
  rw [em_cpy9]
  iterate 8 refine em_next rfl ?_
  show em_wp em_sc0 d 26 60 _ [] (em_cpy (em_SH, em_cpr (em_cpr (em_cpr I 43 92 9) 44 93 9) 45 94 9, J, em_RT lw) 46 95 0 0 9) _
  rw [em_cpy9]
  iterate 12 refine em_next rfl ?_
  refine em_done rfl ?_
  exact ce_cpx (s := 42) (t := 91) (by decide) h
theorem ce_cpOut_past8 (h : ∀ I' : Nat → Nat → Int32, (∀ a, ¬ (42 ≤ a ∧ a ≤ 46) → I' a = I a) → (∀ (n : Nat) (W : em_Wt), n ≤ 9 → cr I 91 n W → cr I' 42 n W) → Q none (em_SH, I', J, em_RT lw)) : em_call d 26 [.ref 42, .ref 91] (em_SH, I, J, em_RT lw) Q := by
  iterate 8 refine em_next rfl ?_
  show em_wp em_sc0 d 26 15 _ [] (em_cpy (em_SH, I, J, em_RT lw) 92 43 0 0 9) _
  rw [em_cpy9]
  iterate 8 refine em_next rfl ?_
  show em_wp em_sc0 d 26 30 _ [] (em_cpy (em_SH, em_cpr I 92 43 9, J, em_RT lw) 93 44 0 0 9) _
  rw [em_cpy9]
  iterate 8 refine em_next rfl ?_
  show em_wp em_sc0 d 26 45 _ [] (em_cpy (em_SH, em_cpr (em_cpr I 92 43 9) 93 44 9, J, em_RT lw) 94 45 0 0 9) _
  rw [em_cpy9]
  iterate 8 refine em_next rfl ?_
  show em_wp em_sc0 d 26 60 _ [] (em_cpy (em_SH, em_cpr (em_cpr (em_cpr I 92 43 9) 93 44 9) 94 45 9, J, em_RT lw) 95 46 0 0 9) _
  rw [em_cpy9]
  iterate 12 refine em_next rfl ?_
  refine em_done rfl ?_
  exact ce_cpx (s := 91) (t := 42) (by decide) h
theorem ce_cpIn_past9 (h : ∀ I' : Nat → Nat → Int32, (∀ a, ¬ (96 ≤ a ∧ a ≤ 100) → I' a = I a) → (∀ (n : Nat) (W : em_Wt), n ≤ 9 → cr I 42 n W → cr I' 96 n W) → Q none (em_SH, I', J, em_RT lw)) : em_call d 26 [.ref 96, .ref 42] (em_SH, I, J, em_RT lw) Q := by
  iterate 8 refine em_next rfl ?_
  show em_wp em_sc0 d 26 15 _ [] (em_cpy (em_SH, I, J, em_RT lw) 43 97 0 0 9) _
  rw [em_cpy9]
  iterate 8 refine em_next rfl ?_
  show em_wp em_sc0 d 26 30 _ [] (em_cpy (em_SH, em_cpr I 43 97 9, J, em_RT lw) 44 98 0 0 9) _
  rw [em_cpy9]
  iterate 8 refine em_next rfl ?_
  show em_wp em_sc0 d 26 45 _ [] (em_cpy (em_SH, em_cpr (em_cpr I 43 97 9) 44 98 9, J, em_RT lw) 45 99 0 0 9) _
  rw [em_cpy9]
  iterate 8 refine em_next rfl ?_
  show em_wp em_sc0 d 26 60 _ [] (em_cpy (em_SH, em_cpr (em_cpr (em_cpr I 43 97 9) 44 98 9) 45 99 9, J, em_RT lw) 46 100 0 0 9) _
  rw [em_cpy9]
  iterate 12 refine em_next rfl ?_
  refine em_done rfl ?_
  exact ce_cpx (s := 42) (t := 96) (by decide) h
theorem ce_cpOut_past9 (h : ∀ I' : Nat → Nat → Int32, (∀ a, ¬ (42 ≤ a ∧ a ≤ 46) → I' a = I a) → (∀ (n : Nat) (W : em_Wt), n ≤ 9 → cr I 96 n W → cr I' 42 n W) → Q none (em_SH, I', J, em_RT lw)) : em_call d 26 [.ref 42, .ref 96] (em_SH, I, J, em_RT lw) Q := by
  iterate 8 refine em_next rfl ?_
  show em_wp em_sc0 d 26 15 _ [] (em_cpy (em_SH, I, J, em_RT lw) 97 43 0 0 9) _
  rw [em_cpy9]
  iterate 8 refine em_next rfl ?_
  show em_wp em_sc0 d 26 30 _ [] (em_cpy (em_SH, em_cpr I 97 43 9, J, em_RT lw) 98 44 0 0 9) _
  rw [em_cpy9]
  iterate 8 refine em_next rfl ?_
  show em_wp em_sc0 d 26 45 _ [] (em_cpy (em_SH, em_cpr (em_cpr I 97 43 9) 98 44 9, J, em_RT lw) 99 45 0 0 9) _
  rw [em_cpy9]
  iterate 8 refine em_next rfl ?_
  show em_wp em_sc0 d 26 60 _ [] (em_cpy (em_SH, em_cpr (em_cpr (em_cpr I 97 43 9) 98 44 9) 99 45 9, J, em_RT lw) 100 46 0 0 9) _
  rw [em_cpy9]
  iterate 12 refine em_next rfl ?_
  refine em_done rfl ?_
  exact ce_cpx (s := 96) (t := 42) (by decide) h
theorem ce_cpIn_past10 (h : ∀ I' : Nat → Nat → Int32, (∀ a, ¬ (101 ≤ a ∧ a ≤ 105) → I' a = I a) → (∀ (n : Nat) (W : em_Wt), n ≤ 9 → cr I 42 n W → cr I' 101 n W) → Q none (em_SH, I', J, em_RT lw)) : em_call d 26 [.ref 101, .ref 42] (em_SH, I, J, em_RT lw) Q := by
  iterate 8 refine em_next rfl ?_
  show em_wp em_sc0 d 26 15 _ [] (em_cpy (em_SH, I, J, em_RT lw) 43 102 0 0 9) _
  rw [em_cpy9]
  iterate 8 refine em_next rfl ?_
  show em_wp em_sc0 d 26 30 _ [] (em_cpy (em_SH, em_cpr I 43 102 9, J, em_RT lw) 44 103 0 0 9) _
  rw [em_cpy9]
  iterate 8 refine em_next rfl ?_
  show em_wp em_sc0 d 26 45 _ [] (em_cpy (em_SH, em_cpr (em_cpr I 43 102 9) 44 103 9, J, em_RT lw) 45 104 0 0 9) _
  rw [em_cpy9]
  iterate 8 refine em_next rfl ?_
  show em_wp em_sc0 d 26 60 _ [] (em_cpy (em_SH, em_cpr (em_cpr (em_cpr I 43 102 9) 44 103 9) 45 104 9, J, em_RT lw) 46 105 0 0 9) _
  rw [em_cpy9]
  iterate 12 refine em_next rfl ?_
  refine em_done rfl ?_
  exact ce_cpx (s := 42) (t := 101) (by decide) h
theorem ce_cpOut_past10 (h : ∀ I' : Nat → Nat → Int32, (∀ a, ¬ (42 ≤ a ∧ a ≤ 46) → I' a = I a) → (∀ (n : Nat) (W : em_Wt), n ≤ 9 → cr I 101 n W → cr I' 42 n W) → Q none (em_SH, I', J, em_RT lw)) : em_call d 26 [.ref 42, .ref 101] (em_SH, I, J, em_RT lw) Q := by
  iterate 8 refine em_next rfl ?_
  show em_wp em_sc0 d 26 15 _ [] (em_cpy (em_SH, I, J, em_RT lw) 102 43 0 0 9) _
  rw [em_cpy9]
  iterate 8 refine em_next rfl ?_
  show em_wp em_sc0 d 26 30 _ [] (em_cpy (em_SH, em_cpr I 102 43 9, J, em_RT lw) 103 44 0 0 9) _
  rw [em_cpy9]
  iterate 8 refine em_next rfl ?_
  show em_wp em_sc0 d 26 45 _ [] (em_cpy (em_SH, em_cpr (em_cpr I 102 43 9) 103 44 9, J, em_RT lw) 104 45 0 0 9) _
  rw [em_cpy9]
  iterate 8 refine em_next rfl ?_
  show em_wp em_sc0 d 26 60 _ [] (em_cpy (em_SH, em_cpr (em_cpr (em_cpr I 102 43 9) 103 44 9) 104 45 9, J, em_RT lw) 105 46 0 0 9) _
  rw [em_cpy9]
  iterate 12 refine em_next rfl ?_
  refine em_done rfl ?_
  exact ce_cpx (s := 101) (t := 42) (by decide) h
theorem ce_cpIn_past11 (h : ∀ I' : Nat → Nat → Int32, (∀ a, ¬ (106 ≤ a ∧ a ≤ 110) → I' a = I a) → (∀ (n : Nat) (W : em_Wt), n ≤ 9 → cr I 42 n W → cr I' 106 n W) → Q none (em_SH, I', J, em_RT lw)) : em_call d 26 [.ref 106, .ref 42] (em_SH, I, J, em_RT lw) Q := by
  iterate 8 refine em_next rfl ?_
  show em_wp em_sc0 d 26 15 _ [] (em_cpy (em_SH, I, J, em_RT lw) 43 107 0 0 9) _
  rw [em_cpy9]
  iterate 8 refine em_next rfl ?_
  show em_wp em_sc0 d 26 30 _ [] (em_cpy (em_SH, em_cpr I 43 107 9, J, em_RT lw) 44 108 0 0 9) _
  rw [em_cpy9]
  iterate 8 refine em_next rfl ?_
  show em_wp em_sc0 d 26 45 _ [] (em_cpy (em_SH, em_cpr (em_cpr I 43 107 9) 44 108 9, J, em_RT lw) 45 109 0 0 9) _
  rw [em_cpy9]
  iterate 8 refine em_next rfl ?_
  show em_wp em_sc0 d 26 60 _ [] (em_cpy (em_SH, em_cpr (em_cpr (em_cpr I 43 107 9) 44 108 9) 45 109 9, J, em_RT lw) 46 110 0 0 9) _
  rw [em_cpy9]
  iterate 12 refine em_next rfl ?_
  refine em_done rfl ?_
  exact ce_cpx (s := 42) (t := 106) (by decide) h
theorem ce_cpOut_past11 (h : ∀ I' : Nat → Nat → Int32, (∀ a, ¬ (42 ≤ a ∧ a ≤ 46) → I' a = I a) → (∀ (n : Nat) (W : em_Wt), n ≤ 9 → cr I 106 n W → cr I' 42 n W) → Q none (em_SH, I', J, em_RT lw)) : em_call d 26 [.ref 42, .ref 106] (em_SH, I, J, em_RT lw) Q := by
  iterate 8 refine em_next rfl ?_
  show em_wp em_sc0 d 26 15 _ [] (em_cpy (em_SH, I, J, em_RT lw) 107 43 0 0 9) _
  rw [em_cpy9]
  iterate 8 refine em_next rfl ?_
  show em_wp em_sc0 d 26 30 _ [] (em_cpy (em_SH, em_cpr I 107 43 9, J, em_RT lw) 108 44 0 0 9) _
  rw [em_cpy9]
  iterate 8 refine em_next rfl ?_
  show em_wp em_sc0 d 26 45 _ [] (em_cpy (em_SH, em_cpr (em_cpr I 107 43 9) 108 44 9, J, em_RT lw) 109 45 0 0 9) _
  rw [em_cpy9]
  iterate 8 refine em_next rfl ?_
  show em_wp em_sc0 d 26 60 _ [] (em_cpy (em_SH, em_cpr (em_cpr (em_cpr I 107 43 9) 108 44 9) 109 45 9, J, em_RT lw) 110 46 0 0 9) _
  rw [em_cpy9]
  iterate 12 refine em_next rfl ?_
  refine em_done rfl ?_
  exact ce_cpx (s := 106) (t := 42) (by decide) h
theorem ce_cpIn_past12 (h : ∀ I' : Nat → Nat → Int32, (∀ a, ¬ (111 ≤ a ∧ a ≤ 115) → I' a = I a) → (∀ (n : Nat) (W : em_Wt), n ≤ 9 → cr I 42 n W → cr I' 111 n W) → Q none (em_SH, I', J, em_RT lw)) : em_call d 26 [.ref 111, .ref 42] (em_SH, I, J, em_RT lw) Q := by
  iterate 8 refine em_next rfl ?_
  show em_wp em_sc0 d 26 15 _ [] (em_cpy (em_SH, I, J, em_RT lw) 43 112 0 0 9) _
  rw [em_cpy9]
  iterate 8 refine em_next rfl ?_
  show em_wp em_sc0 d 26 30 _ [] (em_cpy (em_SH, em_cpr I 43 112 9, J, em_RT lw) 44 113 0 0 9) _
  rw [em_cpy9]
  iterate 8 refine em_next rfl ?_
  show em_wp em_sc0 d 26 45 _ [] (em_cpy (em_SH, em_cpr (em_cpr I 43 112 9) 44 113 9, J, em_RT lw) 45 114 0 0 9) _
  rw [em_cpy9]
  iterate 8 refine em_next rfl ?_
  show em_wp em_sc0 d 26 60 _ [] (em_cpy (em_SH, em_cpr (em_cpr (em_cpr I 43 112 9) 44 113 9) 45 114 9, J, em_RT lw) 46 115 0 0 9) _
  rw [em_cpy9]
  iterate 12 refine em_next rfl ?_
  refine em_done rfl ?_
  exact ce_cpx (s := 42) (t := 111) (by decide) h
theorem ce_cpOut_past12 (h : ∀ I' : Nat → Nat → Int32, (∀ a, ¬ (42 ≤ a ∧ a ≤ 46) → I' a = I a) → (∀ (n : Nat) (W : em_Wt), n ≤ 9 → cr I 111 n W → cr I' 42 n W) → Q none (em_SH, I', J, em_RT lw)) : em_call d 26 [.ref 42, .ref 111] (em_SH, I, J, em_RT lw) Q := by
  iterate 8 refine em_next rfl ?_
  show em_wp em_sc0 d 26 15 _ [] (em_cpy (em_SH, I, J, em_RT lw) 112 43 0 0 9) _
  rw [em_cpy9]
  iterate 8 refine em_next rfl ?_
  show em_wp em_sc0 d 26 30 _ [] (em_cpy (em_SH, em_cpr I 112 43 9, J, em_RT lw) 113 44 0 0 9) _
  rw [em_cpy9]
  iterate 8 refine em_next rfl ?_
  show em_wp em_sc0 d 26 45 _ [] (em_cpy (em_SH, em_cpr (em_cpr I 112 43 9) 113 44 9, J, em_RT lw) 114 45 0 0 9) _
  rw [em_cpy9]
  iterate 8 refine em_next rfl ?_
  show em_wp em_sc0 d 26 60 _ [] (em_cpy (em_SH, em_cpr (em_cpr (em_cpr I 112 43 9) 113 44 9) 114 45 9, J, em_RT lw) 115 46 0 0 9) _
  rw [em_cpy9]
  iterate 12 refine em_next rfl ?_
  refine em_done rfl ?_
  exact ce_cpx (s := 111) (t := 42) (by decide) h
theorem ce_cpIn_past13 (h : ∀ I' : Nat → Nat → Int32, (∀ a, ¬ (116 ≤ a ∧ a ≤ 120) → I' a = I a) → (∀ (n : Nat) (W : em_Wt), n ≤ 9 → cr I 42 n W → cr I' 116 n W) → Q none (em_SH, I', J, em_RT lw)) : em_call d 26 [.ref 116, .ref 42] (em_SH, I, J, em_RT lw) Q := by
  iterate 8 refine em_next rfl ?_
  show em_wp em_sc0 d 26 15 _ [] (em_cpy (em_SH, I, J, em_RT lw) 43 117 0 0 9) _
  rw [em_cpy9]
  iterate 8 refine em_next rfl ?_
  show em_wp em_sc0 d 26 30 _ [] (em_cpy (em_SH, em_cpr I 43 117 9, J, em_RT lw) 44 118 0 0 9) _
  rw [em_cpy9]
  iterate 8 refine em_next rfl ?_
  show em_wp em_sc0 d 26 45 _ [] (em_cpy (em_SH, em_cpr (em_cpr I 43 117 9) 44 118 9, J, em_RT lw) 45 119 0 0 9) _
  rw [em_cpy9]
  iterate 8 refine em_next rfl ?_
  show em_wp em_sc0 d 26 60 _ [] (em_cpy (em_SH, em_cpr (em_cpr (em_cpr I 43 117 9) 44 118 9) 45 119 9, J, em_RT lw) 46 120 0 0 9) _
  rw [em_cpy9]
  iterate 12 refine em_next rfl ?_
  refine em_done rfl ?_
  exact ce_cpx (s := 42) (t := 116) (by decide) h
theorem ce_cpOut_past13 (h : ∀ I' : Nat → Nat → Int32, (∀ a, ¬ (42 ≤ a ∧ a ≤ 46) → I' a = I a) → (∀ (n : Nat) (W : em_Wt), n ≤ 9 → cr I 116 n W → cr I' 42 n W) → Q none (em_SH, I', J, em_RT lw)) : em_call d 26 [.ref 42, .ref 116] (em_SH, I, J, em_RT lw) Q := by
  iterate 8 refine em_next rfl ?_
  show em_wp em_sc0 d 26 15 _ [] (em_cpy (em_SH, I, J, em_RT lw) 117 43 0 0 9) _
  rw [em_cpy9]
  iterate 8 refine em_next rfl ?_
  show em_wp em_sc0 d 26 30 _ [] (em_cpy (em_SH, em_cpr I 117 43 9, J, em_RT lw) 118 44 0 0 9) _
  rw [em_cpy9]
  iterate 8 refine em_next rfl ?_
  show em_wp em_sc0 d 26 45 _ [] (em_cpy (em_SH, em_cpr (em_cpr I 117 43 9) 118 44 9, J, em_RT lw) 119 45 0 0 9) _
  rw [em_cpy9]
  iterate 8 refine em_next rfl ?_
  show em_wp em_sc0 d 26 60 _ [] (em_cpy (em_SH, em_cpr (em_cpr (em_cpr I 117 43 9) 118 44 9) 119 45 9, J, em_RT lw) 120 46 0 0 9) _
  rw [em_cpy9]
  iterate 12 refine em_next rfl ?_
  refine em_done rfl ?_
  exact ce_cpx (s := 116) (t := 42) (by decide) h
theorem ce_cpIn_past14 (h : ∀ I' : Nat → Nat → Int32, (∀ a, ¬ (121 ≤ a ∧ a ≤ 125) → I' a = I a) → (∀ (n : Nat) (W : em_Wt), n ≤ 9 → cr I 42 n W → cr I' 121 n W) → Q none (em_SH, I', J, em_RT lw)) : em_call d 26 [.ref 121, .ref 42] (em_SH, I, J, em_RT lw) Q := by
  iterate 8 refine em_next rfl ?_
  show em_wp em_sc0 d 26 15 _ [] (em_cpy (em_SH, I, J, em_RT lw) 43 122 0 0 9) _
  rw [em_cpy9]
  iterate 8 refine em_next rfl ?_
  show em_wp em_sc0 d 26 30 _ [] (em_cpy (em_SH, em_cpr I 43 122 9, J, em_RT lw) 44 123 0 0 9) _
  rw [em_cpy9]
  iterate 8 refine em_next rfl ?_
  show em_wp em_sc0 d 26 45 _ [] (em_cpy (em_SH, em_cpr (em_cpr I 43 122 9) 44 123 9, J, em_RT lw) 45 124 0 0 9) _
  rw [em_cpy9]
  iterate 8 refine em_next rfl ?_
  show em_wp em_sc0 d 26 60 _ [] (em_cpy (em_SH, em_cpr (em_cpr (em_cpr I 43 122 9) 44 123 9) 45 124 9, J, em_RT lw) 46 125 0 0 9) _
  rw [em_cpy9]
  iterate 12 refine em_next rfl ?_
  refine em_done rfl ?_
  exact ce_cpx (s := 42) (t := 121) (by decide) h
theorem ce_cpOut_past14 (h : ∀ I' : Nat → Nat → Int32, (∀ a, ¬ (42 ≤ a ∧ a ≤ 46) → I' a = I a) → (∀ (n : Nat) (W : em_Wt), n ≤ 9 → cr I 121 n W → cr I' 42 n W) → Q none (em_SH, I', J, em_RT lw)) : em_call d 26 [.ref 42, .ref 121] (em_SH, I, J, em_RT lw) Q := by
  iterate 8 refine em_next rfl ?_
  show em_wp em_sc0 d 26 15 _ [] (em_cpy (em_SH, I, J, em_RT lw) 122 43 0 0 9) _
  rw [em_cpy9]
  iterate 8 refine em_next rfl ?_
  show em_wp em_sc0 d 26 30 _ [] (em_cpy (em_SH, em_cpr I 122 43 9, J, em_RT lw) 123 44 0 0 9) _
  rw [em_cpy9]
  iterate 8 refine em_next rfl ?_
  show em_wp em_sc0 d 26 45 _ [] (em_cpy (em_SH, em_cpr (em_cpr I 122 43 9) 123 44 9, J, em_RT lw) 124 45 0 0 9) _
  rw [em_cpy9]
  iterate 8 refine em_next rfl ?_
  show em_wp em_sc0 d 26 60 _ [] (em_cpy (em_SH, em_cpr (em_cpr (em_cpr I 122 43 9) 123 44 9) 124 45 9, J, em_RT lw) 125 46 0 0 9) _
  rw [em_cpy9]
  iterate 12 refine em_next rfl ?_
  refine em_done rfl ?_
  exact ce_cpx (s := 121) (t := 42) (by decide) h
theorem ce_cpIn_past15 (h : ∀ I' : Nat → Nat → Int32, (∀ a, ¬ (126 ≤ a ∧ a ≤ 130) → I' a = I a) → (∀ (n : Nat) (W : em_Wt), n ≤ 9 → cr I 42 n W → cr I' 126 n W) → Q none (em_SH, I', J, em_RT lw)) : em_call d 26 [.ref 126, .ref 42] (em_SH, I, J, em_RT lw) Q := by
  iterate 8 refine em_next rfl ?_
  show em_wp em_sc0 d 26 15 _ [] (em_cpy (em_SH, I, J, em_RT lw) 43 127 0 0 9) _
  rw [em_cpy9]
  iterate 8 refine em_next rfl ?_
  show em_wp em_sc0 d 26 30 _ [] (em_cpy (em_SH, em_cpr I 43 127 9, J, em_RT lw) 44 128 0 0 9) _
  rw [em_cpy9]
  iterate 8 refine em_next rfl ?_
  show em_wp em_sc0 d 26 45 _ [] (em_cpy (em_SH, em_cpr (em_cpr I 43 127 9) 44 128 9, J, em_RT lw) 45 129 0 0 9) _
  rw [em_cpy9]
  iterate 8 refine em_next rfl ?_
  show em_wp em_sc0 d 26 60 _ [] (em_cpy (em_SH, em_cpr (em_cpr (em_cpr I 43 127 9) 44 128 9) 45 129 9, J, em_RT lw) 46 130 0 0 9) _
  rw [em_cpy9]
  iterate 12 refine em_next rfl ?_
  refine em_done rfl ?_
  exact ce_cpx (s := 42) (t := 126) (by decide) h
theorem ce_cpOut_past15 (h : ∀ I' : Nat → Nat → Int32, (∀ a, ¬ (42 ≤ a ∧ a ≤ 46) → I' a = I a) → (∀ (n : Nat) (W : em_Wt), n ≤ 9 → cr I 126 n W → cr I' 42 n W) → Q none (em_SH, I', J, em_RT lw)) : em_call d 26 [.ref 42, .ref 126] (em_SH, I, J, em_RT lw) Q := by
  iterate 8 refine em_next rfl ?_
  show em_wp em_sc0 d 26 15 _ [] (em_cpy (em_SH, I, J, em_RT lw) 127 43 0 0 9) _
  rw [em_cpy9]
  iterate 8 refine em_next rfl ?_
  show em_wp em_sc0 d 26 30 _ [] (em_cpy (em_SH, em_cpr I 127 43 9, J, em_RT lw) 128 44 0 0 9) _
  rw [em_cpy9]
  iterate 8 refine em_next rfl ?_
  show em_wp em_sc0 d 26 45 _ [] (em_cpy (em_SH, em_cpr (em_cpr I 127 43 9) 128 44 9, J, em_RT lw) 129 45 0 0 9) _
  rw [em_cpy9]
  iterate 8 refine em_next rfl ?_
  show em_wp em_sc0 d 26 60 _ [] (em_cpy (em_SH, em_cpr (em_cpr (em_cpr I 127 43 9) 128 44 9) 129 45 9, J, em_RT lw) 130 46 0 0 9) _
  rw [em_cpy9]
  iterate 12 refine em_next rfl ?_
  refine em_done rfl ?_
  exact ce_cpx (s := 126) (t := 42) (by decide) h
theorem ce_cpIn_past16 (h : ∀ I' : Nat → Nat → Int32, (∀ a, ¬ (131 ≤ a ∧ a ≤ 135) → I' a = I a) → (∀ (n : Nat) (W : em_Wt), n ≤ 9 → cr I 42 n W → cr I' 131 n W) → Q none (em_SH, I', J, em_RT lw)) : em_call d 26 [.ref 131, .ref 42] (em_SH, I, J, em_RT lw) Q := by
  iterate 8 refine em_next rfl ?_
  show em_wp em_sc0 d 26 15 _ [] (em_cpy (em_SH, I, J, em_RT lw) 43 132 0 0 9) _
  rw [em_cpy9]
  iterate 8 refine em_next rfl ?_
  show em_wp em_sc0 d 26 30 _ [] (em_cpy (em_SH, em_cpr I 43 132 9, J, em_RT lw) 44 133 0 0 9) _
  rw [em_cpy9]
  iterate 8 refine em_next rfl ?_
  show em_wp em_sc0 d 26 45 _ [] (em_cpy (em_SH, em_cpr (em_cpr I 43 132 9) 44 133 9, J, em_RT lw) 45 134 0 0 9) _
  rw [em_cpy9]
  iterate 8 refine em_next rfl ?_
  show em_wp em_sc0 d 26 60 _ [] (em_cpy (em_SH, em_cpr (em_cpr (em_cpr I 43 132 9) 44 133 9) 45 134 9, J, em_RT lw) 46 135 0 0 9) _
  rw [em_cpy9]
  iterate 12 refine em_next rfl ?_
  refine em_done rfl ?_
  exact ce_cpx (s := 42) (t := 131) (by decide) h
theorem ce_cpOut_past16 (h : ∀ I' : Nat → Nat → Int32, (∀ a, ¬ (42 ≤ a ∧ a ≤ 46) → I' a = I a) → (∀ (n : Nat) (W : em_Wt), n ≤ 9 → cr I 131 n W → cr I' 42 n W) → Q none (em_SH, I', J, em_RT lw)) : em_call d 26 [.ref 42, .ref 131] (em_SH, I, J, em_RT lw) Q := by
  iterate 8 refine em_next rfl ?_
  show em_wp em_sc0 d 26 15 _ [] (em_cpy (em_SH, I, J, em_RT lw) 132 43 0 0 9) _
  rw [em_cpy9]
  iterate 8 refine em_next rfl ?_
  show em_wp em_sc0 d 26 30 _ [] (em_cpy (em_SH, em_cpr I 132 43 9, J, em_RT lw) 133 44 0 0 9) _
  rw [em_cpy9]
  iterate 8 refine em_next rfl ?_
  show em_wp em_sc0 d 26 45 _ [] (em_cpy (em_SH, em_cpr (em_cpr I 132 43 9) 133 44 9, J, em_RT lw) 134 45 0 0 9) _
  rw [em_cpy9]
  iterate 8 refine em_next rfl ?_
  show em_wp em_sc0 d 26 60 _ [] (em_cpy (em_SH, em_cpr (em_cpr (em_cpr I 132 43 9) 133 44 9) 134 45 9, J, em_RT lw) 135 46 0 0 9) _
  rw [em_cpy9]
  iterate 12 refine em_next rfl ?_
  refine em_done rfl ?_
  exact ce_cpx (s := 131) (t := 42) (by decide) h
theorem ce_cpIn_past17 (h : ∀ I' : Nat → Nat → Int32, (∀ a, ¬ (136 ≤ a ∧ a ≤ 140) → I' a = I a) → (∀ (n : Nat) (W : em_Wt), n ≤ 9 → cr I 42 n W → cr I' 136 n W) → Q none (em_SH, I', J, em_RT lw)) : em_call d 26 [.ref 136, .ref 42] (em_SH, I, J, em_RT lw) Q := by
  iterate 8 refine em_next rfl ?_
  show em_wp em_sc0 d 26 15 _ [] (em_cpy (em_SH, I, J, em_RT lw) 43 137 0 0 9) _
  rw [em_cpy9]
  iterate 8 refine em_next rfl ?_
  show em_wp em_sc0 d 26 30 _ [] (em_cpy (em_SH, em_cpr I 43 137 9, J, em_RT lw) 44 138 0 0 9) _
  rw [em_cpy9]
  iterate 8 refine em_next rfl ?_
  show em_wp em_sc0 d 26 45 _ [] (em_cpy (em_SH, em_cpr (em_cpr I 43 137 9) 44 138 9, J, em_RT lw) 45 139 0 0 9) _
  rw [em_cpy9]
  iterate 8 refine em_next rfl ?_
  show em_wp em_sc0 d 26 60 _ [] (em_cpy (em_SH, em_cpr (em_cpr (em_cpr I 43 137 9) 44 138 9) 45 139 9, J, em_RT lw) 46 140 0 0 9) _
  rw [em_cpy9]
  iterate 12 refine em_next rfl ?_
  refine em_done rfl ?_
  exact ce_cpx (s := 42) (t := 136) (by decide) h
theorem ce_cpOut_past17 (h : ∀ I' : Nat → Nat → Int32, (∀ a, ¬ (42 ≤ a ∧ a ≤ 46) → I' a = I a) → (∀ (n : Nat) (W : em_Wt), n ≤ 9 → cr I 136 n W → cr I' 42 n W) → Q none (em_SH, I', J, em_RT lw)) : em_call d 26 [.ref 42, .ref 136] (em_SH, I, J, em_RT lw) Q := by
  iterate 8 refine em_next rfl ?_
  show em_wp em_sc0 d 26 15 _ [] (em_cpy (em_SH, I, J, em_RT lw) 137 43 0 0 9) _
  rw [em_cpy9]
  iterate 8 refine em_next rfl ?_
  show em_wp em_sc0 d 26 30 _ [] (em_cpy (em_SH, em_cpr I 137 43 9, J, em_RT lw) 138 44 0 0 9) _
  rw [em_cpy9]
  iterate 8 refine em_next rfl ?_
  show em_wp em_sc0 d 26 45 _ [] (em_cpy (em_SH, em_cpr (em_cpr I 137 43 9) 138 44 9, J, em_RT lw) 139 45 0 0 9) _
  rw [em_cpy9]
  iterate 8 refine em_next rfl ?_
  show em_wp em_sc0 d 26 60 _ [] (em_cpy (em_SH, em_cpr (em_cpr (em_cpr I 137 43 9) 138 44 9) 139 45 9, J, em_RT lw) 140 46 0 0 9) _
  rw [em_cpy9]
  iterate 12 refine em_next rfl ?_
  refine em_done rfl ?_
  exact ce_cpx (s := 136) (t := 42) (by decide) h
theorem ce_cpIn_past18 (h : ∀ I' : Nat → Nat → Int32, (∀ a, ¬ (141 ≤ a ∧ a ≤ 145) → I' a = I a) → (∀ (n : Nat) (W : em_Wt), n ≤ 9 → cr I 42 n W → cr I' 141 n W) → Q none (em_SH, I', J, em_RT lw)) : em_call d 26 [.ref 141, .ref 42] (em_SH, I, J, em_RT lw) Q := by
  iterate 8 refine em_next rfl ?_
  show em_wp em_sc0 d 26 15 _ [] (em_cpy (em_SH, I, J, em_RT lw) 43 142 0 0 9) _
  rw [em_cpy9]
  iterate 8 refine em_next rfl ?_
  show em_wp em_sc0 d 26 30 _ [] (em_cpy (em_SH, em_cpr I 43 142 9, J, em_RT lw) 44 143 0 0 9) _
  rw [em_cpy9]
  iterate 8 refine em_next rfl ?_
  show em_wp em_sc0 d 26 45 _ [] (em_cpy (em_SH, em_cpr (em_cpr I 43 142 9) 44 143 9, J, em_RT lw) 45 144 0 0 9) _
  rw [em_cpy9]
  iterate 8 refine em_next rfl ?_
  show em_wp em_sc0 d 26 60 _ [] (em_cpy (em_SH, em_cpr (em_cpr (em_cpr I 43 142 9) 44 143 9) 45 144 9, J, em_RT lw) 46 145 0 0 9) _
  rw [em_cpy9]
  iterate 12 refine em_next rfl ?_
  refine em_done rfl ?_
  exact ce_cpx (s := 42) (t := 141) (by decide) h
theorem ce_cpOut_past18 (h : ∀ I' : Nat → Nat → Int32, (∀ a, ¬ (42 ≤ a ∧ a ≤ 46) → I' a = I a) → (∀ (n : Nat) (W : em_Wt), n ≤ 9 → cr I 141 n W → cr I' 42 n W) → Q none (em_SH, I', J, em_RT lw)) : em_call d 26 [.ref 42, .ref 141] (em_SH, I, J, em_RT lw) Q := by
  iterate 8 refine em_next rfl ?_
  show em_wp em_sc0 d 26 15 _ [] (em_cpy (em_SH, I, J, em_RT lw) 142 43 0 0 9) _
  rw [em_cpy9]
  iterate 8 refine em_next rfl ?_
  show em_wp em_sc0 d 26 30 _ [] (em_cpy (em_SH, em_cpr I 142 43 9, J, em_RT lw) 143 44 0 0 9) _
  rw [em_cpy9]
  iterate 8 refine em_next rfl ?_
  show em_wp em_sc0 d 26 45 _ [] (em_cpy (em_SH, em_cpr (em_cpr I 142 43 9) 143 44 9, J, em_RT lw) 144 45 0 0 9) _
  rw [em_cpy9]
  iterate 8 refine em_next rfl ?_
  show em_wp em_sc0 d 26 60 _ [] (em_cpy (em_SH, em_cpr (em_cpr (em_cpr I 142 43 9) 143 44 9) 144 45 9, J, em_RT lw) 145 46 0 0 9) _
  rw [em_cpy9]
  iterate 12 refine em_next rfl ?_
  refine em_done rfl ?_
  exact ce_cpx (s := 141) (t := 42) (by decide) h
theorem ce_cpIn_past19 (h : ∀ I' : Nat → Nat → Int32, (∀ a, ¬ (146 ≤ a ∧ a ≤ 150) → I' a = I a) → (∀ (n : Nat) (W : em_Wt), n ≤ 9 → cr I 42 n W → cr I' 146 n W) → Q none (em_SH, I', J, em_RT lw)) : em_call d 26 [.ref 146, .ref 42] (em_SH, I, J, em_RT lw) Q := by
  iterate 8 refine em_next rfl ?_
  show em_wp em_sc0 d 26 15 _ [] (em_cpy (em_SH, I, J, em_RT lw) 43 147 0 0 9) _
  rw [em_cpy9]
  iterate 8 refine em_next rfl ?_
  show em_wp em_sc0 d 26 30 _ [] (em_cpy (em_SH, em_cpr I 43 147 9, J, em_RT lw) 44 148 0 0 9) _
  rw [em_cpy9]
  iterate 8 refine em_next rfl ?_
  show em_wp em_sc0 d 26 45 _ [] (em_cpy (em_SH, em_cpr (em_cpr I 43 147 9) 44 148 9, J, em_RT lw) 45 149 0 0 9) _
  rw [em_cpy9]
  iterate 8 refine em_next rfl ?_
  show em_wp em_sc0 d 26 60 _ [] (em_cpy (em_SH, em_cpr (em_cpr (em_cpr I 43 147 9) 44 148 9) 45 149 9, J, em_RT lw) 46 150 0 0 9) _
  rw [em_cpy9]
  iterate 12 refine em_next rfl ?_
  refine em_done rfl ?_
  exact ce_cpx (s := 42) (t := 146) (by decide) h
theorem ce_cpOut_past19 (h : ∀ I' : Nat → Nat → Int32, (∀ a, ¬ (42 ≤ a ∧ a ≤ 46) → I' a = I a) → (∀ (n : Nat) (W : em_Wt), n ≤ 9 → cr I 146 n W → cr I' 42 n W) → Q none (em_SH, I', J, em_RT lw)) : em_call d 26 [.ref 42, .ref 146] (em_SH, I, J, em_RT lw) Q := by
  iterate 8 refine em_next rfl ?_
  show em_wp em_sc0 d 26 15 _ [] (em_cpy (em_SH, I, J, em_RT lw) 147 43 0 0 9) _
  rw [em_cpy9]
  iterate 8 refine em_next rfl ?_
  show em_wp em_sc0 d 26 30 _ [] (em_cpy (em_SH, em_cpr I 147 43 9, J, em_RT lw) 148 44 0 0 9) _
  rw [em_cpy9]
  iterate 8 refine em_next rfl ?_
  show em_wp em_sc0 d 26 45 _ [] (em_cpy (em_SH, em_cpr (em_cpr I 147 43 9) 148 44 9, J, em_RT lw) 149 45 0 0 9) _
  rw [em_cpy9]
  iterate 8 refine em_next rfl ?_
  show em_wp em_sc0 d 26 60 _ [] (em_cpy (em_SH, em_cpr (em_cpr (em_cpr I 147 43 9) 148 44 9) 149 45 9, J, em_RT lw) 150 46 0 0 9) _
  rw [em_cpy9]
  iterate 12 refine em_next rfl ?_
  refine em_done rfl ?_
  exact ce_cpx (s := 146) (t := 42) (by decide) h
theorem ce_cpIn_past20 (h : ∀ I' : Nat → Nat → Int32, (∀ a, ¬ (151 ≤ a ∧ a ≤ 155) → I' a = I a) → (∀ (n : Nat) (W : em_Wt), n ≤ 9 → cr I 42 n W → cr I' 151 n W) → Q none (em_SH, I', J, em_RT lw)) : em_call d 26 [.ref 151, .ref 42] (em_SH, I, J, em_RT lw) Q := by
  iterate 8 refine em_next rfl ?_
  show em_wp em_sc0 d 26 15 _ [] (em_cpy (em_SH, I, J, em_RT lw) 43 152 0 0 9) _
  rw [em_cpy9]
  iterate 8 refine em_next rfl ?_
  show em_wp em_sc0 d 26 30 _ [] (em_cpy (em_SH, em_cpr I 43 152 9, J, em_RT lw) 44 153 0 0 9) _
  rw [em_cpy9]
  iterate 8 refine em_next rfl ?_
  show em_wp em_sc0 d 26 45 _ [] (em_cpy (em_SH, em_cpr (em_cpr I 43 152 9) 44 153 9, J, em_RT lw) 45 154 0 0 9) _
  rw [em_cpy9]
  iterate 8 refine em_next rfl ?_
  show em_wp em_sc0 d 26 60 _ [] (em_cpy (em_SH, em_cpr (em_cpr (em_cpr I 43 152 9) 44 153 9) 45 154 9, J, em_RT lw) 46 155 0 0 9) _
  rw [em_cpy9]
  iterate 12 refine em_next rfl ?_
  refine em_done rfl ?_
  exact ce_cpx (s := 42) (t := 151) (by decide) h
theorem ce_cpOut_past20 (h : ∀ I' : Nat → Nat → Int32, (∀ a, ¬ (42 ≤ a ∧ a ≤ 46) → I' a = I a) → (∀ (n : Nat) (W : em_Wt), n ≤ 9 → cr I 151 n W → cr I' 42 n W) → Q none (em_SH, I', J, em_RT lw)) : em_call d 26 [.ref 42, .ref 151] (em_SH, I, J, em_RT lw) Q := by
  iterate 8 refine em_next rfl ?_
  show em_wp em_sc0 d 26 15 _ [] (em_cpy (em_SH, I, J, em_RT lw) 152 43 0 0 9) _
  rw [em_cpy9]
  iterate 8 refine em_next rfl ?_
  show em_wp em_sc0 d 26 30 _ [] (em_cpy (em_SH, em_cpr I 152 43 9, J, em_RT lw) 153 44 0 0 9) _
  rw [em_cpy9]
  iterate 8 refine em_next rfl ?_
  show em_wp em_sc0 d 26 45 _ [] (em_cpy (em_SH, em_cpr (em_cpr I 152 43 9) 153 44 9, J, em_RT lw) 154 45 0 0 9) _
  rw [em_cpy9]
  iterate 8 refine em_next rfl ?_
  show em_wp em_sc0 d 26 60 _ [] (em_cpy (em_SH, em_cpr (em_cpr (em_cpr I 152 43 9) 153 44 9) 154 45 9, J, em_RT lw) 155 46 0 0 9) _
  rw [em_cpy9]
  iterate 12 refine em_next rfl ?_
  refine em_done rfl ?_
  exact ce_cpx (s := 151) (t := 42) (by decide) h
theorem ce_cpIn_past21 (h : ∀ I' : Nat → Nat → Int32, (∀ a, ¬ (156 ≤ a ∧ a ≤ 160) → I' a = I a) → (∀ (n : Nat) (W : em_Wt), n ≤ 9 → cr I 42 n W → cr I' 156 n W) → Q none (em_SH, I', J, em_RT lw)) : em_call d 26 [.ref 156, .ref 42] (em_SH, I, J, em_RT lw) Q := by
  iterate 8 refine em_next rfl ?_
  show em_wp em_sc0 d 26 15 _ [] (em_cpy (em_SH, I, J, em_RT lw) 43 157 0 0 9) _
  rw [em_cpy9]
  iterate 8 refine em_next rfl ?_
  show em_wp em_sc0 d 26 30 _ [] (em_cpy (em_SH, em_cpr I 43 157 9, J, em_RT lw) 44 158 0 0 9) _
  rw [em_cpy9]
  iterate 8 refine em_next rfl ?_
  show em_wp em_sc0 d 26 45 _ [] (em_cpy (em_SH, em_cpr (em_cpr I 43 157 9) 44 158 9, J, em_RT lw) 45 159 0 0 9) _
  rw [em_cpy9]
  iterate 8 refine em_next rfl ?_
  show em_wp em_sc0 d 26 60 _ [] (em_cpy (em_SH, em_cpr (em_cpr (em_cpr I 43 157 9) 44 158 9) 45 159 9, J, em_RT lw) 46 160 0 0 9) _
  rw [em_cpy9]
  iterate 12 refine em_next rfl ?_
  refine em_done rfl ?_
  exact ce_cpx (s := 42) (t := 156) (by decide) h
theorem ce_cpOut_past21 (h : ∀ I' : Nat → Nat → Int32, (∀ a, ¬ (42 ≤ a ∧ a ≤ 46) → I' a = I a) → (∀ (n : Nat) (W : em_Wt), n ≤ 9 → cr I 156 n W → cr I' 42 n W) → Q none (em_SH, I', J, em_RT lw)) : em_call d 26 [.ref 42, .ref 156] (em_SH, I, J, em_RT lw) Q := by
  iterate 8 refine em_next rfl ?_
  show em_wp em_sc0 d 26 15 _ [] (em_cpy (em_SH, I, J, em_RT lw) 157 43 0 0 9) _
  rw [em_cpy9]
  iterate 8 refine em_next rfl ?_
  show em_wp em_sc0 d 26 30 _ [] (em_cpy (em_SH, em_cpr I 157 43 9, J, em_RT lw) 158 44 0 0 9) _
  rw [em_cpy9]
  iterate 8 refine em_next rfl ?_
  show em_wp em_sc0 d 26 45 _ [] (em_cpy (em_SH, em_cpr (em_cpr I 157 43 9) 158 44 9, J, em_RT lw) 159 45 0 0 9) _
  rw [em_cpy9]
  iterate 8 refine em_next rfl ?_
  show em_wp em_sc0 d 26 60 _ [] (em_cpy (em_SH, em_cpr (em_cpr (em_cpr I 157 43 9) 158 44 9) 159 45 9, J, em_RT lw) 160 46 0 0 9) _
  rw [em_cpy9]
  iterate 12 refine em_next rfl ?_
  refine em_done rfl ?_
  exact ce_cpx (s := 156) (t := 42) (by decide) h
theorem ce_cpIn_past22 (h : ∀ I' : Nat → Nat → Int32, (∀ a, ¬ (161 ≤ a ∧ a ≤ 165) → I' a = I a) → (∀ (n : Nat) (W : em_Wt), n ≤ 9 → cr I 42 n W → cr I' 161 n W) → Q none (em_SH, I', J, em_RT lw)) : em_call d 26 [.ref 161, .ref 42] (em_SH, I, J, em_RT lw) Q := by
  iterate 8 refine em_next rfl ?_
  show em_wp em_sc0 d 26 15 _ [] (em_cpy (em_SH, I, J, em_RT lw) 43 162 0 0 9) _
  rw [em_cpy9]
  iterate 8 refine em_next rfl ?_
  show em_wp em_sc0 d 26 30 _ [] (em_cpy (em_SH, em_cpr I 43 162 9, J, em_RT lw) 44 163 0 0 9) _
  rw [em_cpy9]
  iterate 8 refine em_next rfl ?_
  show em_wp em_sc0 d 26 45 _ [] (em_cpy (em_SH, em_cpr (em_cpr I 43 162 9) 44 163 9, J, em_RT lw) 45 164 0 0 9) _
  rw [em_cpy9]
  iterate 8 refine em_next rfl ?_
  show em_wp em_sc0 d 26 60 _ [] (em_cpy (em_SH, em_cpr (em_cpr (em_cpr I 43 162 9) 44 163 9) 45 164 9, J, em_RT lw) 46 165 0 0 9) _
  rw [em_cpy9]
  iterate 12 refine em_next rfl ?_
  refine em_done rfl ?_
  exact ce_cpx (s := 42) (t := 161) (by decide) h
theorem ce_cpOut_past22 (h : ∀ I' : Nat → Nat → Int32, (∀ a, ¬ (42 ≤ a ∧ a ≤ 46) → I' a = I a) → (∀ (n : Nat) (W : em_Wt), n ≤ 9 → cr I 161 n W → cr I' 42 n W) → Q none (em_SH, I', J, em_RT lw)) : em_call d 26 [.ref 42, .ref 161] (em_SH, I, J, em_RT lw) Q := by
  iterate 8 refine em_next rfl ?_
  show em_wp em_sc0 d 26 15 _ [] (em_cpy (em_SH, I, J, em_RT lw) 162 43 0 0 9) _
  rw [em_cpy9]
  iterate 8 refine em_next rfl ?_
  show em_wp em_sc0 d 26 30 _ [] (em_cpy (em_SH, em_cpr I 162 43 9, J, em_RT lw) 163 44 0 0 9) _
  rw [em_cpy9]
  iterate 8 refine em_next rfl ?_
  show em_wp em_sc0 d 26 45 _ [] (em_cpy (em_SH, em_cpr (em_cpr I 162 43 9) 163 44 9, J, em_RT lw) 164 45 0 0 9) _
  rw [em_cpy9]
  iterate 8 refine em_next rfl ?_
  show em_wp em_sc0 d 26 60 _ [] (em_cpy (em_SH, em_cpr (em_cpr (em_cpr I 162 43 9) 163 44 9) 164 45 9, J, em_RT lw) 165 46 0 0 9) _
  rw [em_cpy9]
  iterate 12 refine em_next rfl ?_
  refine em_done rfl ?_
  exact ce_cpx (s := 161) (t := 42) (by decide) h
theorem ce_cpIn_past23 (h : ∀ I' : Nat → Nat → Int32, (∀ a, ¬ (166 ≤ a ∧ a ≤ 170) → I' a = I a) → (∀ (n : Nat) (W : em_Wt), n ≤ 9 → cr I 42 n W → cr I' 166 n W) → Q none (em_SH, I', J, em_RT lw)) : em_call d 26 [.ref 166, .ref 42] (em_SH, I, J, em_RT lw) Q := by
  iterate 8 refine em_next rfl ?_
  show em_wp em_sc0 d 26 15 _ [] (em_cpy (em_SH, I, J, em_RT lw) 43 167 0 0 9) _
  rw [em_cpy9]
  iterate 8 refine em_next rfl ?_
  show em_wp em_sc0 d 26 30 _ [] (em_cpy (em_SH, em_cpr I 43 167 9, J, em_RT lw) 44 168 0 0 9) _
  rw [em_cpy9]
  iterate 8 refine em_next rfl ?_
  show em_wp em_sc0 d 26 45 _ [] (em_cpy (em_SH, em_cpr (em_cpr I 43 167 9) 44 168 9, J, em_RT lw) 45 169 0 0 9) _
  rw [em_cpy9]
  iterate 8 refine em_next rfl ?_
  show em_wp em_sc0 d 26 60 _ [] (em_cpy (em_SH, em_cpr (em_cpr (em_cpr I 43 167 9) 44 168 9) 45 169 9, J, em_RT lw) 46 170 0 0 9) _
  rw [em_cpy9]
  iterate 12 refine em_next rfl ?_
  refine em_done rfl ?_
  exact ce_cpx (s := 42) (t := 166) (by decide) h
theorem ce_cpOut_past23 (h : ∀ I' : Nat → Nat → Int32, (∀ a, ¬ (42 ≤ a ∧ a ≤ 46) → I' a = I a) → (∀ (n : Nat) (W : em_Wt), n ≤ 9 → cr I 166 n W → cr I' 42 n W) → Q none (em_SH, I', J, em_RT lw)) : em_call d 26 [.ref 42, .ref 166] (em_SH, I, J, em_RT lw) Q := by
  iterate 8 refine em_next rfl ?_
  show em_wp em_sc0 d 26 15 _ [] (em_cpy (em_SH, I, J, em_RT lw) 167 43 0 0 9) _
  rw [em_cpy9]
  iterate 8 refine em_next rfl ?_
  show em_wp em_sc0 d 26 30 _ [] (em_cpy (em_SH, em_cpr I 167 43 9, J, em_RT lw) 168 44 0 0 9) _
  rw [em_cpy9]
  iterate 8 refine em_next rfl ?_
  show em_wp em_sc0 d 26 45 _ [] (em_cpy (em_SH, em_cpr (em_cpr I 167 43 9) 168 44 9, J, em_RT lw) 169 45 0 0 9) _
  rw [em_cpy9]
  iterate 8 refine em_next rfl ?_
  show em_wp em_sc0 d 26 60 _ [] (em_cpy (em_SH, em_cpr (em_cpr (em_cpr I 167 43 9) 168 44 9) 169 45 9, J, em_RT lw) 170 46 0 0 9) _
  rw [em_cpy9]
  iterate 12 refine em_next rfl ?_
  refine em_done rfl ?_
  exact ce_cpx (s := 166) (t := 42) (by decide) h
theorem ce_cpIn_past24 (h : ∀ I' : Nat → Nat → Int32, (∀ a, ¬ (171 ≤ a ∧ a ≤ 175) → I' a = I a) → (∀ (n : Nat) (W : em_Wt), n ≤ 9 → cr I 42 n W → cr I' 171 n W) → Q none (em_SH, I', J, em_RT lw)) : em_call d 26 [.ref 171, .ref 42] (em_SH, I, J, em_RT lw) Q := by
  iterate 8 refine em_next rfl ?_
  show em_wp em_sc0 d 26 15 _ [] (em_cpy (em_SH, I, J, em_RT lw) 43 172 0 0 9) _
  rw [em_cpy9]
  iterate 8 refine em_next rfl ?_
  show em_wp em_sc0 d 26 30 _ [] (em_cpy (em_SH, em_cpr I 43 172 9, J, em_RT lw) 44 173 0 0 9) _
  rw [em_cpy9]
  iterate 8 refine em_next rfl ?_
  show em_wp em_sc0 d 26 45 _ [] (em_cpy (em_SH, em_cpr (em_cpr I 43 172 9) 44 173 9, J, em_RT lw) 45 174 0 0 9) _
  rw [em_cpy9]
  iterate 8 refine em_next rfl ?_
  show em_wp em_sc0 d 26 60 _ [] (em_cpy (em_SH, em_cpr (em_cpr (em_cpr I 43 172 9) 44 173 9) 45 174 9, J, em_RT lw) 46 175 0 0 9) _
  rw [em_cpy9]
  iterate 12 refine em_next rfl ?_
  refine em_done rfl ?_
  exact ce_cpx (s := 42) (t := 171) (by decide) h
theorem ce_cpOut_past24 (h : ∀ I' : Nat → Nat → Int32, (∀ a, ¬ (42 ≤ a ∧ a ≤ 46) → I' a = I a) → (∀ (n : Nat) (W : em_Wt), n ≤ 9 → cr I 171 n W → cr I' 42 n W) → Q none (em_SH, I', J, em_RT lw)) : em_call d 26 [.ref 42, .ref 171] (em_SH, I, J, em_RT lw) Q := by
  iterate 8 refine em_next rfl ?_
  show em_wp em_sc0 d 26 15 _ [] (em_cpy (em_SH, I, J, em_RT lw) 172 43 0 0 9) _
  rw [em_cpy9]
  iterate 8 refine em_next rfl ?_
  show em_wp em_sc0 d 26 30 _ [] (em_cpy (em_SH, em_cpr I 172 43 9, J, em_RT lw) 173 44 0 0 9) _
  rw [em_cpy9]
  iterate 8 refine em_next rfl ?_
  show em_wp em_sc0 d 26 45 _ [] (em_cpy (em_SH, em_cpr (em_cpr I 172 43 9) 173 44 9, J, em_RT lw) 174 45 0 0 9) _
  rw [em_cpy9]
  iterate 8 refine em_next rfl ?_
  show em_wp em_sc0 d 26 60 _ [] (em_cpy (em_SH, em_cpr (em_cpr (em_cpr I 172 43 9) 173 44 9) 174 45 9, J, em_RT lw) 175 46 0 0 9) _
  rw [em_cpy9]
  iterate 12 refine em_next rfl ?_
  refine em_done rfl ?_
  exact ce_cpx (s := 171) (t := 42) (by decide) h
theorem ce_cpIn_past25 (h : ∀ I' : Nat → Nat → Int32, (∀ a, ¬ (176 ≤ a ∧ a ≤ 180) → I' a = I a) → (∀ (n : Nat) (W : em_Wt), n ≤ 9 → cr I 42 n W → cr I' 176 n W) → Q none (em_SH, I', J, em_RT lw)) : em_call d 26 [.ref 176, .ref 42] (em_SH, I, J, em_RT lw) Q := by
  iterate 8 refine em_next rfl ?_
  show em_wp em_sc0 d 26 15 _ [] (em_cpy (em_SH, I, J, em_RT lw) 43 177 0 0 9) _
  rw [em_cpy9]
  iterate 8 refine em_next rfl ?_
  show em_wp em_sc0 d 26 30 _ [] (em_cpy (em_SH, em_cpr I 43 177 9, J, em_RT lw) 44 178 0 0 9) _
  rw [em_cpy9]
  iterate 8 refine em_next rfl ?_
  show em_wp em_sc0 d 26 45 _ [] (em_cpy (em_SH, em_cpr (em_cpr I 43 177 9) 44 178 9, J, em_RT lw) 45 179 0 0 9) _
  rw [em_cpy9]
  iterate 8 refine em_next rfl ?_
  show em_wp em_sc0 d 26 60 _ [] (em_cpy (em_SH, em_cpr (em_cpr (em_cpr I 43 177 9) 44 178 9) 45 179 9, J, em_RT lw) 46 180 0 0 9) _
  rw [em_cpy9]
  iterate 12 refine em_next rfl ?_
  refine em_done rfl ?_
  exact ce_cpx (s := 42) (t := 176) (by decide) h
theorem ce_cpOut_past25 (h : ∀ I' : Nat → Nat → Int32, (∀ a, ¬ (42 ≤ a ∧ a ≤ 46) → I' a = I a) → (∀ (n : Nat) (W : em_Wt), n ≤ 9 → cr I 176 n W → cr I' 42 n W) → Q none (em_SH, I', J, em_RT lw)) : em_call d 26 [.ref 42, .ref 176] (em_SH, I, J, em_RT lw) Q := by
  iterate 8 refine em_next rfl ?_
  show em_wp em_sc0 d 26 15 _ [] (em_cpy (em_SH, I, J, em_RT lw) 177 43 0 0 9) _
  rw [em_cpy9]
  iterate 8 refine em_next rfl ?_
  show em_wp em_sc0 d 26 30 _ [] (em_cpy (em_SH, em_cpr I 177 43 9, J, em_RT lw) 178 44 0 0 9) _
  rw [em_cpy9]
  iterate 8 refine em_next rfl ?_
  show em_wp em_sc0 d 26 45 _ [] (em_cpy (em_SH, em_cpr (em_cpr I 177 43 9) 178 44 9, J, em_RT lw) 179 45 0 0 9) _
  rw [em_cpy9]
  iterate 8 refine em_next rfl ?_
  show em_wp em_sc0 d 26 60 _ [] (em_cpy (em_SH, em_cpr (em_cpr (em_cpr I 177 43 9) 178 44 9) 179 45 9, J, em_RT lw) 180 46 0 0 9) _
  rw [em_cpy9]
  iterate 12 refine em_next rfl ?_
  refine em_done rfl ?_
  exact ce_cpx (s := 176) (t := 42) (by decide) h
theorem ce_cpIn_past26 (h : ∀ I' : Nat → Nat → Int32, (∀ a, ¬ (181 ≤ a ∧ a ≤ 185) → I' a = I a) → (∀ (n : Nat) (W : em_Wt), n ≤ 9 → cr I 42 n W → cr I' 181 n W) → Q none (em_SH, I', J, em_RT lw)) : em_call d 26 [.ref 181, .ref 42] (em_SH, I, J, em_RT lw) Q := by
  iterate 8 refine em_next rfl ?_
  show em_wp em_sc0 d 26 15 _ [] (em_cpy (em_SH, I, J, em_RT lw) 43 182 0 0 9) _
  rw [em_cpy9]
  iterate 8 refine em_next rfl ?_
  show em_wp em_sc0 d 26 30 _ [] (em_cpy (em_SH, em_cpr I 43 182 9, J, em_RT lw) 44 183 0 0 9) _
  rw [em_cpy9]
  iterate 8 refine em_next rfl ?_
  show em_wp em_sc0 d 26 45 _ [] (em_cpy (em_SH, em_cpr (em_cpr I 43 182 9) 44 183 9, J, em_RT lw) 45 184 0 0 9) _
  rw [em_cpy9]
  iterate 8 refine em_next rfl ?_
  show em_wp em_sc0 d 26 60 _ [] (em_cpy (em_SH, em_cpr (em_cpr (em_cpr I 43 182 9) 44 183 9) 45 184 9, J, em_RT lw) 46 185 0 0 9) _
  rw [em_cpy9]
  iterate 12 refine em_next rfl ?_
  refine em_done rfl ?_
  exact ce_cpx (s := 42) (t := 181) (by decide) h
theorem ce_cpOut_past26 (h : ∀ I' : Nat → Nat → Int32, (∀ a, ¬ (42 ≤ a ∧ a ≤ 46) → I' a = I a) → (∀ (n : Nat) (W : em_Wt), n ≤ 9 → cr I 181 n W → cr I' 42 n W) → Q none (em_SH, I', J, em_RT lw)) : em_call d 26 [.ref 42, .ref 181] (em_SH, I, J, em_RT lw) Q := by
  iterate 8 refine em_next rfl ?_
  show em_wp em_sc0 d 26 15 _ [] (em_cpy (em_SH, I, J, em_RT lw) 182 43 0 0 9) _
  rw [em_cpy9]
  iterate 8 refine em_next rfl ?_
  show em_wp em_sc0 d 26 30 _ [] (em_cpy (em_SH, em_cpr I 182 43 9, J, em_RT lw) 183 44 0 0 9) _
  rw [em_cpy9]
  iterate 8 refine em_next rfl ?_
  show em_wp em_sc0 d 26 45 _ [] (em_cpy (em_SH, em_cpr (em_cpr I 182 43 9) 183 44 9, J, em_RT lw) 184 45 0 0 9) _
  rw [em_cpy9]
  iterate 8 refine em_next rfl ?_
  show em_wp em_sc0 d 26 60 _ [] (em_cpy (em_SH, em_cpr (em_cpr (em_cpr I 182 43 9) 183 44 9) 184 45 9, J, em_RT lw) 185 46 0 0 9) _
  rw [em_cpy9]
  iterate 12 refine em_next rfl ?_
  refine em_done rfl ?_
  exact ce_cpx (s := 181) (t := 42) (by decide) h
theorem ce_cpIn_past27 (h : ∀ I' : Nat → Nat → Int32, (∀ a, ¬ (186 ≤ a ∧ a ≤ 190) → I' a = I a) → (∀ (n : Nat) (W : em_Wt), n ≤ 9 → cr I 42 n W → cr I' 186 n W) → Q none (em_SH, I', J, em_RT lw)) : em_call d 26 [.ref 186, .ref 42] (em_SH, I, J, em_RT lw) Q := by
  iterate 8 refine em_next rfl ?_
  show em_wp em_sc0 d 26 15 _ [] (em_cpy (em_SH, I, J, em_RT lw) 43 187 0 0 9) _
  rw [em_cpy9]
  iterate 8 refine em_next rfl ?_
  show em_wp em_sc0 d 26 30 _ [] (em_cpy (em_SH, em_cpr I 43 187 9, J, em_RT lw) 44 188 0 0 9) _
  rw [em_cpy9]
  iterate 8 refine em_next rfl ?_
  show em_wp em_sc0 d 26 45 _ [] (em_cpy (em_SH, em_cpr (em_cpr I 43 187 9) 44 188 9, J, em_RT lw) 45 189 0 0 9) _
  rw [em_cpy9]
  iterate 8 refine em_next rfl ?_
  show em_wp em_sc0 d 26 60 _ [] (em_cpy (em_SH, em_cpr (em_cpr (em_cpr I 43 187 9) 44 188 9) 45 189 9, J, em_RT lw) 46 190 0 0 9) _
  rw [em_cpy9]
  iterate 12 refine em_next rfl ?_
  refine em_done rfl ?_
  exact ce_cpx (s := 42) (t := 186) (by decide) h
theorem ce_cpOut_past27 (h : ∀ I' : Nat → Nat → Int32, (∀ a, ¬ (42 ≤ a ∧ a ≤ 46) → I' a = I a) → (∀ (n : Nat) (W : em_Wt), n ≤ 9 → cr I 186 n W → cr I' 42 n W) → Q none (em_SH, I', J, em_RT lw)) : em_call d 26 [.ref 42, .ref 186] (em_SH, I, J, em_RT lw) Q := by
  iterate 8 refine em_next rfl ?_
  show em_wp em_sc0 d 26 15 _ [] (em_cpy (em_SH, I, J, em_RT lw) 187 43 0 0 9) _
  rw [em_cpy9]
  iterate 8 refine em_next rfl ?_
  show em_wp em_sc0 d 26 30 _ [] (em_cpy (em_SH, em_cpr I 187 43 9, J, em_RT lw) 188 44 0 0 9) _
  rw [em_cpy9]
  iterate 8 refine em_next rfl ?_
  show em_wp em_sc0 d 26 45 _ [] (em_cpy (em_SH, em_cpr (em_cpr I 187 43 9) 188 44 9, J, em_RT lw) 189 45 0 0 9) _
  rw [em_cpy9]
  iterate 8 refine em_next rfl ?_
  show em_wp em_sc0 d 26 60 _ [] (em_cpy (em_SH, em_cpr (em_cpr (em_cpr I 187 43 9) 188 44 9) 189 45 9, J, em_RT lw) 190 46 0 0 9) _
  rw [em_cpy9]
  iterate 12 refine em_next rfl ?_
  refine em_done rfl ?_
  exact ce_cpx (s := 186) (t := 42) (by decide) h
theorem ce_cpIn_past28 (h : ∀ I' : Nat → Nat → Int32, (∀ a, ¬ (191 ≤ a ∧ a ≤ 195) → I' a = I a) → (∀ (n : Nat) (W : em_Wt), n ≤ 9 → cr I 42 n W → cr I' 191 n W) → Q none (em_SH, I', J, em_RT lw)) : em_call d 26 [.ref 191, .ref 42] (em_SH, I, J, em_RT lw) Q := by
  iterate 8 refine em_next rfl ?_
  show em_wp em_sc0 d 26 15 _ [] (em_cpy (em_SH, I, J, em_RT lw) 43 192 0 0 9) _
  rw [em_cpy9]
  iterate 8 refine em_next rfl ?_
  show em_wp em_sc0 d 26 30 _ [] (em_cpy (em_SH, em_cpr I 43 192 9, J, em_RT lw) 44 193 0 0 9) _
  rw [em_cpy9]
  iterate 8 refine em_next rfl ?_
  show em_wp em_sc0 d 26 45 _ [] (em_cpy (em_SH, em_cpr (em_cpr I 43 192 9) 44 193 9, J, em_RT lw) 45 194 0 0 9) _
  rw [em_cpy9]
  iterate 8 refine em_next rfl ?_
  show em_wp em_sc0 d 26 60 _ [] (em_cpy (em_SH, em_cpr (em_cpr (em_cpr I 43 192 9) 44 193 9) 45 194 9, J, em_RT lw) 46 195 0 0 9) _
  rw [em_cpy9]
  iterate 12 refine em_next rfl ?_
  refine em_done rfl ?_
  exact ce_cpx (s := 42) (t := 191) (by decide) h
theorem ce_cpOut_past28 (h : ∀ I' : Nat → Nat → Int32, (∀ a, ¬ (42 ≤ a ∧ a ≤ 46) → I' a = I a) → (∀ (n : Nat) (W : em_Wt), n ≤ 9 → cr I 191 n W → cr I' 42 n W) → Q none (em_SH, I', J, em_RT lw)) : em_call d 26 [.ref 42, .ref 191] (em_SH, I, J, em_RT lw) Q := by
  iterate 8 refine em_next rfl ?_
  show em_wp em_sc0 d 26 15 _ [] (em_cpy (em_SH, I, J, em_RT lw) 192 43 0 0 9) _
  rw [em_cpy9]
  iterate 8 refine em_next rfl ?_
  show em_wp em_sc0 d 26 30 _ [] (em_cpy (em_SH, em_cpr I 192 43 9, J, em_RT lw) 193 44 0 0 9) _
  rw [em_cpy9]
  iterate 8 refine em_next rfl ?_
  show em_wp em_sc0 d 26 45 _ [] (em_cpy (em_SH, em_cpr (em_cpr I 192 43 9) 193 44 9, J, em_RT lw) 194 45 0 0 9) _
  rw [em_cpy9]
  iterate 8 refine em_next rfl ?_
  show em_wp em_sc0 d 26 60 _ [] (em_cpy (em_SH, em_cpr (em_cpr (em_cpr I 192 43 9) 193 44 9) 194 45 9, J, em_RT lw) 195 46 0 0 9) _
  rw [em_cpy9]
  iterate 12 refine em_next rfl ?_
  refine em_done rfl ?_
  exact ce_cpx (s := 191) (t := 42) (by decide) h
theorem ce_cpIn_past29 (h : ∀ I' : Nat → Nat → Int32, (∀ a, ¬ (196 ≤ a ∧ a ≤ 200) → I' a = I a) → (∀ (n : Nat) (W : em_Wt), n ≤ 9 → cr I 42 n W → cr I' 196 n W) → Q none (em_SH, I', J, em_RT lw)) : em_call d 26 [.ref 196, .ref 42] (em_SH, I, J, em_RT lw) Q := by
  iterate 8 refine em_next rfl ?_
  show em_wp em_sc0 d 26 15 _ [] (em_cpy (em_SH, I, J, em_RT lw) 43 197 0 0 9) _
  rw [em_cpy9]
  iterate 8 refine em_next rfl ?_
  show em_wp em_sc0 d 26 30 _ [] (em_cpy (em_SH, em_cpr I 43 197 9, J, em_RT lw) 44 198 0 0 9) _
  rw [em_cpy9]
  iterate 8 refine em_next rfl ?_
  show em_wp em_sc0 d 26 45 _ [] (em_cpy (em_SH, em_cpr (em_cpr I 43 197 9) 44 198 9, J, em_RT lw) 45 199 0 0 9) _
  rw [em_cpy9]
  iterate 8 refine em_next rfl ?_
  show em_wp em_sc0 d 26 60 _ [] (em_cpy (em_SH, em_cpr (em_cpr (em_cpr I 43 197 9) 44 198 9) 45 199 9, J, em_RT lw) 46 200 0 0 9) _
  rw [em_cpy9]
  iterate 12 refine em_next rfl ?_
  refine em_done rfl ?_
  exact ce_cpx (s := 42) (t := 196) (by decide) h
theorem ce_cpOut_past29 (h : ∀ I' : Nat → Nat → Int32, (∀ a, ¬ (42 ≤ a ∧ a ≤ 46) → I' a = I a) → (∀ (n : Nat) (W : em_Wt), n ≤ 9 → cr I 196 n W → cr I' 42 n W) → Q none (em_SH, I', J, em_RT lw)) : em_call d 26 [.ref 42, .ref 196] (em_SH, I, J, em_RT lw) Q := by
  iterate 8 refine em_next rfl ?_
  show em_wp em_sc0 d 26 15 _ [] (em_cpy (em_SH, I, J, em_RT lw) 197 43 0 0 9) _
  rw [em_cpy9]
  iterate 8 refine em_next rfl ?_
  show em_wp em_sc0 d 26 30 _ [] (em_cpy (em_SH, em_cpr I 197 43 9, J, em_RT lw) 198 44 0 0 9) _
  rw [em_cpy9]
  iterate 8 refine em_next rfl ?_
  show em_wp em_sc0 d 26 45 _ [] (em_cpy (em_SH, em_cpr (em_cpr I 197 43 9) 198 44 9, J, em_RT lw) 199 45 0 0 9) _
  rw [em_cpy9]
  iterate 8 refine em_next rfl ?_
  show em_wp em_sc0 d 26 60 _ [] (em_cpy (em_SH, em_cpr (em_cpr (em_cpr I 197 43 9) 198 44 9) 199 45 9, J, em_RT lw) 200 46 0 0 9) _
  rw [em_cpy9]
  iterate 12 refine em_next rfl ?_
  refine em_done rfl ?_
  exact ce_cpx (s := 196) (t := 42) (by decide) h
theorem ce_cpIn_past30 (h : ∀ I' : Nat → Nat → Int32, (∀ a, ¬ (201 ≤ a ∧ a ≤ 205) → I' a = I a) → (∀ (n : Nat) (W : em_Wt), n ≤ 9 → cr I 42 n W → cr I' 201 n W) → Q none (em_SH, I', J, em_RT lw)) : em_call d 26 [.ref 201, .ref 42] (em_SH, I, J, em_RT lw) Q := by
  iterate 8 refine em_next rfl ?_
  show em_wp em_sc0 d 26 15 _ [] (em_cpy (em_SH, I, J, em_RT lw) 43 202 0 0 9) _
  rw [em_cpy9]
  iterate 8 refine em_next rfl ?_
  show em_wp em_sc0 d 26 30 _ [] (em_cpy (em_SH, em_cpr I 43 202 9, J, em_RT lw) 44 203 0 0 9) _
  rw [em_cpy9]
  iterate 8 refine em_next rfl ?_
  show em_wp em_sc0 d 26 45 _ [] (em_cpy (em_SH, em_cpr (em_cpr I 43 202 9) 44 203 9, J, em_RT lw) 45 204 0 0 9) _
  rw [em_cpy9]
  iterate 8 refine em_next rfl ?_
  show em_wp em_sc0 d 26 60 _ [] (em_cpy (em_SH, em_cpr (em_cpr (em_cpr I 43 202 9) 44 203 9) 45 204 9, J, em_RT lw) 46 205 0 0 9) _
  rw [em_cpy9]
  iterate 12 refine em_next rfl ?_
  refine em_done rfl ?_
  exact ce_cpx (s := 42) (t := 201) (by decide) h
theorem ce_cpOut_past30 (h : ∀ I' : Nat → Nat → Int32, (∀ a, ¬ (42 ≤ a ∧ a ≤ 46) → I' a = I a) → (∀ (n : Nat) (W : em_Wt), n ≤ 9 → cr I 201 n W → cr I' 42 n W) → Q none (em_SH, I', J, em_RT lw)) : em_call d 26 [.ref 42, .ref 201] (em_SH, I, J, em_RT lw) Q := by
  iterate 8 refine em_next rfl ?_
  show em_wp em_sc0 d 26 15 _ [] (em_cpy (em_SH, I, J, em_RT lw) 202 43 0 0 9) _
  rw [em_cpy9]
  iterate 8 refine em_next rfl ?_
  show em_wp em_sc0 d 26 30 _ [] (em_cpy (em_SH, em_cpr I 202 43 9, J, em_RT lw) 203 44 0 0 9) _
  rw [em_cpy9]
  iterate 8 refine em_next rfl ?_
  show em_wp em_sc0 d 26 45 _ [] (em_cpy (em_SH, em_cpr (em_cpr I 202 43 9) 203 44 9, J, em_RT lw) 204 45 0 0 9) _
  rw [em_cpy9]
  iterate 8 refine em_next rfl ?_
  show em_wp em_sc0 d 26 60 _ [] (em_cpy (em_SH, em_cpr (em_cpr (em_cpr I 202 43 9) 203 44 9) 204 45 9, J, em_RT lw) 205 46 0 0 9) _
  rw [em_cpy9]
  iterate 12 refine em_next rfl ?_
  refine em_done rfl ?_
  exact ce_cpx (s := 201) (t := 42) (by decide) h
theorem ce_cpIn_past31 (h : ∀ I' : Nat → Nat → Int32, (∀ a, ¬ (206 ≤ a ∧ a ≤ 210) → I' a = I a) → (∀ (n : Nat) (W : em_Wt), n ≤ 9 → cr I 42 n W → cr I' 206 n W) → Q none (em_SH, I', J, em_RT lw)) : em_call d 26 [.ref 206, .ref 42] (em_SH, I, J, em_RT lw) Q := by
  iterate 8 refine em_next rfl ?_
  show em_wp em_sc0 d 26 15 _ [] (em_cpy (em_SH, I, J, em_RT lw) 43 207 0 0 9) _
  rw [em_cpy9]
  iterate 8 refine em_next rfl ?_
  show em_wp em_sc0 d 26 30 _ [] (em_cpy (em_SH, em_cpr I 43 207 9, J, em_RT lw) 44 208 0 0 9) _
  rw [em_cpy9]
  iterate 8 refine em_next rfl ?_
  show em_wp em_sc0 d 26 45 _ [] (em_cpy (em_SH, em_cpr (em_cpr I 43 207 9) 44 208 9, J, em_RT lw) 45 209 0 0 9) _
  rw [em_cpy9]
  iterate 8 refine em_next rfl ?_
  show em_wp em_sc0 d 26 60 _ [] (em_cpy (em_SH, em_cpr (em_cpr (em_cpr I 43 207 9) 44 208 9) 45 209 9, J, em_RT lw) 46 210 0 0 9) _
  rw [em_cpy9]
  iterate 12 refine em_next rfl ?_
  refine em_done rfl ?_
  exact ce_cpx (s := 42) (t := 206) (by decide) h
theorem ce_cpOut_past31 (h : ∀ I' : Nat → Nat → Int32, (∀ a, ¬ (42 ≤ a ∧ a ≤ 46) → I' a = I a) → (∀ (n : Nat) (W : em_Wt), n ≤ 9 → cr I 206 n W → cr I' 42 n W) → Q none (em_SH, I', J, em_RT lw)) : em_call d 26 [.ref 42, .ref 206] (em_SH, I, J, em_RT lw) Q := by
  iterate 8 refine em_next rfl ?_
  show em_wp em_sc0 d 26 15 _ [] (em_cpy (em_SH, I, J, em_RT lw) 207 43 0 0 9) _
  rw [em_cpy9]
  iterate 8 refine em_next rfl ?_
  show em_wp em_sc0 d 26 30 _ [] (em_cpy (em_SH, em_cpr I 207 43 9, J, em_RT lw) 208 44 0 0 9) _
  rw [em_cpy9]
  iterate 8 refine em_next rfl ?_
  show em_wp em_sc0 d 26 45 _ [] (em_cpy (em_SH, em_cpr (em_cpr I 207 43 9) 208 44 9, J, em_RT lw) 209 45 0 0 9) _
  rw [em_cpy9]
  iterate 8 refine em_next rfl ?_
  show em_wp em_sc0 d 26 60 _ [] (em_cpy (em_SH, em_cpr (em_cpr (em_cpr I 207 43 9) 208 44 9) 209 45 9, J, em_RT lw) 210 46 0 0 9) _
  rw [em_cpy9]
  iterate 12 refine em_next rfl ?_
  refine em_done rfl ?_
  exact ce_cpx (s := 206) (t := 42) (by decide) h
theorem ce_cpIn_past32 (h : ∀ I' : Nat → Nat → Int32, (∀ a, ¬ (211 ≤ a ∧ a ≤ 215) → I' a = I a) → (∀ (n : Nat) (W : em_Wt), n ≤ 9 → cr I 42 n W → cr I' 211 n W) → Q none (em_SH, I', J, em_RT lw)) : em_call d 26 [.ref 211, .ref 42] (em_SH, I, J, em_RT lw) Q := by
  iterate 8 refine em_next rfl ?_
  show em_wp em_sc0 d 26 15 _ [] (em_cpy (em_SH, I, J, em_RT lw) 43 212 0 0 9) _
  rw [em_cpy9]
  iterate 8 refine em_next rfl ?_
  show em_wp em_sc0 d 26 30 _ [] (em_cpy (em_SH, em_cpr I 43 212 9, J, em_RT lw) 44 213 0 0 9) _
  rw [em_cpy9]
  iterate 8 refine em_next rfl ?_
  show em_wp em_sc0 d 26 45 _ [] (em_cpy (em_SH, em_cpr (em_cpr I 43 212 9) 44 213 9, J, em_RT lw) 45 214 0 0 9) _
  rw [em_cpy9]
  iterate 8 refine em_next rfl ?_
  show em_wp em_sc0 d 26 60 _ [] (em_cpy (em_SH, em_cpr (em_cpr (em_cpr I 43 212 9) 44 213 9) 45 214 9, J, em_RT lw) 46 215 0 0 9) _
  rw [em_cpy9]
  iterate 12 refine em_next rfl ?_
  refine em_done rfl ?_
  exact ce_cpx (s := 42) (t := 211) (by decide) h
theorem ce_cpOut_past32 (h : ∀ I' : Nat → Nat → Int32, (∀ a, ¬ (42 ≤ a ∧ a ≤ 46) → I' a = I a) → (∀ (n : Nat) (W : em_Wt), n ≤ 9 → cr I 211 n W → cr I' 42 n W) → Q none (em_SH, I', J, em_RT lw)) : em_call d 26 [.ref 42, .ref 211] (em_SH, I, J, em_RT lw) Q := by
  iterate 8 refine em_next rfl ?_
  show em_wp em_sc0 d 26 15 _ [] (em_cpy (em_SH, I, J, em_RT lw) 212 43 0 0 9) _
  rw [em_cpy9]
  iterate 8 refine em_next rfl ?_
  show em_wp em_sc0 d 26 30 _ [] (em_cpy (em_SH, em_cpr I 212 43 9, J, em_RT lw) 213 44 0 0 9) _
  rw [em_cpy9]
  iterate 8 refine em_next rfl ?_
  show em_wp em_sc0 d 26 45 _ [] (em_cpy (em_SH, em_cpr (em_cpr I 212 43 9) 213 44 9, J, em_RT lw) 214 45 0 0 9) _
  rw [em_cpy9]
  iterate 8 refine em_next rfl ?_
  show em_wp em_sc0 d 26 60 _ [] (em_cpy (em_SH, em_cpr (em_cpr (em_cpr I 212 43 9) 213 44 9) 214 45 9, J, em_RT lw) 215 46 0 0 9) _
  rw [em_cpy9]
  iterate 12 refine em_next rfl ?_
  refine em_done rfl ?_
  exact ce_cpx (s := 211) (t := 42) (by decide) h
theorem ce_cpIn_past33 (h : ∀ I' : Nat → Nat → Int32, (∀ a, ¬ (216 ≤ a ∧ a ≤ 220) → I' a = I a) → (∀ (n : Nat) (W : em_Wt), n ≤ 9 → cr I 42 n W → cr I' 216 n W) → Q none (em_SH, I', J, em_RT lw)) : em_call d 26 [.ref 216, .ref 42] (em_SH, I, J, em_RT lw) Q := by
  iterate 8 refine em_next rfl ?_
  show em_wp em_sc0 d 26 15 _ [] (em_cpy (em_SH, I, J, em_RT lw) 43 217 0 0 9) _
  rw [em_cpy9]
  iterate 8 refine em_next rfl ?_
  show em_wp em_sc0 d 26 30 _ [] (em_cpy (em_SH, em_cpr I 43 217 9, J, em_RT lw) 44 218 0 0 9) _
  rw [em_cpy9]
  iterate 8 refine em_next rfl ?_
  show em_wp em_sc0 d 26 45 _ [] (em_cpy (em_SH, em_cpr (em_cpr I 43 217 9) 44 218 9, J, em_RT lw) 45 219 0 0 9) _
  rw [em_cpy9]
  iterate 8 refine em_next rfl ?_
  show em_wp em_sc0 d 26 60 _ [] (em_cpy (em_SH, em_cpr (em_cpr (em_cpr I 43 217 9) 44 218 9) 45 219 9, J, em_RT lw) 46 220 0 0 9) _
  rw [em_cpy9]
  iterate 12 refine em_next rfl ?_
  refine em_done rfl ?_
  exact ce_cpx (s := 42) (t := 216) (by decide) h
theorem ce_cpOut_past33 (h : ∀ I' : Nat → Nat → Int32, (∀ a, ¬ (42 ≤ a ∧ a ≤ 46) → I' a = I a) → (∀ (n : Nat) (W : em_Wt), n ≤ 9 → cr I 216 n W → cr I' 42 n W) → Q none (em_SH, I', J, em_RT lw)) : em_call d 26 [.ref 42, .ref 216] (em_SH, I, J, em_RT lw) Q := by
  iterate 8 refine em_next rfl ?_
  show em_wp em_sc0 d 26 15 _ [] (em_cpy (em_SH, I, J, em_RT lw) 217 43 0 0 9) _
  rw [em_cpy9]
  iterate 8 refine em_next rfl ?_
  show em_wp em_sc0 d 26 30 _ [] (em_cpy (em_SH, em_cpr I 217 43 9, J, em_RT lw) 218 44 0 0 9) _
  rw [em_cpy9]
  iterate 8 refine em_next rfl ?_
  show em_wp em_sc0 d 26 45 _ [] (em_cpy (em_SH, em_cpr (em_cpr I 217 43 9) 218 44 9, J, em_RT lw) 219 45 0 0 9) _
  rw [em_cpy9]
  iterate 8 refine em_next rfl ?_
  show em_wp em_sc0 d 26 60 _ [] (em_cpy (em_SH, em_cpr (em_cpr (em_cpr I 217 43 9) 218 44 9) 219 45 9, J, em_RT lw) 220 46 0 0 9) _
  rw [em_cpy9]
  iterate 12 refine em_next rfl ?_
  refine em_done rfl ?_
  exact ce_cpx (s := 216) (t := 42) (by decide) h
theorem ce_cpIn_past34 (h : ∀ I' : Nat → Nat → Int32, (∀ a, ¬ (221 ≤ a ∧ a ≤ 225) → I' a = I a) → (∀ (n : Nat) (W : em_Wt), n ≤ 9 → cr I 42 n W → cr I' 221 n W) → Q none (em_SH, I', J, em_RT lw)) : em_call d 26 [.ref 221, .ref 42] (em_SH, I, J, em_RT lw) Q := by
  iterate 8 refine em_next rfl ?_
  show em_wp em_sc0 d 26 15 _ [] (em_cpy (em_SH, I, J, em_RT lw) 43 222 0 0 9) _
  rw [em_cpy9]
  iterate 8 refine em_next rfl ?_
  show em_wp em_sc0 d 26 30 _ [] (em_cpy (em_SH, em_cpr I 43 222 9, J, em_RT lw) 44 223 0 0 9) _
  rw [em_cpy9]
  iterate 8 refine em_next rfl ?_
  show em_wp em_sc0 d 26 45 _ [] (em_cpy (em_SH, em_cpr (em_cpr I 43 222 9) 44 223 9, J, em_RT lw) 45 224 0 0 9) _
  rw [em_cpy9]
  iterate 8 refine em_next rfl ?_
  show em_wp em_sc0 d 26 60 _ [] (em_cpy (em_SH, em_cpr (em_cpr (em_cpr I 43 222 9) 44 223 9) 45 224 9, J, em_RT lw) 46 225 0 0 9) _
  rw [em_cpy9]
  iterate 12 refine em_next rfl ?_
  refine em_done rfl ?_
  exact ce_cpx (s := 42) (t := 221) (by decide) h
theorem ce_cpOut_past34 (h : ∀ I' : Nat → Nat → Int32, (∀ a, ¬ (42 ≤ a ∧ a ≤ 46) → I' a = I a) → (∀ (n : Nat) (W : em_Wt), n ≤ 9 → cr I 221 n W → cr I' 42 n W) → Q none (em_SH, I', J, em_RT lw)) : em_call d 26 [.ref 42, .ref 221] (em_SH, I, J, em_RT lw) Q := by
  iterate 8 refine em_next rfl ?_
  show em_wp em_sc0 d 26 15 _ [] (em_cpy (em_SH, I, J, em_RT lw) 222 43 0 0 9) _
  rw [em_cpy9]
  iterate 8 refine em_next rfl ?_
  show em_wp em_sc0 d 26 30 _ [] (em_cpy (em_SH, em_cpr I 222 43 9, J, em_RT lw) 223 44 0 0 9) _
  rw [em_cpy9]
  iterate 8 refine em_next rfl ?_
  show em_wp em_sc0 d 26 45 _ [] (em_cpy (em_SH, em_cpr (em_cpr I 222 43 9) 223 44 9, J, em_RT lw) 224 45 0 0 9) _
  rw [em_cpy9]
  iterate 8 refine em_next rfl ?_
  show em_wp em_sc0 d 26 60 _ [] (em_cpy (em_SH, em_cpr (em_cpr (em_cpr I 222 43 9) 223 44 9) 224 45 9, J, em_RT lw) 225 46 0 0 9) _
  rw [em_cpy9]
  iterate 12 refine em_next rfl ?_
  refine em_done rfl ?_
  exact ce_cpx (s := 221) (t := 42) (by decide) h
theorem ce_cpIn_past35 (h : ∀ I' : Nat → Nat → Int32, (∀ a, ¬ (226 ≤ a ∧ a ≤ 230) → I' a = I a) → (∀ (n : Nat) (W : em_Wt), n ≤ 9 → cr I 42 n W → cr I' 226 n W) → Q none (em_SH, I', J, em_RT lw)) : em_call d 26 [.ref 226, .ref 42] (em_SH, I, J, em_RT lw) Q := by
  iterate 8 refine em_next rfl ?_
  show em_wp em_sc0 d 26 15 _ [] (em_cpy (em_SH, I, J, em_RT lw) 43 227 0 0 9) _
  rw [em_cpy9]
  iterate 8 refine em_next rfl ?_
  show em_wp em_sc0 d 26 30 _ [] (em_cpy (em_SH, em_cpr I 43 227 9, J, em_RT lw) 44 228 0 0 9) _
  rw [em_cpy9]
  iterate 8 refine em_next rfl ?_
  show em_wp em_sc0 d 26 45 _ [] (em_cpy (em_SH, em_cpr (em_cpr I 43 227 9) 44 228 9, J, em_RT lw) 45 229 0 0 9) _
  rw [em_cpy9]
  iterate 8 refine em_next rfl ?_
  show em_wp em_sc0 d 26 60 _ [] (em_cpy (em_SH, em_cpr (em_cpr (em_cpr I 43 227 9) 44 228 9) 45 229 9, J, em_RT lw) 46 230 0 0 9) _
  rw [em_cpy9]
  iterate 12 refine em_next rfl ?_
  refine em_done rfl ?_
  exact ce_cpx (s := 42) (t := 226) (by decide) h
theorem ce_cpOut_past35 (h : ∀ I' : Nat → Nat → Int32, (∀ a, ¬ (42 ≤ a ∧ a ≤ 46) → I' a = I a) → (∀ (n : Nat) (W : em_Wt), n ≤ 9 → cr I 226 n W → cr I' 42 n W) → Q none (em_SH, I', J, em_RT lw)) : em_call d 26 [.ref 42, .ref 226] (em_SH, I, J, em_RT lw) Q := by
  iterate 8 refine em_next rfl ?_
  show em_wp em_sc0 d 26 15 _ [] (em_cpy (em_SH, I, J, em_RT lw) 227 43 0 0 9) _
  rw [em_cpy9]
  iterate 8 refine em_next rfl ?_
  show em_wp em_sc0 d 26 30 _ [] (em_cpy (em_SH, em_cpr I 227 43 9, J, em_RT lw) 228 44 0 0 9) _
  rw [em_cpy9]
  iterate 8 refine em_next rfl ?_
  show em_wp em_sc0 d 26 45 _ [] (em_cpy (em_SH, em_cpr (em_cpr I 227 43 9) 228 44 9, J, em_RT lw) 229 45 0 0 9) _
  rw [em_cpy9]
  iterate 8 refine em_next rfl ?_
  show em_wp em_sc0 d 26 60 _ [] (em_cpy (em_SH, em_cpr (em_cpr (em_cpr I 227 43 9) 228 44 9) 229 45 9, J, em_RT lw) 230 46 0 0 9) _
  rw [em_cpy9]
  iterate 12 refine em_next rfl ?_
  refine em_done rfl ?_
  exact ce_cpx (s := 226) (t := 42) (by decide) h
theorem ce_cpIn_past36 (h : ∀ I' : Nat → Nat → Int32, (∀ a, ¬ (231 ≤ a ∧ a ≤ 235) → I' a = I a) → (∀ (n : Nat) (W : em_Wt), n ≤ 9 → cr I 42 n W → cr I' 231 n W) → Q none (em_SH, I', J, em_RT lw)) : em_call d 26 [.ref 231, .ref 42] (em_SH, I, J, em_RT lw) Q := by
  iterate 8 refine em_next rfl ?_
  show em_wp em_sc0 d 26 15 _ [] (em_cpy (em_SH, I, J, em_RT lw) 43 232 0 0 9) _
  rw [em_cpy9]
  iterate 8 refine em_next rfl ?_
  show em_wp em_sc0 d 26 30 _ [] (em_cpy (em_SH, em_cpr I 43 232 9, J, em_RT lw) 44 233 0 0 9) _
  rw [em_cpy9]
  iterate 8 refine em_next rfl ?_
  show em_wp em_sc0 d 26 45 _ [] (em_cpy (em_SH, em_cpr (em_cpr I 43 232 9) 44 233 9, J, em_RT lw) 45 234 0 0 9) _
  rw [em_cpy9]
  iterate 8 refine em_next rfl ?_
  show em_wp em_sc0 d 26 60 _ [] (em_cpy (em_SH, em_cpr (em_cpr (em_cpr I 43 232 9) 44 233 9) 45 234 9, J, em_RT lw) 46 235 0 0 9) _
  rw [em_cpy9]
  iterate 12 refine em_next rfl ?_
  refine em_done rfl ?_
  exact ce_cpx (s := 42) (t := 231) (by decide) h
theorem ce_cpOut_past36 (h : ∀ I' : Nat → Nat → Int32, (∀ a, ¬ (42 ≤ a ∧ a ≤ 46) → I' a = I a) → (∀ (n : Nat) (W : em_Wt), n ≤ 9 → cr I 231 n W → cr I' 42 n W) → Q none (em_SH, I', J, em_RT lw)) : em_call d 26 [.ref 42, .ref 231] (em_SH, I, J, em_RT lw) Q := by
  iterate 8 refine em_next rfl ?_
  show em_wp em_sc0 d 26 15 _ [] (em_cpy (em_SH, I, J, em_RT lw) 232 43 0 0 9) _
  rw [em_cpy9]
  iterate 8 refine em_next rfl ?_
  show em_wp em_sc0 d 26 30 _ [] (em_cpy (em_SH, em_cpr I 232 43 9, J, em_RT lw) 233 44 0 0 9) _
  rw [em_cpy9]
  iterate 8 refine em_next rfl ?_
  show em_wp em_sc0 d 26 45 _ [] (em_cpy (em_SH, em_cpr (em_cpr I 232 43 9) 233 44 9, J, em_RT lw) 234 45 0 0 9) _
  rw [em_cpy9]
  iterate 8 refine em_next rfl ?_
  show em_wp em_sc0 d 26 60 _ [] (em_cpy (em_SH, em_cpr (em_cpr (em_cpr I 232 43 9) 233 44 9) 234 45 9, J, em_RT lw) 235 46 0 0 9) _
  rw [em_cpy9]
  iterate 12 refine em_next rfl ?_
  refine em_done rfl ?_
  exact ce_cpx (s := 231) (t := 42) (by decide) h
theorem ce_cpIn_past37 (h : ∀ I' : Nat → Nat → Int32, (∀ a, ¬ (236 ≤ a ∧ a ≤ 240) → I' a = I a) → (∀ (n : Nat) (W : em_Wt), n ≤ 9 → cr I 42 n W → cr I' 236 n W) → Q none (em_SH, I', J, em_RT lw)) : em_call d 26 [.ref 236, .ref 42] (em_SH, I, J, em_RT lw) Q := by
  iterate 8 refine em_next rfl ?_
  show em_wp em_sc0 d 26 15 _ [] (em_cpy (em_SH, I, J, em_RT lw) 43 237 0 0 9) _
  rw [em_cpy9]
  iterate 8 refine em_next rfl ?_
  show em_wp em_sc0 d 26 30 _ [] (em_cpy (em_SH, em_cpr I 43 237 9, J, em_RT lw) 44 238 0 0 9) _
  rw [em_cpy9]
  iterate 8 refine em_next rfl ?_
  show em_wp em_sc0 d 26 45 _ [] (em_cpy (em_SH, em_cpr (em_cpr I 43 237 9) 44 238 9, J, em_RT lw) 45 239 0 0 9) _
  rw [em_cpy9]
  iterate 8 refine em_next rfl ?_
  show em_wp em_sc0 d 26 60 _ [] (em_cpy (em_SH, em_cpr (em_cpr (em_cpr I 43 237 9) 44 238 9) 45 239 9, J, em_RT lw) 46 240 0 0 9) _
  rw [em_cpy9]
  iterate 12 refine em_next rfl ?_
  refine em_done rfl ?_
  exact ce_cpx (s := 42) (t := 236) (by decide) h
theorem ce_cpOut_past37 (h : ∀ I' : Nat → Nat → Int32, (∀ a, ¬ (42 ≤ a ∧ a ≤ 46) → I' a = I a) → (∀ (n : Nat) (W : em_Wt), n ≤ 9 → cr I 236 n W → cr I' 42 n W) → Q none (em_SH, I', J, em_RT lw)) : em_call d 26 [.ref 42, .ref 236] (em_SH, I, J, em_RT lw) Q := by
  iterate 8 refine em_next rfl ?_
  show em_wp em_sc0 d 26 15 _ [] (em_cpy (em_SH, I, J, em_RT lw) 237 43 0 0 9) _
  rw [em_cpy9]
  iterate 8 refine em_next rfl ?_
  show em_wp em_sc0 d 26 30 _ [] (em_cpy (em_SH, em_cpr I 237 43 9, J, em_RT lw) 238 44 0 0 9) _
  rw [em_cpy9]
  iterate 8 refine em_next rfl ?_
  show em_wp em_sc0 d 26 45 _ [] (em_cpy (em_SH, em_cpr (em_cpr I 237 43 9) 238 44 9, J, em_RT lw) 239 45 0 0 9) _
  rw [em_cpy9]
  iterate 8 refine em_next rfl ?_
  show em_wp em_sc0 d 26 60 _ [] (em_cpy (em_SH, em_cpr (em_cpr (em_cpr I 237 43 9) 238 44 9) 239 45 9, J, em_RT lw) 240 46 0 0 9) _
  rw [em_cpy9]
  iterate 12 refine em_next rfl ?_
  refine em_done rfl ?_
  exact ce_cpx (s := 236) (t := 42) (by decide) h
theorem ce_cpIn_past38 (h : ∀ I' : Nat → Nat → Int32, (∀ a, ¬ (241 ≤ a ∧ a ≤ 245) → I' a = I a) → (∀ (n : Nat) (W : em_Wt), n ≤ 9 → cr I 42 n W → cr I' 241 n W) → Q none (em_SH, I', J, em_RT lw)) : em_call d 26 [.ref 241, .ref 42] (em_SH, I, J, em_RT lw) Q := by
  iterate 8 refine em_next rfl ?_
  show em_wp em_sc0 d 26 15 _ [] (em_cpy (em_SH, I, J, em_RT lw) 43 242 0 0 9) _
  rw [em_cpy9]
  iterate 8 refine em_next rfl ?_
  show em_wp em_sc0 d 26 30 _ [] (em_cpy (em_SH, em_cpr I 43 242 9, J, em_RT lw) 44 243 0 0 9) _
  rw [em_cpy9]
  iterate 8 refine em_next rfl ?_
  show em_wp em_sc0 d 26 45 _ [] (em_cpy (em_SH, em_cpr (em_cpr I 43 242 9) 44 243 9, J, em_RT lw) 45 244 0 0 9) _
  rw [em_cpy9]
  iterate 8 refine em_next rfl ?_
  show em_wp em_sc0 d 26 60 _ [] (em_cpy (em_SH, em_cpr (em_cpr (em_cpr I 43 242 9) 44 243 9) 45 244 9, J, em_RT lw) 46 245 0 0 9) _
  rw [em_cpy9]
  iterate 12 refine em_next rfl ?_
  refine em_done rfl ?_
  exact ce_cpx (s := 42) (t := 241) (by decide) h
theorem ce_cpOut_past38 (h : ∀ I' : Nat → Nat → Int32, (∀ a, ¬ (42 ≤ a ∧ a ≤ 46) → I' a = I a) → (∀ (n : Nat) (W : em_Wt), n ≤ 9 → cr I 241 n W → cr I' 42 n W) → Q none (em_SH, I', J, em_RT lw)) : em_call d 26 [.ref 42, .ref 241] (em_SH, I, J, em_RT lw) Q := by
  iterate 8 refine em_next rfl ?_
  show em_wp em_sc0 d 26 15 _ [] (em_cpy (em_SH, I, J, em_RT lw) 242 43 0 0 9) _
  rw [em_cpy9]
  iterate 8 refine em_next rfl ?_
  show em_wp em_sc0 d 26 30 _ [] (em_cpy (em_SH, em_cpr I 242 43 9, J, em_RT lw) 243 44 0 0 9) _
  rw [em_cpy9]
  iterate 8 refine em_next rfl ?_
  show em_wp em_sc0 d 26 45 _ [] (em_cpy (em_SH, em_cpr (em_cpr I 242 43 9) 243 44 9, J, em_RT lw) 244 45 0 0 9) _
  rw [em_cpy9]
  iterate 8 refine em_next rfl ?_
  show em_wp em_sc0 d 26 60 _ [] (em_cpy (em_SH, em_cpr (em_cpr (em_cpr I 242 43 9) 243 44 9) 244 45 9, J, em_RT lw) 245 46 0 0 9) _
  rw [em_cpy9]
  iterate 12 refine em_next rfl ?_
  refine em_done rfl ?_
  exact ce_cpx (s := 241) (t := 42) (by decide) h
theorem ce_cpIn_past39 (h : ∀ I' : Nat → Nat → Int32, (∀ a, ¬ (246 ≤ a ∧ a ≤ 250) → I' a = I a) → (∀ (n : Nat) (W : em_Wt), n ≤ 9 → cr I 42 n W → cr I' 246 n W) → Q none (em_SH, I', J, em_RT lw)) : em_call d 26 [.ref 246, .ref 42] (em_SH, I, J, em_RT lw) Q := by
  iterate 8 refine em_next rfl ?_
  show em_wp em_sc0 d 26 15 _ [] (em_cpy (em_SH, I, J, em_RT lw) 43 247 0 0 9) _
  rw [em_cpy9]
  iterate 8 refine em_next rfl ?_
  show em_wp em_sc0 d 26 30 _ [] (em_cpy (em_SH, em_cpr I 43 247 9, J, em_RT lw) 44 248 0 0 9) _
  rw [em_cpy9]
  iterate 8 refine em_next rfl ?_
  show em_wp em_sc0 d 26 45 _ [] (em_cpy (em_SH, em_cpr (em_cpr I 43 247 9) 44 248 9, J, em_RT lw) 45 249 0 0 9) _
  rw [em_cpy9]
  iterate 8 refine em_next rfl ?_
  show em_wp em_sc0 d 26 60 _ [] (em_cpy (em_SH, em_cpr (em_cpr (em_cpr I 43 247 9) 44 248 9) 45 249 9, J, em_RT lw) 46 250 0 0 9) _
  rw [em_cpy9]
  iterate 12 refine em_next rfl ?_
  refine em_done rfl ?_
  exact ce_cpx (s := 42) (t := 246) (by decide) h
theorem ce_cpOut_past39 (h : ∀ I' : Nat → Nat → Int32, (∀ a, ¬ (42 ≤ a ∧ a ≤ 46) → I' a = I a) → (∀ (n : Nat) (W : em_Wt), n ≤ 9 → cr I 246 n W → cr I' 42 n W) → Q none (em_SH, I', J, em_RT lw)) : em_call d 26 [.ref 42, .ref 246] (em_SH, I, J, em_RT lw) Q := by
  iterate 8 refine em_next rfl ?_
  show em_wp em_sc0 d 26 15 _ [] (em_cpy (em_SH, I, J, em_RT lw) 247 43 0 0 9) _
  rw [em_cpy9]
  iterate 8 refine em_next rfl ?_
  show em_wp em_sc0 d 26 30 _ [] (em_cpy (em_SH, em_cpr I 247 43 9, J, em_RT lw) 248 44 0 0 9) _
  rw [em_cpy9]
  iterate 8 refine em_next rfl ?_
  show em_wp em_sc0 d 26 45 _ [] (em_cpy (em_SH, em_cpr (em_cpr I 247 43 9) 248 44 9, J, em_RT lw) 249 45 0 0 9) _
  rw [em_cpy9]
  iterate 8 refine em_next rfl ?_
  show em_wp em_sc0 d 26 60 _ [] (em_cpy (em_SH, em_cpr (em_cpr (em_cpr I 247 43 9) 248 44 9) 249 45 9, J, em_RT lw) 250 46 0 0 9) _
  rw [em_cpy9]
  iterate 12 refine em_next rfl ?_
  refine em_done rfl ?_
  exact ce_cpx (s := 246) (t := 42) (by decide) h
theorem ce_cpIn_slot0 (h : ∀ I' : Nat → Nat → Int32, (∀ a, ¬ (251 ≤ a ∧ a ≤ 255) → I' a = I a) → (∀ (n : Nat) (W : em_Wt), n ≤ 9 → cr I 42 n W → cr I' 251 n W) → Q none (em_SH, I', J, em_RT lw)) : em_call d 26 [.ref 251, .ref 42] (em_SH, I, J, em_RT lw) Q := by
  iterate 8 refine em_next rfl ?_
  show em_wp em_sc0 d 26 15 _ [] (em_cpy (em_SH, I, J, em_RT lw) 43 252 0 0 9) _
  rw [em_cpy9]
  iterate 8 refine em_next rfl ?_
  show em_wp em_sc0 d 26 30 _ [] (em_cpy (em_SH, em_cpr I 43 252 9, J, em_RT lw) 44 253 0 0 9) _
  rw [em_cpy9]
  iterate 8 refine em_next rfl ?_
  show em_wp em_sc0 d 26 45 _ [] (em_cpy (em_SH, em_cpr (em_cpr I 43 252 9) 44 253 9, J, em_RT lw) 45 254 0 0 9) _
  rw [em_cpy9]
  iterate 8 refine em_next rfl ?_
  show em_wp em_sc0 d 26 60 _ [] (em_cpy (em_SH, em_cpr (em_cpr (em_cpr I 43 252 9) 44 253 9) 45 254 9, J, em_RT lw) 46 255 0 0 9) _
  rw [em_cpy9]
  iterate 12 refine em_next rfl ?_
  refine em_done rfl ?_
  exact ce_cpx (s := 42) (t := 251) (by decide) h
theorem ce_cpOut_slot0 (h : ∀ I' : Nat → Nat → Int32, (∀ a, ¬ (42 ≤ a ∧ a ≤ 46) → I' a = I a) → (∀ (n : Nat) (W : em_Wt), n ≤ 9 → cr I 251 n W → cr I' 42 n W) → Q none (em_SH, I', J, em_RT lw)) : em_call d 26 [.ref 42, .ref 251] (em_SH, I, J, em_RT lw) Q := by
  iterate 8 refine em_next rfl ?_
  show em_wp em_sc0 d 26 15 _ [] (em_cpy (em_SH, I, J, em_RT lw) 252 43 0 0 9) _
  rw [em_cpy9]
  iterate 8 refine em_next rfl ?_
  show em_wp em_sc0 d 26 30 _ [] (em_cpy (em_SH, em_cpr I 252 43 9, J, em_RT lw) 253 44 0 0 9) _
  rw [em_cpy9]
  iterate 8 refine em_next rfl ?_
  show em_wp em_sc0 d 26 45 _ [] (em_cpy (em_SH, em_cpr (em_cpr I 252 43 9) 253 44 9, J, em_RT lw) 254 45 0 0 9) _
  rw [em_cpy9]
  iterate 8 refine em_next rfl ?_
  show em_wp em_sc0 d 26 60 _ [] (em_cpy (em_SH, em_cpr (em_cpr (em_cpr I 252 43 9) 253 44 9) 254 45 9, J, em_RT lw) 255 46 0 0 9) _
  rw [em_cpy9]
  iterate 12 refine em_next rfl ?_
  refine em_done rfl ?_
  exact ce_cpx (s := 251) (t := 42) (by decide) h
theorem ce_cpIn_slot1 (h : ∀ I' : Nat → Nat → Int32, (∀ a, ¬ (256 ≤ a ∧ a ≤ 260) → I' a = I a) → (∀ (n : Nat) (W : em_Wt), n ≤ 9 → cr I 42 n W → cr I' 256 n W) → Q none (em_SH, I', J, em_RT lw)) : em_call d 26 [.ref 256, .ref 42] (em_SH, I, J, em_RT lw) Q := by
  iterate 8 refine em_next rfl ?_
  show em_wp em_sc0 d 26 15 _ [] (em_cpy (em_SH, I, J, em_RT lw) 43 257 0 0 9) _
  rw [em_cpy9]
  iterate 8 refine em_next rfl ?_
  show em_wp em_sc0 d 26 30 _ [] (em_cpy (em_SH, em_cpr I 43 257 9, J, em_RT lw) 44 258 0 0 9) _
  rw [em_cpy9]
  iterate 8 refine em_next rfl ?_
  show em_wp em_sc0 d 26 45 _ [] (em_cpy (em_SH, em_cpr (em_cpr I 43 257 9) 44 258 9, J, em_RT lw) 45 259 0 0 9) _
  rw [em_cpy9]
  iterate 8 refine em_next rfl ?_
  show em_wp em_sc0 d 26 60 _ [] (em_cpy (em_SH, em_cpr (em_cpr (em_cpr I 43 257 9) 44 258 9) 45 259 9, J, em_RT lw) 46 260 0 0 9) _
  rw [em_cpy9]
  iterate 12 refine em_next rfl ?_
  refine em_done rfl ?_
  exact ce_cpx (s := 42) (t := 256) (by decide) h
theorem ce_cpOut_slot1 (h : ∀ I' : Nat → Nat → Int32, (∀ a, ¬ (42 ≤ a ∧ a ≤ 46) → I' a = I a) → (∀ (n : Nat) (W : em_Wt), n ≤ 9 → cr I 256 n W → cr I' 42 n W) → Q none (em_SH, I', J, em_RT lw)) : em_call d 26 [.ref 42, .ref 256] (em_SH, I, J, em_RT lw) Q := by
  iterate 8 refine em_next rfl ?_
  show em_wp em_sc0 d 26 15 _ [] (em_cpy (em_SH, I, J, em_RT lw) 257 43 0 0 9) _
  rw [em_cpy9]
  iterate 8 refine em_next rfl ?_
  show em_wp em_sc0 d 26 30 _ [] (em_cpy (em_SH, em_cpr I 257 43 9, J, em_RT lw) 258 44 0 0 9) _
  rw [em_cpy9]
  iterate 8 refine em_next rfl ?_
  show em_wp em_sc0 d 26 45 _ [] (em_cpy (em_SH, em_cpr (em_cpr I 257 43 9) 258 44 9, J, em_RT lw) 259 45 0 0 9) _
  rw [em_cpy9]
  iterate 8 refine em_next rfl ?_
  show em_wp em_sc0 d 26 60 _ [] (em_cpy (em_SH, em_cpr (em_cpr (em_cpr I 257 43 9) 258 44 9) 259 45 9, J, em_RT lw) 260 46 0 0 9) _
  rw [em_cpy9]
  iterate 12 refine em_next rfl ?_
  refine em_done rfl ?_
  exact ce_cpx (s := 256) (t := 42) (by decide) h
theorem ce_cpIn_slot2 (h : ∀ I' : Nat → Nat → Int32, (∀ a, ¬ (261 ≤ a ∧ a ≤ 265) → I' a = I a) → (∀ (n : Nat) (W : em_Wt), n ≤ 9 → cr I 42 n W → cr I' 261 n W) → Q none (em_SH, I', J, em_RT lw)) : em_call d 26 [.ref 261, .ref 42] (em_SH, I, J, em_RT lw) Q := by
  iterate 8 refine em_next rfl ?_
  show em_wp em_sc0 d 26 15 _ [] (em_cpy (em_SH, I, J, em_RT lw) 43 262 0 0 9) _
  rw [em_cpy9]
  iterate 8 refine em_next rfl ?_
  show em_wp em_sc0 d 26 30 _ [] (em_cpy (em_SH, em_cpr I 43 262 9, J, em_RT lw) 44 263 0 0 9) _
  rw [em_cpy9]
  iterate 8 refine em_next rfl ?_
  show em_wp em_sc0 d 26 45 _ [] (em_cpy (em_SH, em_cpr (em_cpr I 43 262 9) 44 263 9, J, em_RT lw) 45 264 0 0 9) _
  rw [em_cpy9]
  iterate 8 refine em_next rfl ?_
  show em_wp em_sc0 d 26 60 _ [] (em_cpy (em_SH, em_cpr (em_cpr (em_cpr I 43 262 9) 44 263 9) 45 264 9, J, em_RT lw) 46 265 0 0 9) _
  rw [em_cpy9]
  iterate 12 refine em_next rfl ?_
  refine em_done rfl ?_
  exact ce_cpx (s := 42) (t := 261) (by decide) h
theorem ce_cpOut_slot2 (h : ∀ I' : Nat → Nat → Int32, (∀ a, ¬ (42 ≤ a ∧ a ≤ 46) → I' a = I a) → (∀ (n : Nat) (W : em_Wt), n ≤ 9 → cr I 261 n W → cr I' 42 n W) → Q none (em_SH, I', J, em_RT lw)) : em_call d 26 [.ref 42, .ref 261] (em_SH, I, J, em_RT lw) Q := by
  iterate 8 refine em_next rfl ?_
  show em_wp em_sc0 d 26 15 _ [] (em_cpy (em_SH, I, J, em_RT lw) 262 43 0 0 9) _
  rw [em_cpy9]
  iterate 8 refine em_next rfl ?_
  show em_wp em_sc0 d 26 30 _ [] (em_cpy (em_SH, em_cpr I 262 43 9, J, em_RT lw) 263 44 0 0 9) _
  rw [em_cpy9]
  iterate 8 refine em_next rfl ?_
  show em_wp em_sc0 d 26 45 _ [] (em_cpy (em_SH, em_cpr (em_cpr I 262 43 9) 263 44 9, J, em_RT lw) 264 45 0 0 9) _
  rw [em_cpy9]
  iterate 8 refine em_next rfl ?_
  show em_wp em_sc0 d 26 60 _ [] (em_cpy (em_SH, em_cpr (em_cpr (em_cpr I 262 43 9) 263 44 9) 264 45 9, J, em_RT lw) 265 46 0 0 9) _
  rw [em_cpy9]
  iterate 12 refine em_next rfl ?_
  refine em_done rfl ?_
  exact ce_cpx (s := 261) (t := 42) (by decide) h
end CCH
