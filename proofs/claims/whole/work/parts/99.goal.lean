/-! the goal of the pure machine -/
/-- where references lie -/
def cc_kl : List Nat := [2000, 2001, 2002, 2003, 2004, 2005, 2006, 2007, 2008, 2009, 2010, 4000, 4001, 4002, 4003, 4004, 16000, 16001, 16002, 16003, 16004, 16005, 16006, 22000, 22001, 28000, 28001, 34000, 34001, 40000, 40001, 48000, 48001, 48002, 48003, 48004, 48005, 48006, 54000, 54001, 60000, 60001, 66000, 66001, 72000, 72001, 80000, 80001, 80002, 84000, 84001, 84002, 84003, 94000, 94001, 94002, 96000, 96001, 96002, 96003, 96004, 96005, 96006, 96007, 96008, 96009, 96010, 96011, 96012, 96013, 96014, 96015, 96016, 96017, 96018, 96019, 96020, 96021, 96022, 96023, 96024, 96025, 96026, 96027, 96028, 96029, 96030, 96031, 96032, 96033, 96034, 96035, 96036, 96037, 96038, 96039, 98000, 98001, 98002, 102000, 102001, 102002, 102003, 112000, 112001, 112002, 112003, 122000, 122001, 122002, 122003, 132000, 132001, 132002, 132003, 142000, 142001, 142002, 142003, 152000, 152001, 152002, 152003, 162000, 162001, 162002, 162003, 172000, 172001, 172002, 172003, 182000, 182001, 182002, 182003, 192000, 192001, 192002, 192003, 202000, 202001, 202002, 202003, 212000, 212001, 212002, 212003, 222000, 222001, 222002, 222003, 232000, 232001, 232002, 232003, 242000, 242001, 242002, 242003, 252000, 252001, 252002, 252003, 262000, 262001, 262002, 262003, 272000, 272001, 272002, 272003, 282000, 282001, 282002, 282003, 292000, 292001, 292002, 292003, 302000, 302001, 302002, 302003, 312000, 312001, 312002, 312003, 322000, 322001, 322002, 322003, 332000, 332001, 332002, 332003, 342000, 342001, 342002, 342003, 352000, 352001, 352002, 352003, 362000, 362001, 362002, 362003, 372000, 372001, 372002, 372003, 382000, 382001, 382002, 382003, 392000, 392001, 392002, 392003, 402000, 402001, 402002, 402003, 412000, 412001, 412002, 412003, 422000, 422001, 422002, 422003, 432000, 432001, 432002, 432003, 442000, 442001, 442002, 442003, 452000, 452001, 452002, 452003, 462000, 462001, 462002, 462003, 472000, 472001, 472002, 472003, 482000, 482001, 482002, 482003, 492000, 492001, 492002, 492003, 502000, 502001, 502002, 502003, 512000, 512001, 512002, 512003, 522000, 522001, 522002, 522003, 532000, 532001, 532002, 540000, 540001, 540002, 540003, 542000, 542001, 542002, 542003, 554000, 554001, 554002, 554003, 558000, 558001, 558002, 558003, 562000, 562001, 562002, 562003, 562004, 562005, 568001, 568003, 568005, 568006, 568007, 568008, 568009, 568021, 568022, 568023, 568024, 568025, 568026, 568027, 568028, 568029, 568030, 568031, 568032, 568034, 568035, 568036, 568037, 568038, 568040, 568041, 568042, 568044, 568045, 568047, 568048, 568051, 568052, 568054, 568055, 568056, 568057, 568059, 568060, 568061, 568062, 568063, 568064]
def okR (q : Nat) (o : Option Nat) : Prop := ∀ v, o = some v → q ∈ cc_kl
theorem okn {q : Nat} {c : Bool} {A B : Option Nat} (h1 : okR q A) (h2 : okR q B) : okR q (cond c A B) := by
  cases c
  · exact h2
  · exact h1
theorem okl {q k v : Nat} (h : k ∈ cc_kl) : okR q (cond (Nat.beq q k) (some v) none) := fun w e => by
  cases hb : Nat.beq q k with
  | true => rw [Nat.eq_of_beq_eq_true hb]; exact h
  | false => rw [hb] at e; cases e
set_option maxRecDepth 100000 in
set_option maxHeartbeats 4000000 in
theorem RTz_in (q : Nat) : okR q (em_RTz q) := by
  unfold em_RTz
  repeat' first
    | exact okl (by decide +kernel)
    | refine okn ?_ ?_
def cc_rok : Nat → cc_M → Bool
  | _, [] => true
  | a, c :: C => c.2.2.2.2.all (fun q => Nat.blt q.1 2000 && decide (cc_lr c.2.2.2.2 q.1 = em_RT 11 a q.1)) && cc_rok (a + 1) C
theorem cc_rok_ok {a : Nat} {C : cc_M} (h : cc_rok a C = true) {b : Nat} {c : cc_C} (hc : C[b]? = some c) : ∀ q ∈ c.2.2.2.2, q.1 < 2000 ∧ cc_lr c.2.2.2.2 q.1 = em_RT 11 (a + b) q.1 := by
  induction C generalizing a b with
  | nil => simp at hc
  | cons d C ih =>
    rw [cc_rok, Bool.and_eq_true] at h
    cases b with
    | zero =>
      rw [List.getElem?_cons_zero] at hc
      cases hc
      intro q hq
      have g := List.all_eq_true.mp h.1 q hq
      rw [Bool.and_eq_true] at g
      exact ⟨Nat.blt_eq.mp g.1, of_decide_eq_true g.2⟩
    | succ b =>
      rw [List.getElem?_cons_succ] at hc
      have g := ih h.2 hc
      rw [show a + 1 + b = a + (b + 1) by omega] at g
      exact g
set_option maxRecDepth 100000 in
theorem rok4 : cc_rok 0 cm_4 = true := by decide +kernel
set_option maxRecDepth 100000 in
theorem kl4 : cc_kl.all (fun q => decide (cc_or cm_4[q / 2000]? (q % 2000) = em_RTz q)) = true := by decide +kernel
set_option maxRecDepth 100000 in
theorem sh4 : (den cm_4).1 = em_SH := by decide +kernel
theorem r4 : (fun a j => cc_or cm_4[a]? j) = em_RT 11 := by
  funext a j
  by_cases e40 : a = 40 ∧ j = 3
  · rw [e40.1, e40.2]; decide +kernel
  have e1 : em_RT 11 a j = cond (Nat.blt j 2000) (em_RTz (2000 * a + j)) none := by
    unfold em_RT
    have e : (Nat.beq a 40 && Nat.beq j 3) = false := by
      cases hb : (Nat.beq a 40 && Nat.beq j 3) with
      | false => rfl
      | true =>
        rw [Bool.and_eq_true] at hb
        exact absurd ⟨Nat.eq_of_beq_eq_true hb.1, Nat.eq_of_beq_eq_true hb.2⟩ e40
    rw [e]
    rfl
  cases h : cc_or cm_4[a]? j with
  | some w =>
    cases hc : cm_4[a]? with
    | none => rw [hc] at h; cases h
    | some c =>
      rw [hc] at h
      have h' : cc_lr c.2.2.2.2 j = some w := h
      have hex : ∃ q ∈ c.2.2.2.2, j = q.1 := by
        refine Classical.byContradiction fun hn => ?_
        rw [cc_lr_no (fun q hq z => hn ⟨q, hq, z⟩)] at h'
        cases h'
      obtain ⟨q, q1, q2⟩ := hex
      have g := (cc_rok_ok rok4 hc q q1).2
      rw [Nat.zero_add, ← q2, h'] at g
      exact g
  | none =>
    cases h2 : em_RT 11 a j with
    | none => rfl
    | some v =>
      exfalso
      rw [e1] at h2
      cases hb : Nat.blt j 2000 with
      | false => rw [hb] at h2; cases h2
      | true =>
        rw [hb] at h2
        have hj : j < 2000 := Nat.blt_eq.mp hb
        have h3 : em_RTz (2000 * a + j) = some v := h2
        have g := of_decide_eq_true (List.all_eq_true.mp kl4 _ (RTz_in _ v h3))
        rw [show (2000 * a + j) / 2000 = a by omega, show (2000 * a + j) % 2000 = j by omega, h, h3] at g
        cases g
def I4 (a j : Nat) : Int32 := cc_oi cm_4[a]? j
def J4 (a j : Nat) : Int64 := cc_oj cm_4[a]? j
theorem den4 : den cm_4 = (em_SH, I4, J4, em_RT 11) := Prod.ext sh4 (Prod.ext rfl (Prod.ext rfl r4))
set_option maxRecDepth 100000 in
theorem ck4 : ck_J J4 := by
  have h : ∀ k, k < 21 → cc_oj cm_4[7]? k = lN (tk_kw.getD k 0) := by decide +kernel
  exact h
set_option maxRecDepth 100000 in
theorem mk4 : mk_J J4 := by
  have h : ∀ k, k < 21 → cc_oj cm_4[291]? k = lN (tk_tr 8 (tk_kw.getD k 0)) := by decide +kernel
  exact h
set_option maxRecDepth 100000 in
theorem CI4 : CI I4 false 0 (rp tl_0) (rW tl_0) 0 (fun _ => rW tl_0) (fun _ => false) (fun _ => rW tl_0) 0 (fun _ => 0, fun _ => 0, fun _ => false) 0 (fun _ => 0) (-1) := by
  refine ⟨⟨⟨by decide, ?_, ?_⟩, fun b hb => absurd hb (Nat.not_lt_zero _), ?_, ?_, ?_, ?_⟩, ⟨?_, lsem_ind (l := none) trivial (fun _ => trivial)⟩, ⟨⟨by decide, ?_, ?_, ?_⟩, fun b hb => absurd hb (Nat.not_lt_zero _)⟩, fun t ht b hb => absurd hb (Nat.not_lt_zero _), ⟨?_, ?_⟩, ⟨by decide, by decide, ?_, ?_, fun i hi => absurd hi (Nat.not_lt_zero _)⟩, fun s hs => ⟨?_, fun e => absurd (show false = true from e) (by decide)⟩, ⟨⟨by decide, ?_⟩, fun i hi => absurd hi (Nat.not_lt_zero _)⟩, ⟨by decide, ?_, fun i hi => absurd hi (Nat.not_lt_zero _)⟩, ?_⟩
  · show cc_oi cm_4[24]? 7 = nI 0
    decide +kernel
  · show cc_oi cm_4[24]? 9 = 0
    decide +kernel
  · refine cp_law_plan_lies (k := 0) (l := none) (by decide) trivial ?_ (by decide) ?_
    · show cc_oi cm_4[27]? 2 = nI 2
      decide +kernel
    · show cc_oi cm_4[28]? 0 = -1 - nI 0 ∧ cc_oi cm_4[28]? 1 = -15 ∧ True
      exact ⟨by decide +kernel, by decide +kernel, trivial⟩
  · refine cp_law_plan_parts (k := 1) (l := none) (by decide) trivial ?_ (by decide) ?_
    · show cc_oi cm_4[30]? 2 = nI 2
      decide +kernel
    · show cc_oi cm_4[31]? 0 = nI 1 ∧ cc_oi cm_4[31]? 1 = -15 ∧ True
      exact ⟨by decide +kernel, by decide +kernel, trivial⟩
  · refine cp_law_plan_chills (k := 2) (l := none) (by decide) trivial ?_ (by decide) ?_
    · show cc_oi cm_4[33]? 2 = nI 2
      decide +kernel
    · show cc_oi cm_4[34]? 0 = nI 0 ∧ cc_oi cm_4[34]? 1 = -15 ∧ True
      exact ⟨by decide +kernel, by decide +kernel, trivial⟩
  · refine cp_law_plan_costs (k := 3) (l := none) (by decide) trivial ?_ (by decide) ?_
    · show cc_oi cm_4[36]? 2 = nI 2
      decide +kernel
    · show cc_oi cm_4[37]? 0 = nI 1 ∧ cc_oi cm_4[37]? 1 = -15 ∧ True
      exact ⟨by decide +kernel, by decide +kernel, trivial⟩
  · show cc_oi cm_4[27]? 4 = 0
    decide +kernel
  · show cc_oi cm_4[42]? 4 = nI 0
    decide +kernel
  · show cc_oi cm_4[42]? 5 = nI 0
    decide +kernel
  · show cc_oi cm_4[42]? 6 = 0
    decide +kernel
  · show cc_oi cm_4[24]? 11 = nI 0
    decide +kernel
  · show cc_oi cm_4[24]? 10 = nI 0
    decide +kernel
  · show cc_oi cm_4[47]? 3 = nI 0
    decide +kernel
  · show cc_oi cm_4[47]? 4 = nI 0
    decide +kernel
  · have h : ∀ s, s < 3 → cc_oi cm_4[50]? s = 0 := by decide +kernel
    exact h s hs
  · show cc_oi cm_4[266]? 3 = nI 0
    decide +kernel
  · show cc_oi cm_4[2]? 5 = nI 0
    decide +kernel
  · show cc_oi cm_4[1]? 11 = -1
    decide +kernel
set_option maxRecDepth 100000 in
theorem MI4 : MI I4 0 (rp tl_0) (rW tl_0) 0 (fun _ => rW tl_0) (fun _ => false) (fun _ => rW tl_0) 0 (fun _ => 0, fun _ => 0, fun _ => false) 0 (fun _ => 0) (-1) := by
  refine ⟨⟨⟨by decide, by decide, ?_, ?_, ?_⟩, fun b hb => absurd hb (Nat.not_lt_zero _), fun k hk => ml.law (l := none) (by decide) hk trivial ?_⟩, ?_, ⟨⟨by decide, ?_, ?_, ?_, Nat.le_refl _⟩, fun b hb => absurd hb (Nat.not_lt_zero _), fun b hb hb9 => ?_⟩, ⟨by decide, ?_, fun i hi => absurd hi (Nat.not_lt_zero _)⟩, fun s hs => ⟨?_, fun e => absurd (show false = true from e) (by decide)⟩, ⟨⟨by decide, ?_⟩, fun i hi => absurd hi (Nat.not_lt_zero _)⟩, ⟨by decide, ?_, fun i hi => absurd hi (Nat.not_lt_zero _)⟩, ?_⟩
  · show cc_oi cm_4[284]? 18 = nI 0
    decide +kernel
  · show cc_oi cm_4[293]? 0 = nI 0
    decide +kernel
  · show cc_oi cm_4[299]? 0 = 0
    decide +kernel
  · have h : ∀ k, k < 4 → cc_oi cm_4[302]? (4 * 0 + k) = cc_oi cm_4[303]? (4 * 0 + k) := by decide +kernel
    exact h k hk
  · show cc_oi cm_4[301]? 0 = nI 0
    decide +kernel
  · show cc_oi cm_4[314]? 45 = nI 0
    decide +kernel
  · show cc_oi cm_4[314]? 46 = 0
    decide +kernel
  · show cc_oi cm_4[314]? 47 = nI 0
    decide +kernel
  · have h : ∀ b, b < 9 → cc_oi cm_4[314]? (9 + b) = 0 ∧ cc_oi cm_4[314]? (36 + b) = 0 := by decide +kernel
    exact h b hb9
  · show cc_oi cm_4[284]? 53 = nI 0
    decide +kernel
  · have h : ∀ s, s < 3 → cc_oi cm_4[326]? s = 0 := by decide +kernel
    exact h s hs
  · show cc_oi cm_4[284]? 58 = nI 0
    decide +kernel
  · show cc_oi cm_4[284]? 2 = nI 0
    decide +kernel
  · show cc_oi cm_4[284]? 17 = -1
    decide +kernel
theorem JI4 : JI I4 J4 10000 := ⟨false, 0, 0, rp tl_0, rW tl_0, 0, fun _ => rW tl_0, fun _ => false, fun _ => rW tl_0, 0, (fun _ => 0, fun _ => 0, fun _ => false), 0, fun _ => 0, -1, CI4, MI4, ⟨by decide, fun i hi => absurd hi (Nat.not_lt_zero _), fun s hs e => absurd (show false = true from e) (by decide)⟩, ck4, mk4⟩
theorem em_M0_den : em_M0 = den [(30, 0, [], [], [])] := by
  refine Prod.ext rfl (Prod.ext ?_ (Prod.ext ?_ ?_))
  · funext a j
    cases a with
    | zero => rfl
    | succ a => rfl
  · funext a j
    cases a with
    | zero => rfl
    | succ a => rfl
  · funext a j
    cases a with
    | zero => rfl
    | succ a => rfl
theorem init_c {Q : Option Value → em_M → Prop} (h : Q none (den cs_13)) : em_call 39 121 [.ref 1] (den cs_0) Q := by
  show em_wp em_sc0 39 121 0 [some (.ref 1)] [] (den cs_0) Q
  refine cc_stg_ok cg_0 (cc_stg_ok cg_1 (cc_stg_ok cg_2 (cc_stg_ok cg_3 (cc_stg_ok cg_4 (cc_stg_ok cg_5 (cc_stg_ok cg_6 (cc_stg_ok cg_7 (cc_stg_ok cg_8 (cc_stg_ok cg_9 (cc_stg_ok cg_10 (cc_stg_ok cg_11 (cc_stg_ok cg_12 ?_))))))))))))
  exact em_done rfl h
theorem init_m {Q : Option Value → em_M → Prop} (h : Q none (den cm_4)) : em_call 39 167 [.ref 284] (den cm_0) Q := by
  show em_wp em_sc0 39 167 0 [some (.ref 284)] [] (den cm_0) Q
  refine cc_stg_ok ch_0 (cc_stg_ok ch_1 (cc_stg_ok ch_2 (cc_stg_ok ch_3 (cc_stg_ok ch_4 (cc_stg_ok ch_5 (cc_stg_ok ch_6 (cc_stg_ok ch_7 ?_)))))))
  exact em_done rfl h
set_option maxRecDepth 100000 in
theorem em_goal_ok : em_goal := by
  intro L xs hL
  rw [em_M0_den]
  show em_wp (L, xs) 40 em_law 0 [some (.ref 0), none, none, none] [] (den [(30, 0, [], [], [])]) _
  iterate 1 refine em_next rfl ?_
  show em_wp (L, xs) 40 em_law 3 [some (.ref 0), none, none, none] [.ref 1] (em_new (den [(30, 0, [], [], [])]) 11 12) _
  rw [den_new]
  show em_wp (L, xs) 40 em_law 3 [some (.ref 0), none, none, none] [.ref 1] (den cs_0) _
  iterate 1 refine em_next rfl ?_
  refine em_inv_call rfl (init_c ?_)
  iterate 1 refine em_next rfl ?_
  show em_wp (L, xs) 40 em_law 8 [some (.ref 0), some (.ref 1), none, none] [] (den cs_13) _
  iterate 1 refine em_next rfl ?_
  show em_wp (L, xs) 40 em_law 11 [some (.ref 0), some (.ref 1), none, none] [.ref 284] (em_new (den cs_13) 12 65) _
  rw [den_new]
  show em_wp (L, xs) 40 em_law 11 [some (.ref 0), some (.ref 1), none, none] [.ref 284] (den cm_0) _
  iterate 1 refine em_next rfl ?_
  refine em_inv_call rfl (init_m ?_)
  rw [den4]
  iterate 3 refine em_next rfl ?_
  show em_wp (L, xs) 40 em_law 18 [some (.ref 0), some (.ref 1), some (.ref 284), some (.int (nI (6 * 0)))] [] (em_SH, I4, J4, em_RT 11) _
  refine lw_loop (c := 0) (m := 512) hL (by omega) (by omega) JI4 (fun I' J' lw => ⟨rfl, ?_, ?_⟩)
  · show em_SH.length ≤ 600000
    decide +kernel
  · show (em_SH.map (fun q => q.2)).sum ≤ 7302250
    decide +kernel
