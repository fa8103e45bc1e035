/-! THE CLAIM OUT OF ONE WALK OF THE LAW'S BODY. Your part is whole_start (and what it stands on); all else here is the same for every law, but numbers. -/
def R_law : String := "PartedSideLaw"
def lw_P (b : Addr) (xs : List Int32) (args : Array Value) (s : State) : Prop := args = #[.ref b] ∧ s.IntsAt b xs ∧ xs.length ≤ 3072 ∧ (Jvm.Cond.and given_1 narrow_1).before args s = true
def lw_Q (_ : Array Value) (s : State) (o : Outcome) (t : State) : Prop := o = .returned (some (.int 1)) ∧ Framed s o t [] 600000 7302250
def lw_Z (below : List Frame) (a : Array Value) (s : State) : State → Prop := fun t => ∃ o, t.status = .running ∧ Ended t below o ∧ lw_Q a s o t
/-- the law's own end, with 1 on the stack, nothing written that was there before, its room as the claim has it -/
theorem lw_ret {p : Program} {l : Launch} {e : Env} {s : State} {m : MethodId} {below : List Frame} {meth : Method} {c : Code} {b : Nat} (hx : p.tables.exec = Jvm.exec) (hb : c.code = code) (hr : meth.sig.returnType = ret) (hlocks : meth.locks = false) {pc : Nat} {H : Heap} {ls : Array Slot} (hdg : decode code pc = .ok (.ireturn, 1)) : W p l e room_1 s m #[Value.ref b] below meth c H [] 600000 7302250 (lw_Z below #[Value.ref b] s) (F0 m pc ls [.int 1]) := by
  intro T hT X
  obtain ⟨fs, hret, hrun, hended, hW, hframe⟩ := X.leave (v := some (.int 1)) (hlocks := hlocks) (fun h => by rw [hr] at h; cases h)
  have hmeth' : T.vm.method? m = some meth := X.method'
  refine ⟨T.setFrames fs, ?_, .returned (some (.int 1)), hrun, hended, rfl, ⟨_, rfl⟩, hW, hframe⟩
  jvm_step X.here [X.here.top, hx, hb, hdg, hmeth', hr, ret, narrow_b1]
  (try refine ⟨rfl, ?_⟩); (try refine ⟨rfl, ?_⟩)
  first | (intro acts; rw [hret _ acts rfl rfl rfl]) | rw [hret _ _ rfl rfl rfl]
  exact Steps.refl _
/-- what holds at the law's entry: the machine, the code, the tables' words (any of lw_tbl by 'hts w (by decide +kernel)'), the script of L ints xs at the cell b, what the Statement gives of the start (any of its parts by flat_of_before) -/
def lw_At (p : Program) (s : State) (m : MethodId) (meth : Method) (c : Code) (b L : Nat) (xs : Nat → Int32) : Prop :=
  p.tables.exec = Jvm.exec ∧ c.code = code ∧ meth.sig.returnType = ret ∧ c.maxLocals = 4 ∧ s.vm.findClass R_law = some m.cls ∧ (∀ w ∈ lw_tbl, w.before #[Value.ref b] s = true) ∧ va_X b L xs s s.heap ∧ b < s.heap.size ∧ meth.locks = false ∧ (Jvm.Cond.and given_1 narrow_1).before #[Value.ref b] s = true
/-! what the Statement gives of the start -/
def em_fl : List Jvm.Cond := flatC (Jvm.Cond.and given_1 narrow_1)
def em_fp (i : Nat) : Nat := cond (Nat.beq i 0) 9 131
def em_tm (i : Nat) : Jvm.Term := .string (em_so i) (em_si i)
def em_fval (i : Nat) : Jvm.Term := .field (em_tm i) "java/lang/String" "value" "[B"
def em_sa1 (i : Nat) : Bool := decide (em_fl[em_fp i]? = some (.exactly (em_tm i) "java/lang/String")) && decide (em_fl[em_fp i + 1]? = some (.eq (.field (em_tm i) "java/lang/String" "coder" "B") (.int 0))) && decide (em_fl[em_fp i + 2]? = some (.arrayOf (em_fval i) .byte)) && decide (em_fl[em_fp i + 3]? = some (.eq (.length (em_fval i)) (.int (Int32.ofNat (em_len.getD i 0))))) && (List.range (em_len.getD i 0)).all (fun j => decide (em_fl[em_fp i + 4 + j]? = some (.eq (.elem (em_fval i) (.int (Int32.ofNat j))) (.int ((em_byt.getD i []).getD j 0)))))
theorem em_sa : (List.range 2).all em_sa1 = true := by decide +kernel
theorem em_sb : em_fl[144]? = some (.not (.eq (em_tm 0) (em_tm 1))) ∧ em_fl[4]? = some (.eq (.static "java/lang/String" "COMPACT_STRINGS" "Z") (.int 1)) ∧ em_fl[5]? = some (.isRef (.static "jdk/internal/util/Preconditions" "SIOOBE_FORMATTER" "Ljava/util/function/BiFunction;")) := by decide +kernel
def em_ipl (ci : Nat) : Nat := ([456, 223, 409, 364, 217, 542, 320, 436, 127, 482, 517, 119, 1332] : List Nat).getD ci 0
theorem em_ipk : (List.range 13).all (fun ci => em_wd (em_ipl ci) (.instantiable (em_rn ci) (em_nf ci))) = true := by decide +kernel
theorem em_wao : Cond.arrayOver (.object RX3) ∈ lw_tbl := List.mem_of_getElem? (i := 415) (by decide +kernel)
theorem em_wsr : Cond.stringRef (em_so 0) (em_si 0) (em_stx 0) ∈ lw_tbl ∧ Cond.stringRef (em_so 1) (em_si 1) (em_stx 1) ∈ lw_tbl := ⟨List.mem_of_getElem? (i := 132) (by decide +kernel), List.mem_of_getElem? (i := 683) (by decide +kernel)⟩
theorem em_wz1 : Cond.laysStatic "java/lang/String" "COMPACT_STRINGS" "Z" ∈ lw_tbl ∧ Cond.initialized "java/lang/String" ∈ lw_tbl := ⟨List.mem_of_getElem? (i := 142) (by decide +kernel), List.mem_of_getElem? (i := 98) (by decide +kernel)⟩
theorem em_wz2 : Cond.laysStatic "jdk/internal/util/Preconditions" "SIOOBE_FORMATTER" "Ljava/util/function/BiFunction;" ∈ lw_tbl ∧ Cond.initialized "jdk/internal/util/Preconditions" ∈ lw_tbl := ⟨List.mem_of_getElem? (i := 158) (by decide +kernel), List.mem_of_getElem? (i := 100) (by decide +kernel)⟩
theorem em_St_start {b : Nat} {s : State} {A : Nat → Prop} (hts : ∀ w ∈ lw_tbl, w.before #[Value.ref b] s = true) (hg : (Jvm.Cond.and given_1 narrow_1).before #[Value.ref b] s = true) (hA : ∀ a : Nat, a < s.heap.size → ¬ A a) : ∃ sv : Nat → Option Nat, em_St sv A s s.heap := by
  have hf : ∀ (i : Nat) (w : Jvm.Cond), em_fl[i]? = some w → w.before #[Value.ref b] s = true := fun i w h => flat_of_before _ hg w (List.mem_of_getElem? h)
  have hs : ∀ i, i < 2 → em_sa1 i = true := fun i hi => List.all_eq_true.mp em_sa i (List.mem_range.mpr hi)
  have hs2 : ∀ i, i < 2 → (em_fl[em_fp i]? = some (.exactly (em_tm i) "java/lang/String") ∧ em_fl[em_fp i + 1]? = some (.eq (.field (em_tm i) "java/lang/String" "coder" "B") (.int 0)) ∧ em_fl[em_fp i + 2]? = some (.arrayOf (em_fval i) .byte) ∧ em_fl[em_fp i + 3]? = some (.eq (.length (em_fval i)) (.int (Int32.ofNat (em_len.getD i 0)))) ∧ ∀ j, j < em_len.getD i 0 → em_fl[em_fp i + 4 + j]? = some (.eq (.elem (em_fval i) (.int (Int32.ofNat j))) (.int ((em_byt.getD i []).getD j 0)))) := by
    intro i hi
    have h := hs i hi
    unfold em_sa1 at h
    simp only [Bool.and_eq_true, decide_eq_true_eq] at h
    exact ⟨h.1.1.1.1, h.1.1.1.2, h.1.1.2, h.1.2, fun j hj => of_decide_eq_true (List.all_eq_true.mp h.2 j (List.mem_range.mpr hj))⟩
  obtain ⟨adK, adV, h1, h2⟩ := vk_Sof (args := #[Value.ref b]) (s := s) (N := 2) (tm := em_tm) (len := em_len) (byt := em_byt) (A := A) (fun i hi => by
      rcases (show i = 0 ∨ i = 1 by omega) with rfl | rfl <;> decide) (fun i hi => hf _ _ (hs2 i hi).1) (fun i hi => hf _ _ (hs2 i hi).2.1) (fun i hi => hf _ _ (hs2 i hi).2.2.1) (fun i hi => hf _ _ (hs2 i hi).2.2.2.1) (fun i hi j hj => hf _ _ ((hs2 i hi).2.2.2.2 j hj)) (fun i j hi hj hij => by
      rcases (show (i = 0 ∧ j = 1) ∨ (i = 1 ∧ j = 0) by omega) with ⟨rfl, rfl⟩ | ⟨rfl, rfl⟩
      · exact Or.inl (hf _ _ em_sb.1)
      · exact Or.inr (hf _ _ em_sb.1)) hA
  have h3 : va_Z "java/lang/String" "COMPACT_STRINGS" "Z" (.int 1) A s s.heap := va_Zof (hts _ em_wz1.1) (hts _ em_wz1.2) (va_eqi (hf _ _ em_sb.2.1)) hA
  have h4 := va_Zqof (hts _ em_wz2.1) (hts _ em_wz2.2) (hf _ _ em_sb.2.2) hA
  have h5 : ∃ o : Option Nat, va_Z "jdk/internal/util/Preconditions" "SIOOBE_FORMATTER" "Ljava/util/function/BiFunction;" (va_rf o) A s s.heap := by
    rcases h4 with h4 | ⟨t, h4⟩
    · exact ⟨none, h4⟩
    · exact ⟨some t, h4⟩
  obtain ⟨o, h5⟩ := h5
  refine ⟨fun k => if k = 0 then some (adK 0) else if k = 1 then some (adK 1) else if k = 2 then some (adV 0) else if k = 3 then some (adV 1) else o, adK, adV, h1, fun k hk => ?_, h3, h5⟩
  have hev : ∀ k, k < 2 → (Jvm.Term.string (em_so k) (em_si k)).eval #[Value.ref b] s none [] s = some (.ref (adK k)) := fun k hk => h2 k hk
  rcases (show k = 0 ∨ k = 1 by omega) with rfl | rfl
  · exact ⟨rfl, rfl, vk_R.of (A := #[Value.ref b]) (hts _ em_wsr.1) (hev 0 (by decide))⟩
  · exact ⟨rfl, rfl, vk_R.of (A := #[Value.ref b]) (hts _ em_wsr.2) (hev 1 (by decide))⟩
theorem em_K_start {b : Nat} {s : State} (hts : ∀ w ∈ lw_tbl, w.before #[Value.ref b] s = true) : ∃ (D : va_G) (dA : Nat → ClassId), va_K D vwCl (em_tys dA) s := by
  have hTb := em_Tb.start hts
  have h0 : ∀ ci : Nat, ∃ q : ClassId × (Nat → Nat), ci < 13 → u_Kn s (em_rn ci) (em_T ci) (em_nf ci) q.1 q.2 := by
    intro ci
    by_cases hci : ci < 13
    · have hi := em_wd_in (List.all_eq_true.mp em_ipk ci (List.mem_range.mpr hci))
      obtain ⟨cC, iS, hk⟩ := u_known (C := em_rn ci) (T := em_T ci) (N := em_nf ci) (n := em_nf ci) (args := #[Value.ref b]) (fun w hw => hTb w (em_uin hci w hw).1 (em_uin hci w hw).2 #[Value.ref b]) (fun w hw => hw) (hTb _ hi.1 hi.2 #[Value.ref b])
      exact ⟨(cC, iS), fun _ => hk⟩
    · exact ⟨(0, fun _ => 0), fun h => absurd h hci⟩
  obtain ⟨dD, hdD⟩ := Classical.axiomOfChoice h0
  have ha : ∀ t, em_ak t ≠ 0 → ∃ cA : ClassId, ArrOfT s cA (newarray.typeOf t) ∧ s.vm.findClass ("[" ++ (newarray.typeOf t).toString) = some cA := by
    intro t ht
    obtain ⟨cA, kA, comp, g1, g2, g3⟩ := Cond.arrayClass_spec (hts _ (em_arw t ht).1)
    exact ⟨cA, fun n z => ⟨fun k h => (by cases h), kA, g2, comp, g3⟩, g1⟩
  obtain ⟨c1, a1, b1⟩ := ha .int (by decide)
  obtain ⟨c2, a2, b2⟩ := ha .byte (by decide)
  obtain ⟨c3, a3, b3⟩ := ha .boolean (by decide)
  obtain ⟨c4, a4, b4⟩ := ha .long (by decide)
  obtain ⟨comp, c5, k5, d1, -, d3, d4, d5⟩ := Cond.arrayOver_spec (hts _ em_wao)
  refine ⟨(fun ci => (dD ci).1, fun ci => (dD ci).2), fun k => if k = 20 then c1 else if k = 21 then c2 else if k = 22 then c3 else if k = 23 then c4 else c5, fun ci q hq => ?_, fun k q hk => ?_⟩
  · have hci : ci < 13 := by
      have := (List.getElem?_eq_some_iff.mp hq).1
      exact this
    rw [em_vw ci hci] at hq
    cases hq
    exact hdD ci hci
  · match k, hk with
    | 0, hk => cases hk; exact ⟨a1, b1⟩
    | 1, hk => cases hk; exact ⟨a2, b2⟩
    | 2, hk => cases hk; exact ⟨a3, b3⟩
    | 3, hk => cases hk; exact ⟨a4, b4⟩
    | 4, hk => cases hk; exact ⟨fun n z => ⟨(fun k h => by cases h), k5, d3, comp, d4⟩, k5, comp, d3, d4, d1, d5⟩
    | k + 5, hk => cases hk
def em_M0 : em_M := ([(30, 0)], fun _ _ => 0, fun _ _ => 0, fun _ _ => none)
/-- what is left: of the pure machine alone -/
def em_goal : Prop := ∀ (L : Nat) (xs : Nat → Int32), L ≤ 3072 → em_wp (L, xs) 40 em_law 0 (em_loc em_law [.ref 0]) [] em_M0 (fun r M' => r = some (.int 1) ∧ M'.1.length ≤ 600000 ∧ em_sl M' ≤ 7302250)
theorem em_start (hp : em_goal) {p : Program} {e : Env} {s : State} {m : MethodId} {below : List Frame} {meth : Method} {c : Code} (l : Launch) (hflags : l.flags = flags0) {b L : Nat} {xs : Nat → Int32} (hL : L ≤ 3072) (C0 : lw_At p s m meth c b L xs) : W p l e room_1 s m #[Value.ref b] below meth c s.heap [] 0 0 (lw_Z below #[Value.ref b] s) (entryFrame m ([Value.ref b] : List Value).toArray 4) := by
  obtain ⟨hx, hb, hr, hml, hown, hts, hX, hbl, hlocks, hgv⟩ := C0
  obtain ⟨n, r, M', hrun, rfl, hM1, hM2⟩ := hp L xs hL
  obtain ⟨sv, hSt⟩ := em_St_start (A := fun q => s.heap.size ≤ q) hts hgv (fun a ha => Nat.not_le.mpr ha)
  obtain ⟨D, dA, hK⟩ := em_K_start hts
  have C : em_Cx D dA (fun k => match k with
      | 0 => b
      | j + 1 => s.heap.size + j, sv) s.heap.size L xs 1 p s m meth c em_law := ⟨hx, hb, hml, hown, em_Tb.start hts, hK, va_AO.of (hts _ em_wao), fun h => (by cases h), fun j => rfl, ⟨rfl, Nat.le_refl _⟩, hSt, fun _ => ⟨hX, hbl, hbl⟩⟩
  have g := em_sound (l := l) (D := D) (dA := dA) (ad := (fun k => match k with
      | 0 => b
      | j + 1 => s.heap.size + j, sv)) (base := s.heap.size) (fun j => rfl) n L xs 40 em_law 0 (em_loc em_law [.ref 0]) [] em_M0 _ M' hrun (R := room_1) (e := e) (args := #[Value.ref b]) (below := below) (Q := lw_Z below #[Value.ref b] s) (c0 := 1) (s0 := 0) C (Nat.le_of_ble_eq_true rfl) (Nat.le_of_ble_eq_true rfl) (Nat.le_refl _) (Nat.zero_le _) (Nat.le_trans (Nat.sub_le _ _) hM1) (Nat.le_trans (Nat.sub_le _ _) hM2) (by
    intro pc lc st h ls H locs hL hW hS
    unfold em_stp at h
    split at h
    · cases h
    · rename_i i nx hi
      obtain ⟨j, len, hd, hn, rfl, hlok⟩ := em_dec hi
      have hi2 := em_do_ret h
      have hj := em_nrm_ret hn hi2
      subst hj
      unfold em_do at h
      rcases hi2 with rfl | rfl | rfl | rfl
      · have hq1 : len = 1 := Nat.eq_of_beq_eq_true hlok
        subst hq1
        dsimp only at h
        split at h
        · split at h
          · cases h
            refine va_forget hS.2.2 (W.widen (k := 600000) (n := 7302250) (Nat.le_trans (Nat.sub_le _ _) hM1) (Nat.le_trans (Nat.sub_le _ _) hM2) ?_)
            exact lw_ret hx hb hr hlocks hd
          · cases h
        · cases h
      · dsimp only at h
        split at h
        · split at h <;> cases h
        · cases h
      · dsimp only at h
        split at h
        · split at h <;> cases h
        · cases h
      · dsimp only at h
        split at h
        · split at h <;> cases h
        · cases h)
  have g2 := g _ s.heap [] (em_Lr.entry (y := em_law) (as := [.ref 0]) (Nat.le_of_ble_eq_true rfl)) ⟨fun k q h => (by cases h), rfl, fun j sh h => (by cases h)⟩ va_S.rf
  rw [lg_entry_eq]
  exact g2
