/-! the tables held against the code and the words of the Statement: by evaluation -/
def em_nrm (o pc : Nat) (i : Instr) : Instr := match i with
  | .iload_n k => .iload k.val
  | .lload_n k => .lload k.val
  | .aload_n k => .aload k.val
  | .istore_n k => .istore k.val
  | .lstore_n k => .lstore k.val
  | .astore_n k => .astore k.val
  | .bipush n => .iconst n
  | .sipush n => .iconst n
  | .ldc k => match em_cst o k with
    | some (v, _) => .iconst v
    | none => .ldc k
  | .ldc_w k => match em_cst o k with
    | some (v, _) => .iconst v
    | none => .ldc_w k
  | .goto t => .goto (pc + t)
  | .ifCond c t => .ifCond c (pc + t)
  | .if_icmp c t => .if_icmp c (pc + t)
  | .tableswitch d lo hi offs => .tableswitch (pc + d) lo hi (offs.map (fun t => (pc : Int) + t))
  | .lookupswitch d ps => .lookupswitch (pc + d) (ps.map (fun q => (q.1, (pc : Int) + q.2)))
  | i => i
def em_lok (pc : Nat) (i : Instr) (len : Nat) : Bool := match i with
  | .iload _ => Nat.beq len 2
  | .lload _ => Nat.beq len 2
  | .aload _ => Nat.beq len 2
  | .istore _ => Nat.beq len 2
  | .lstore _ => Nat.beq len 2
  | .astore _ => Nat.beq len 2
  | .ldc _ => Nat.beq len 2
  | .newarray _ => Nat.beq len 2
  | .bipush n => Nat.beq len 2 && decide ((Int8.ofInt n).toInt32 = Int32.ofInt n)
  | .sipush n => Nat.beq len 3 && decide ((Int16.ofInt n).toInt32 = Int32.ofInt n)
  | .ldc_w _ => Nat.beq len 3
  | .ldc2_w _ => Nat.beq len 3
  | .iinc _ _ => Nat.beq len 3
  | .getfield _ => Nat.beq len 3
  | .putfield _ => Nat.beq len 3
  | .invokevirtual _ => Nat.beq len 3
  | .invokestatic _ => Nat.beq len 3
  | .invokespecial _ => Nat.beq len 3
  | .new _ => Nat.beq len 3
  | .anewarray _ => Nat.beq len 3
  | .goto t => Nat.beq len 3 && decide (0 ≤ (pc : Int) + t)
  | .ifCond _ t => Nat.beq len 3 && decide (0 ≤ (pc : Int) + t)
  | .if_icmp _ t => Nat.beq len 3 && decide (0 ≤ (pc : Int) + t)
  | .tableswitch d _ _ offs => decide (0 ≤ (pc : Int) + d) && offs.toList.all (fun t => decide (0 ≤ (pc : Int) + t))
  | .lookupswitch d ps => (ps.toList.zip (ps.toList.drop 1)).all (fun (a, next) => a.1 < next.1) && decide (0 ≤ (pc : Int) + d) && ps.toList.all (fun q => decide (0 ≤ (pc : Int) + q.2))
  | _ => Nat.beq len 1
def em_chk (ix pc : Nat) : Bool := match em_ins ix pc with
  | none => true
  | some (i, nx) => match decode (em_cd ix) pc with
    | .ok (j, len) => decide (em_nrm (em_own ix) pc j = i) && Nat.beq nx (pc + len) && em_lok pc j len
    | .error _ => false
def em_chm (ix : Nat) : Bool := (List.range (em_sz ix)).all (em_chk ix)

theorem em_ch_0 : (List.range' 0 31).all em_chm = true := by decide +kernel
theorem em_ch_1 : (List.range' 31 33).all em_chm = true := by decide +kernel
theorem em_ch_2 : (List.range' 64 21).all em_chm = true := by decide +kernel
theorem em_ch_3 : (List.range' 85 30).all em_chm = true := by decide +kernel
theorem em_ch_4 : (List.range' 115 23).all em_chm = true := by decide +kernel
theorem em_ch_5 : (List.range' 138 24).all em_chm = true := by decide +kernel
theorem em_ch_6 : (List.range' 162 16).all em_chm = true := by decide +kernel
theorem em_ch_7 : (List.range' 178 19).all em_chm = true := by decide +kernel
theorem em_ch_8 : (List.range' 197 26).all em_chm = true := by decide +kernel
theorem em_ch_9 : (List.range' 223 28).all em_chm = true := by decide +kernel
theorem em_ch_10 : (List.range' 251 22).all em_chm = true := by decide +kernel
theorem em_ch_11 : (List.range' 273 6).all em_chm = true := by decide +kernel
theorem em_ch_12 : (List.range' 279 4).all em_chm = true := by decide +kernel
theorem em_chs (ix : Nat) (h : ix < em_n) : em_chm ix = true := by
  have hn : em_n = 283 := rfl
  rw [hn] at h
  have go : ∀ (a k : Nat), (List.range' a k).all em_chm = true → a ≤ ix → ix < a + k → em_chm ix = true := fun a k h1 h2 h3 => List.all_eq_true.mp h1 ix (by rw [List.mem_range'_1]; exact ⟨h2, h3⟩)
  rcases Nat.lt_or_ge ix 31 with h0 | h0
  · exact go 0 31 em_ch_0 (by omega) (by omega)
  rcases Nat.lt_or_ge ix 64 with h1 | h1
  · exact go 31 33 em_ch_1 (by omega) (by omega)
  rcases Nat.lt_or_ge ix 85 with h2 | h2
  · exact go 64 21 em_ch_2 (by omega) (by omega)
  rcases Nat.lt_or_ge ix 115 with h3 | h3
  · exact go 85 30 em_ch_3 (by omega) (by omega)
  rcases Nat.lt_or_ge ix 138 with h4 | h4
  · exact go 115 23 em_ch_4 (by omega) (by omega)
  rcases Nat.lt_or_ge ix 162 with h5 | h5
  · exact go 138 24 em_ch_5 (by omega) (by omega)
  rcases Nat.lt_or_ge ix 178 with h6 | h6
  · exact go 162 16 em_ch_6 (by omega) (by omega)
  rcases Nat.lt_or_ge ix 197 with h7 | h7
  · exact go 178 19 em_ch_7 (by omega) (by omega)
  rcases Nat.lt_or_ge ix 223 with h8 | h8
  · exact go 197 26 em_ch_8 (by omega) (by omega)
  rcases Nat.lt_or_ge ix 251 with h9 | h9
  · exact go 223 28 em_ch_9 (by omega) (by omega)
  rcases Nat.lt_or_ge ix 273 with h10 | h10
  · exact go 251 22 em_ch_10 (by omega) (by omega)
  rcases Nat.lt_or_ge ix 279 with h11 | h11
  · exact go 273 6 em_ch_11 (by omega) (by omega)
  exact go 279 4 em_ch_12 (by omega) (by omega)
theorem em_dec {ix pc nx : Nat} {i : Instr} (h : em_ins ix pc = some (i, nx)) : ∃ j len, decode (em_cd ix) pc = .ok (j, len) ∧ em_nrm (em_own ix) pc j = i ∧ nx = pc + len ∧ em_lok pc j len = true := by
  have h0 := h
  unfold em_ins at h0
  cases hb : (Nat.blt ix em_n && Nat.blt pc (em_sz ix)) with
  | false => rw [hb] at h0; cases h0
  | true =>
    rw [Bool.and_eq_true] at hb
    have h1 : ix < em_n := Nat.le_of_ble_eq_true hb.1
    have h2 : pc < em_sz ix := Nat.le_of_ble_eq_true hb.2
    have h3 := List.all_eq_true.mp (em_chs ix h1) pc (List.mem_range.mpr h2)
    unfold em_chk at h3
    rw [h] at h3
    dsimp only at h3
    cases hd : decode (em_cd ix) pc with
    | error e => rw [hd] at h3; cases h3
    | ok q =>
      obtain ⟨j, len⟩ := q
      rw [hd] at h3
      simp only [Bool.and_eq_true, decide_eq_true_eq] at h3
      exact ⟨j, len, rfl, h3.1.1, Nat.eq_of_beq_eq_true h3.1.2, h3.2⟩
def em_okw (w : Jvm.Cond) : Bool := match w with
  | .fieldLinkNest .. => true
  | .methodLinkNest .. => true
  | w => goodWord w
def em_wd (i : Nat) (w : Jvm.Cond) : Bool := decide (lw_tbl[i]? = some w) && em_okw w
def em_wds : List Nat → List Jvm.Cond → Bool
  | [], [] => true
  | i :: is, w :: ws => em_wd i w && em_wds is ws
  | _, _ => false
theorem em_wd_in {i : Nat} {w : Jvm.Cond} (h : em_wd i w = true) : w ∈ lw_tbl ∧ em_okw w = true := by
  unfold em_wd at h
  rw [Bool.and_eq_true, decide_eq_true_eq] at h
  exact ⟨List.mem_of_getElem? h.1, h.2⟩
theorem em_wds_in : ∀ {is : List Nat} {ws : List Jvm.Cond}, em_wds is ws = true → ∀ w ∈ ws, w ∈ lw_tbl ∧ em_okw w = true
  | [], [], _ => fun w h => by cases h
  | i :: is, w :: ws, h => by
    unfold em_wds at h
    rw [Bool.and_eq_true] at h
    intro u hu
    rcases List.mem_cons.mp hu with rfl | hu
    · exact em_wd_in h.1
    · exact em_wds_in h.2 u hu
  | [], _ :: _, h => by cases h
  | _ :: _, [], h => by cases h
def em_tyk (t : FieldType) (k : Nat) : Bool := match t with
  | .int => Nat.beq k 0
  | .boolean => Nat.beq k 1
  | .object _ => Nat.beq k 2
  | .array _ => Nat.beq k 2
  | _ => false
def em_fck (o i : Nat) : Bool := match em_fld o i with
  | none => true
  | some (ci, f, t, fin) => Nat.blt ci 13 && Nat.blt f (em_nf ci) && decide ((em_T ci f).2.2.2 = fin) && em_tyk (em_ft ci f) t && decide ((em_T ci f).1 = em_rn ci) &&
      cond (em_fpl (1000 * o + i)).2 (em_wd (em_fpl (1000 * o + i)).1 (.fieldLinkNest (em_rn o) i (em_rn ci) (em_T ci f).2.1 (em_T ci f).2.2.1 "PartedSide")) (em_wd (em_fpl (1000 * o + i)).1 (.fieldLink (em_rn o) i (em_rn ci) (em_T ci f).2.1 (em_T ci f).2.2.1))
def em_cws (kd o i : Nat) (n : MethodName) (b : ByteArray) (mx : Nat) (rt : Option FieldType) : List Jvm.Cond := match kd with
  | 0 => [.methodLink (em_rn o) i n, .instanceMethod n, .initialized n.cls, .code n b mx rt, .selects n.cls n n]
  | 1 => [.methodLink (em_rn o) i n, .static n, .initialized n.cls, .code n b mx rt]
  | 2 => [.methodLink (em_rn o) i n, .instanceMethod n, .initialized n.cls, .code n b mx rt]
  | 3 => [.methodLinkNest (em_rn o) i n "PartedSide", .instanceMethod n, .initialized n.cls, .code n b mx rt, .selects n.cls n n]
  | 4 => [.methodLinkNest (em_rn o) i n "PartedSide", .static n, .initialized n.cls, .code n b mx rt]
  | 5 => [.methodLinkNest (em_rn o) i n "PartedSide", .instanceMethod n, .initialized n.cls, .code n b mx rt]
  | 8 => [.methodLink (em_rn o) i objectInit, .instanceMethod objectInit, .code objectInit ⟨#[0xb1]⟩ 1 none]
  | 9 => [.methodLink (em_rn o) i arraycopyName, .native arraycopyName, .static arraycopyName, .initialized "java/lang/System"]
  | _ => []
def em_mok (kd y : Nat) : Bool := Nat.blt y em_n && decide ((em_nm y).cls = em_rn (em_own y)) && decide ((em_nm y).cls ≠ "java/lang/invoke/MethodHandle") && decide ((em_nm y).cls ≠ "java/lang/invoke/VarHandle") && decide ((parseMethodDescriptor (em_nm y).desc).map (fun d => d.parameters.length) = some (em_na y)) && plainName (em_nm y).cls && Nat.ble (em_mx y) 20 &&
  cond (Nat.beq kd 2 || Nat.beq kd 5) (decide ((em_nm y).name = "<init>") && decide (em_rt y = none)) (Nat.blt kd 6) && cond (em_isi y) (decide ((em_nm y).name = "<init>")) true && Bool.not (Nat.beq y em_law)
def em_mck (o i : Nat) : Bool := match em_mth o i with
  | none => true
  | some (kd, y) => em_wds (em_mpl (1000 * o + i)) (em_cws kd o i (em_nm y) (em_cd y) (em_mx y) (em_rt y)) && (Nat.beq kd 8 || (Nat.beq kd 9 || em_mok kd y))
def em_clk (o i : Nat) : Bool := match em_cls o i with
  | none => true
  | some ci => Nat.blt ci 13 && em_wds (em_cpl (1000 * o + i)) [.classLink (em_rn o) i (em_rn ci), .instantiable (em_rn ci) (em_nf ci), .initialized (em_rn ci)]
def em_csk (o i : Nat) : Bool := (match em_cst o i with
  | none => true
  | some (v, p) => em_wd p (.constant (em_rn o) i (Int32.ofInt v))) && match em_csl o i with
  | none => true
  | some (v, p) => em_wd p (.constantLong (em_rn o) i v)
def em_all (f : Nat → Nat → Bool) : Bool := (List.range 20).all (fun o => (List.range 500).all (f o))
theorem em_all_at {f : Nat → Nat → Bool} (h : em_all f = true) {o i : Nat} (ho : o < 20) (hi : i < 500) : f o i = true :=
  List.all_eq_true.mp (List.all_eq_true.mp h o (List.mem_range.mpr ho)) i (List.mem_range.mpr hi)
theorem em_guard {α : Type} {o i : Nat} {a b : Option α} {x : α} (hb : b = none) (h : cond (Nat.blt o 20 && Nat.blt i 500) a b = some x) : o < 20 ∧ i < 500 := by
  subst hb
  cases hc : (Nat.blt o 20 && Nat.blt i 500) with
  | false => rw [hc] at h; cases h
  | true =>
    rw [Bool.and_eq_true] at hc
    exact ⟨Nat.le_of_ble_eq_true hc.1, Nat.le_of_ble_eq_true hc.2⟩
theorem em_fcs : em_all em_fck = true := by decide +kernel
theorem em_mcs : em_all em_mck = true := by decide +kernel
theorem em_ccs : em_all em_clk = true := by decide +kernel
theorem em_kcs : em_all em_csk = true := by decide +kernel
theorem em_fok {o i ci f t : Nat} {fin : Bool} (h : em_fld o i = some (ci, f, t, fin)) : ci < 13 ∧ f < em_nf ci ∧ (em_T ci f).2.2.2 = fin ∧ em_tyk (em_ft ci f) t = true ∧ (em_T ci f).1 = em_rn ci ∧
    ((Cond.fieldLinkNest (em_rn o) i (em_rn ci) (em_T ci f).2.1 (em_T ci f).2.2.1 "PartedSide") ∈ lw_tbl ∨ (Cond.fieldLink (em_rn o) i (em_rn ci) (em_T ci f).2.1 (em_T ci f).2.2.1 ∈ lw_tbl ∧ em_okw (Cond.fieldLink (em_rn o) i (em_rn ci) (em_T ci f).2.1 (em_T ci f).2.2.1) = true)) := by
  obtain ⟨ho, hi⟩ := em_guard rfl h
  have h1 := em_all_at em_fcs ho hi
  unfold em_fck at h1
  rw [h] at h1
  dsimp only at h1
  simp only [Bool.and_eq_true, decide_eq_true_eq] at h1
  obtain ⟨⟨⟨⟨⟨h1, h2⟩, h3⟩, h4⟩, h5⟩, h6⟩ := h1
  refine ⟨Nat.le_of_ble_eq_true h1, Nat.le_of_ble_eq_true h2, h3, h4, h5, ?_⟩
  cases hc : (em_fpl (1000 * o + i)).2 with
  | true => rw [hc] at h6; exact Or.inl (em_wd_in h6).1
  | false => rw [hc] at h6; exact Or.inr (em_wd_in h6)
theorem em_mws {o i kd y : Nat} (h : em_mth o i = some (kd, y)) : (∀ w ∈ em_cws kd o i (em_nm y) (em_cd y) (em_mx y) (em_rt y), w ∈ lw_tbl ∧ em_okw w = true) ∧ (kd = 8 ∨ kd = 9 ∨ em_mok kd y = true) := by
  obtain ⟨ho, hi⟩ := em_guard rfl h
  have h1 := em_all_at em_mcs ho hi
  unfold em_mck at h1
  rw [h] at h1
  dsimp only at h1
  rw [Bool.and_eq_true, Bool.or_eq_true, Bool.or_eq_true] at h1
  exact ⟨em_wds_in h1.1, h1.2.elim (fun q => Or.inl (Nat.eq_of_beq_eq_true q)) (fun q => Or.inr (q.elim (fun q => Or.inl (Nat.eq_of_beq_eq_true q)) Or.inr))⟩
theorem em_clw {o i ci : Nat} (h : em_cls o i = some ci) : ci < 13 ∧ ∀ w ∈ ([.classLink (em_rn o) i (em_rn ci), .instantiable (em_rn ci) (em_nf ci), .initialized (em_rn ci)] : List Jvm.Cond), w ∈ lw_tbl ∧ em_okw w = true := by
  obtain ⟨ho, hi⟩ := em_guard rfl h
  have h1 := em_all_at em_ccs ho hi
  unfold em_clk at h1
  rw [h] at h1
  dsimp only at h1
  rw [Bool.and_eq_true] at h1
  exact ⟨Nat.le_of_ble_eq_true h1.1, em_wds_in h1.2⟩
theorem em_csw {o i p : Nat} {v : Int} (h : em_cst o i = some (v, p)) : Cond.constant (em_rn o) i (Int32.ofInt v) ∈ lw_tbl ∧ em_okw (Cond.constant (em_rn o) i (Int32.ofInt v)) = true := by
  obtain ⟨ho, hi⟩ := em_guard rfl h
  have h1 := em_all_at em_kcs ho hi
  unfold em_csk at h1
  rw [h] at h1
  dsimp only at h1
  rw [Bool.and_eq_true] at h1
  exact em_wd_in h1.1
theorem em_clg {o i p : Nat} {v : Int64} (h : em_csl o i = some (v, p)) : Cond.constantLong (em_rn o) i v ∈ lw_tbl ∧ em_okw (Cond.constantLong (em_rn o) i v) = true := by
  obtain ⟨ho, hi⟩ := em_guard rfl h
  have h1 := em_all_at em_kcs ho hi
  unfold em_csk at h1
  rw [h] at h1
  dsimp only at h1
  rw [Bool.and_eq_true] at h1
  exact em_wd_in h1.2
theorem em_vw : ∀ ci, ci < 13 → vwCl[ci]? = some (em_rn ci, em_T ci, em_nf ci) := by
  intro ci h
  match ci, h with
  | 0, _ => exact rfl
  | 1, _ => exact rfl
  | 2, _ => exact rfl
  | 3, _ => exact rfl
  | 4, _ => exact rfl
  | 5, _ => exact rfl
  | 6, _ => exact rfl
  | 7, _ => exact rfl
  | 8, _ => exact rfl
  | 9, _ => exact rfl
  | 10, _ => exact rfl
  | 11, _ => exact rfl
  | 12, _ => exact rfl
  | ci + 13, h => omega
theorem em_tyok : ∀ ci, ci < 13 → ∀ k, k < em_nf ci → parseFieldDescriptor (em_T ci k).2.2.1 = some (em_ft ci k) := by
  intro ci h
  match ci, h with
  | 0, _ => exact tyX0_ok
  | 1, _ => exact tyX1_ok
  | 2, _ => exact tyX2_ok
  | 3, _ => exact tyX3_ok
  | 4, _ => exact tyX4_ok
  | 5, _ => exact tyX5_ok
  | 6, _ => exact tyX6_ok
  | 7, _ => exact tyX7_ok
  | 8, _ => exact tyX8_ok
  | 9, _ => exact tyX9_ok
  | 10, _ => exact tyX10_ok
  | 11, _ => exact tyX11_ok
  | 12, _ => exact tyX12_ok
  | ci + 13, h => omega
theorem em_nmok : ∀ ci, ci < 13 → ∀ a, a < em_nf ci → ∀ b, b < em_nf ci → a ≠ b → (em_T ci a).2.1 ≠ (em_T ci b).2.1 := by
  intro ci h
  match ci, h with
  | 0, _ => exact nmX0
  | 1, _ => exact nmX1
  | 2, _ => exact nmX2
  | 3, _ => exact nmX3
  | 4, _ => exact nmX4
  | 5, _ => exact nmX5
  | 6, _ => exact nmX6
  | 7, _ => exact nmX7
  | 8, _ => exact nmX8
  | 9, _ => exact nmX9
  | 10, _ => exact nmX10
  | 11, _ => exact nmX11
  | 12, _ => exact nmX12
  | ci + 13, h => omega
theorem em_ucs : (List.range 13).all (fun ci => em_wds (em_upl ci) (u_ws (em_rn ci) (em_T ci) (em_nf ci))) = true := by decide +kernel
theorem em_uin {ci : Nat} (h : ci < 13) : ∀ w ∈ u_ws (em_rn ci) (em_T ci) (em_nf ci), w ∈ lw_tbl ∧ em_okw w = true := em_wds_in (List.all_eq_true.mp em_ucs ci (List.mem_range.mpr h))
