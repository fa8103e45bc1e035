theorem em_chs (ix : Nat) (h : ix < em_n) : em_chm ix = true := by
  have hn : em_n = 281 := rfl
  rw [hn] at h
  have go : ∀ (a k : Nat), (List.range' a k).all em_chm = true → a ≤ ix → ix < a + k → em_chm ix = true := fun a k h1 h2 h3 => List.all_eq_true.mp h1 ix (by rw [List.mem_range'_1]; exact ⟨h2, h3⟩)
  rcases Nat.lt_or_ge ix 15 with h0 | h0
  · exact go 0 15 em_ch_0 (by omega) (by omega)
  rcases Nat.lt_or_ge ix 16 with h1 | h1
  · (have e : ix = 15 := by omega); subst e; exact em_cb_15
  rcases Nat.lt_or_ge ix 31 with h2 | h2
  · exact go 16 15 em_ch_1 (by omega) (by omega)
  rcases Nat.lt_or_ge ix 48 with h3 | h3
  · exact go 31 17 em_ch_2 (by omega) (by omega)
  rcases Nat.lt_or_ge ix 60 with h4 | h4
  · exact go 48 12 em_ch_3 (by omega) (by omega)
  rcases Nat.lt_or_ge ix 68 with h5 | h5
  · exact go 60 8 em_ch_4 (by omega) (by omega)
  rcases Nat.lt_or_ge ix 77 with h6 | h6
  · exact go 68 9 em_ch_5 (by omega) (by omega)
  rcases Nat.lt_or_ge ix 88 with h7 | h7
  · exact go 77 11 em_ch_6 (by omega) (by omega)
  rcases Nat.lt_or_ge ix 99 with h8 | h8
  · exact go 88 11 em_ch_7 (by omega) (by omega)
  rcases Nat.lt_or_ge ix 113 with h9 | h9
  · exact go 99 14 em_ch_8 (by omega) (by omega)
  rcases Nat.lt_or_ge ix 121 with h10 | h10
  · exact go 113 8 em_ch_9 (by omega) (by omega)
  rcases Nat.lt_or_ge ix 129 with h11 | h11
  · exact go 121 8 em_ch_10 (by omega) (by omega)
  rcases Nat.lt_or_ge ix 142 with h12 | h12
  · exact go 129 13 em_ch_11 (by omega) (by omega)
  rcases Nat.lt_or_ge ix 154 with h13 | h13
  · exact go 142 12 em_ch_12 (by omega) (by omega)
  rcases Nat.lt_or_ge ix 161 with h14 | h14
  · exact go 154 7 em_ch_13 (by omega) (by omega)
  rcases Nat.lt_or_ge ix 162 with h15 | h15
  · (have e : ix = 161 := by omega); subst e; exact em_cb_161
  rcases Nat.lt_or_ge ix 167 with h16 | h16
  · exact go 162 5 em_ch_14 (by omega) (by omega)
  rcases Nat.lt_or_ge ix 168 with h17 | h17
  · (have e : ix = 167 := by omega); subst e; exact em_cb_167
  rcases Nat.lt_or_ge ix 177 with h18 | h18
  · exact go 168 9 em_ch_15 (by omega) (by omega)
  rcases Nat.lt_or_ge ix 178 with h19 | h19
  · (have e : ix = 177 := by omega); subst e; exact em_cb_177
  rcases Nat.lt_or_ge ix 185 with h20 | h20
  · exact go 178 7 em_ch_16 (by omega) (by omega)
  rcases Nat.lt_or_ge ix 186 with h21 | h21
  · (have e : ix = 185 := by omega); subst e; exact em_cb_185
  rcases Nat.lt_or_ge ix 190 with h22 | h22
  · exact go 186 4 em_ch_17 (by omega) (by omega)
  rcases Nat.lt_or_ge ix 191 with h23 | h23
  · (have e : ix = 190 := by omega); subst e; exact em_cb_190
  rcases Nat.lt_or_ge ix 197 with h24 | h24
  · exact go 191 6 em_ch_18 (by omega) (by omega)
  rcases Nat.lt_or_ge ix 198 with h25 | h25
  · (have e : ix = 197 := by omega); subst e; exact em_cb_197
  rcases Nat.lt_or_ge ix 214 with h26 | h26
  · exact go 198 16 em_ch_19 (by omega) (by omega)
  rcases Nat.lt_or_ge ix 226 with h27 | h27
  · exact go 214 12 em_ch_20 (by omega) (by omega)
  rcases Nat.lt_or_ge ix 239 with h28 | h28
  · exact go 226 13 em_ch_21 (by omega) (by omega)
  rcases Nat.lt_or_ge ix 248 with h29 | h29
  · exact go 239 9 em_ch_22 (by omega) (by omega)
  rcases Nat.lt_or_ge ix 258 with h30 | h30
  · exact go 248 10 em_ch_23 (by omega) (by omega)
  rcases Nat.lt_or_ge ix 268 with h31 | h31
  · exact go 258 10 em_ch_24 (by omega) (by omega)
  rcases Nat.lt_or_ge ix 273 with h32 | h32
  · exact go 268 5 em_ch_25 (by omega) (by omega)
  rcases Nat.lt_or_ge ix 274 with h33 | h33
  · (have e : ix = 273 := by omega); subst e; exact em_cb_273
  rcases Nat.lt_or_ge ix 277 with h34 | h34
  · exact go 274 3 em_ch_26 (by omega) (by omega)
  rcases Nat.lt_or_ge ix 278 with h35 | h35
  · (have e : ix = 277 := by omega); subst e; exact em_cb_277
  rcases Nat.lt_or_ge ix 279 with h36 | h36
  · (have e : ix = 278 := by omega); subst e; exact em_cb_278
  exact go 279 2 em_ch_27 (by omega) (by omega)
theorem em_dec {ix pc nx : Nat} {i : Instr} (h : em_ins ix pc = some (i, nx)) : ∃ j len, decode (em_cd ix) pc = .ok (j, len) ∧ em_nrm (em_own ix) pc j = i ∧ nx = pc + len ∧ em_lok pc j len = true := by
  have h0 := h
  unfold em_ins at h0
  cases hb : (Nat.blt ix em_n && Nat.blt pc (em_sz ix)) with
  | false => rw [hb] at h0; cases h0
  | true =>
    rw [Bool.and_eq_true] at hb
    have h1 : ix < em_n := Nat.le_of_ble_eq_true hb.1
    have h2 : pc < em_sz ix := Nat.le_of_ble_eq_true hb.2
    have h3 := List.all_eq_true.mp (em_chs ix h1) pc (List.mem_range.mpr h2)
    unfold em_chk at h3
    rw [h] at h3
    dsimp only at h3
    cases hd : decode (em_cd ix) pc with
    | error e => rw [hd] at h3; cases h3
    | ok q =>
      obtain ⟨j, len⟩ := q
      rw [hd] at h3
      simp only [Bool.and_eq_true, decide_eq_true_eq] at h3
      exact ⟨j, len, rfl, h3.1.1, Nat.eq_of_beq_eq_true h3.1.2, h3.2⟩
def em_okw (w : Jvm.Cond) : Bool := match w with
  | .fieldLinkNest .. => true
  | .methodLinkNest .. => true
  | w => goodWord w
def em_wd (i : Nat) (w : Jvm.Cond) : Bool := decide (lw_tbl[i]? = some w) && em_okw w
def em_wds : List Nat → List Jvm.Cond → Bool
  | [], [] => true
  | i :: is, w :: ws => em_wd i w && em_wds is ws
  | _, _ => false
theorem em_wd_in {i : Nat} {w : Jvm.Cond} (h : em_wd i w = true) : w ∈ lw_tbl ∧ em_okw w = true := by
  unfold em_wd at h
  rw [Bool.and_eq_true, decide_eq_true_eq] at h
  exact ⟨List.mem_of_getElem? h.1, h.2⟩
theorem em_wds_in : ∀ {is : List Nat} {ws : List Jvm.Cond}, em_wds is ws = true → ∀ w ∈ ws, w ∈ lw_tbl ∧ em_okw w = true
  | [], [], _ => fun w h => by cases h
  | i :: is, w :: ws, h => by
    unfold em_wds at h
    rw [Bool.and_eq_true] at h
    intro u hu
    rcases List.mem_cons.mp hu with rfl | hu
    · exact em_wd_in h.1
    · exact em_wds_in h.2 u hu
  | [], _ :: _, h => by cases h
  | _ :: _, [], h => by cases h
def em_tyk (t : FieldType) (k : Nat) : Bool := match t with
  | .int => Nat.beq k 0
  | .boolean => Nat.beq k 1
  | .object _ => Nat.beq k 2
  | .array _ => Nat.beq k 2
  | _ => false
def em_fck (o i : Nat) : Bool := match em_fld o i with
  | none => true
  | some (ci, f, t, fin) => Nat.blt ci 13 && Nat.blt f (em_nf ci) && decide ((em_T ci f).2.2.2 = fin) && em_tyk (em_ft ci f) t && decide ((em_T ci f).1 = em_rn ci) &&
      cond (em_fpl (1000 * o + i)).2 (Bool.not (Nat.beq o ci) && em_wd (em_fpl (1000 * o + i)).1 (.fieldLinkNest (em_rn o) i (em_rn ci) (em_T ci f).2.1 (em_T ci f).2.2.1 "PartedSide")) (em_wd (em_fpl (1000 * o + i)).1 (.fieldLink (em_rn o) i (em_rn ci) (em_T ci f).2.1 (em_T ci f).2.2.1))
def em_cws (kd o i : Nat) (n : MethodName) (b : ByteArray) (mx : Nat) (rt : Option FieldType) : List Jvm.Cond := match kd with
  | 0 => [.methodLink (em_rn o) i n, .instanceMethod n, .initialized n.cls, .code n b mx rt, .selects n.cls n n]
  | 1 => [.methodLink (em_rn o) i n, .static n, .initialized n.cls, .code n b mx rt]
  | 2 => [.methodLink (em_rn o) i n, .instanceMethod n, .initialized n.cls, .code n b mx rt]
  | 3 => [.methodLinkNest (em_rn o) i n "PartedSide", .instanceMethod n, .initialized n.cls, .code n b mx rt, .selects n.cls n n]
  | 4 => [.methodLinkNest (em_rn o) i n "PartedSide", .static n, .initialized n.cls, .code n b mx rt]
  | 5 => [.methodLinkNest (em_rn o) i n "PartedSide", .instanceMethod n, .initialized n.cls, .code n b mx rt]
  | 6 => [.methodLink (em_rn o) i Lib.Math.max.name, .static Lib.Math.max.name, .initialized "java/lang/Math", .code Lib.Math.max.name Lib.Math.max.code 2 (some .int)]
  | 7 => [.methodLink (em_rn o) i Lib.Math.min.name, .static Lib.Math.min.name, .initialized "java/lang/Math", .code Lib.Math.min.name Lib.Math.min.code 2 (some .int)]
  | 8 => [.methodLink (em_rn o) i objectInit, .instanceMethod objectInit, .code objectInit ⟨#[0xb1]⟩ 1 none]
  | 9 => [.methodLink (em_rn o) i arraycopyName, .native arraycopyName, .static arraycopyName, .initialized "java/lang/System"]
  | _ => []
def em_mok (kd y : Nat) : Bool := Nat.blt y em_n && decide ((em_nm y).cls = em_rn (em_own y)) && decide ((em_nm y).cls ≠ "java/lang/invoke/MethodHandle") && decide ((em_nm y).cls ≠ "java/lang/invoke/VarHandle") && decide ((parseMethodDescriptor (em_nm y).desc).map (fun d => d.parameters.length) = some (em_na y)) && Jvm.plainName (em_nm y).cls && Nat.ble (em_mx y) 20 &&
  cond (Nat.beq kd 2 || Nat.beq kd 5) (decide ((em_nm y).name = "<init>") && decide (em_rt y = none)) (Nat.blt kd 6) && cond (em_isi y) (decide ((em_nm y).name = "<init>")) true && Bool.not (Nat.beq y em_law)
def em_mck (o i : Nat) : Bool := match em_mth o i with
  | none => true
  | some (kd, y) => em_wds (em_mpl (1000 * o + i)) (em_cws kd o i (em_nm y) (em_cd y) (em_mx y) (em_rt y)) && (Nat.ble 6 kd || em_mok kd y)
def em_clk (o i : Nat) : Bool := match em_cls o i with
  | none => true
  | some ci => Nat.blt ci 13 && em_wds (em_cpl (1000 * o + i)) [.classLink (em_rn o) i (em_rn ci), .instantiable (em_rn ci) (em_nf ci), .initialized (em_rn ci)]
def em_csk (o i : Nat) : Bool := (match em_cst o i with
  | none => true
  | some (v, p) => em_wd p (.constant (em_rn o) i (Int32.ofInt v))) && match em_csl o i with
  | none => true
  | some (v, p) => em_wd p (.constantLong (em_rn o) i v)
def em_all (f : Nat → Nat → Bool) : Bool := (List.range 20).all (fun o => (List.range 500).all (f o))
theorem em_all_at {f : Nat → Nat → Bool} (h : em_all f = true) {o i : Nat} (ho : o < 20) (hi : i < 500) : f o i = true :=
  List.all_eq_true.mp (List.all_eq_true.mp h o (List.mem_range.mpr ho)) i (List.mem_range.mpr hi)
theorem em_guard {α : Type} {o i : Nat} {a b : Option α} {x : α} (hb : b = none) (h : cond (Nat.blt o 20 && Nat.blt i 500) a b = some x) : o < 20 ∧ i < 500 := by
  subst hb
  cases hc : (Nat.blt o 20 && Nat.blt i 500) with
  | false => rw [hc] at h; cases h
  | true =>
    rw [Bool.and_eq_true] at hc
    exact ⟨Nat.le_of_ble_eq_true hc.1, Nat.le_of_ble_eq_true hc.2⟩
theorem em_fcs : em_all em_fck = true := by decide +kernel
theorem em_mcs : em_all em_mck = true := by decide +kernel
theorem em_ccs : em_all em_clk = true := by decide +kernel
theorem em_kcs : em_all em_csk = true := by decide +kernel
theorem em_fok {o i ci f t : Nat} {fin : Bool} (h : em_fld o i = some (ci, f, t, fin)) : ci < 13 ∧ f < em_nf ci ∧ (em_T ci f).2.2.2 = fin ∧ em_tyk (em_ft ci f) t = true ∧ (em_T ci f).1 = em_rn ci ∧
    ((o ≠ ci ∧ (Cond.fieldLinkNest (em_rn o) i (em_rn ci) (em_T ci f).2.1 (em_T ci f).2.2.1 "PartedSide") ∈ lw_tbl) ∨ (Cond.fieldLink (em_rn o) i (em_rn ci) (em_T ci f).2.1 (em_T ci f).2.2.1 ∈ lw_tbl ∧ em_okw (Cond.fieldLink (em_rn o) i (em_rn ci) (em_T ci f).2.1 (em_T ci f).2.2.1) = true)) := by
  obtain ⟨ho, hi⟩ := em_guard rfl h
  have h1 := em_all_at em_fcs ho hi
  unfold em_fck at h1
  rw [h] at h1
  dsimp only at h1
  simp only [Bool.and_eq_true, decide_eq_true_eq] at h1
  obtain ⟨⟨⟨⟨⟨h1, h2⟩, h3⟩, h4⟩, h5⟩, h6⟩ := h1
  refine ⟨Nat.le_of_ble_eq_true h1, Nat.le_of_ble_eq_true h2, h3, h4, h5, ?_⟩
  cases hc : (em_fpl (1000 * o + i)).2 with
  | true =>
    rw [hc] at h6
    rw [show cond true _ _ = _ from rfl, Bool.and_eq_true] at h6
    exact Or.inl ⟨fun q => by rw [q, Nat.beq_refl] at h6; exact Bool.noConfusion h6.1, (em_wd_in h6.2).1⟩
  | false => rw [hc] at h6; exact Or.inr (em_wd_in h6)
theorem em_mws {o i kd y : Nat} (h : em_mth o i = some (kd, y)) : (∀ w ∈ em_cws kd o i (em_nm y) (em_cd y) (em_mx y) (em_rt y), w ∈ lw_tbl ∧ em_okw w = true) ∧ (6 ≤ kd ∨ em_mok kd y = true) := by
  obtain ⟨ho, hi⟩ := em_guard rfl h
  have h1 := em_all_at em_mcs ho hi
  unfold em_mck at h1
  rw [h] at h1
  dsimp only at h1
  rw [Bool.and_eq_true, Bool.or_eq_true] at h1
  exact ⟨em_wds_in h1.1, h1.2.elim (fun q => Or.inl (Nat.le_of_ble_eq_true q)) Or.inr⟩
theorem em_clw {o i ci : Nat} (h : em_cls o i = some ci) : ci < 13 ∧ ∀ w ∈ ([.classLink (em_rn o) i (em_rn ci), .instantiable (em_rn ci) (em_nf ci), .initialized (em_rn ci)] : List Jvm.Cond), w ∈ lw_tbl ∧ em_okw w = true := by
  obtain ⟨ho, hi⟩ := em_guard rfl h
  have h1 := em_all_at em_ccs ho hi
  unfold em_clk at h1
  rw [h] at h1
  dsimp only at h1
  rw [Bool.and_eq_true] at h1
  exact ⟨Nat.le_of_ble_eq_true h1.1, em_wds_in h1.2⟩
theorem em_csw {o i p : Nat} {v : Int} (h : em_cst o i = some (v, p)) : Cond.constant (em_rn o) i (Int32.ofInt v) ∈ lw_tbl ∧ em_okw (Cond.constant (em_rn o) i (Int32.ofInt v)) = true := by
  obtain ⟨ho, hi⟩ := em_guard rfl h
  have h1 := em_all_at em_kcs ho hi
  unfold em_csk at h1
  rw [h] at h1
  dsimp only at h1
  rw [Bool.and_eq_true] at h1
  exact em_wd_in h1.1
theorem em_clg {o i p : Nat} {v : Int64} (h : em_csl o i = some (v, p)) : Cond.constantLong (em_rn o) i v ∈ lw_tbl ∧ em_okw (Cond.constantLong (em_rn o) i v) = true := by
  obtain ⟨ho, hi⟩ := em_guard rfl h
  have h1 := em_all_at em_kcs ho hi
  unfold em_csk at h1
  rw [h] at h1
  dsimp only at h1
  rw [Bool.and_eq_true] at h1
  exact em_wd_in h1.2
theorem em_vw : ∀ ci, ci < 13 → vwCl[ci]? = some (em_rn ci, em_T ci, em_nf ci) := by
  intro ci h
  match ci, h with
  | 0, _ => exact rfl
  | 1, _ => exact rfl
  | 2, _ => exact rfl
  | 3, _ => exact rfl
  | 4, _ => exact rfl
  | 5, _ => exact rfl
  | 6, _ => exact rfl
  | 7, _ => exact rfl
  | 8, _ => exact rfl
  | 9, _ => exact rfl
  | 10, _ => exact rfl
  | 11, _ => exact rfl
  | 12, _ => exact rfl
  | ci + 13, h => omega
theorem em_tyok : ∀ ci, ci < 13 → ∀ k, k < em_nf ci → parseFieldDescriptor (em_T ci k).2.2.1 = some (em_ft ci k) := by
  intro ci h
  match ci, h with
  | 0, _ => exact tyX0_ok
  | 1, _ => exact tyX1_ok
  | 2, _ => exact tyX2_ok
  | 3, _ => exact tyX3_ok
  | 4, _ => exact tyX4_ok
  | 5, _ => exact tyX5_ok
  | 6, _ => exact tyX6_ok
  | 7, _ => exact tyX7_ok
  | 8, _ => exact tyX8_ok
  | 9, _ => exact tyX9_ok
  | 10, _ => exact tyX10_ok
  | 11, _ => exact tyX11_ok
  | 12, _ => exact tyX12_ok
  | ci + 13, h => omega
theorem em_nmok : ∀ ci, ci < 13 → ∀ a, a < em_nf ci → ∀ b, b < em_nf ci → a ≠ b → (em_T ci a).2.1 ≠ (em_T ci b).2.1 := by
  intro ci h
  match ci, h with
  | 0, _ => exact nmX0
  | 1, _ => exact nmX1
  | 2, _ => exact nmX2
  | 3, _ => exact nmX3
  | 4, _ => exact nmX4
  | 5, _ => exact nmX5
  | 6, _ => exact nmX6
  | 7, _ => exact nmX7
  | 8, _ => exact nmX8
  | 9, _ => exact nmX9
  | 10, _ => exact nmX10
  | 11, _ => exact nmX11
  | 12, _ => exact nmX12
  | ci + 13, h => omega
theorem em_ucs : (List.range 13).all (fun ci => em_wds (em_upl ci) (u_ws (em_rn ci) (em_T ci) (em_nf ci))) = true := by decide +kernel
theorem em_uin {ci : Nat} (h : ci < 13) : ∀ w ∈ u_ws (em_rn ci) (em_T ci) (em_nf ci), w ∈ lw_tbl ∧ em_okw w = true := em_wds_in (List.all_eq_true.mp em_ucs ci (List.mem_range.mpr h))
