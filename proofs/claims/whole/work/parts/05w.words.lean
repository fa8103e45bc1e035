theorem em_chs (ix : Nat) (h : ix < em_n) : em_chm ix = true := by
  have hn : em_n = 293 := rfl
  rw [hn] at h
  have go : ∀ (a k : Nat), (List.range' a k).all em_chm = true → a ≤ ix → ix < a + k → em_chm ix = true := fun a k h1 h2 h3 => List.all_eq_true.mp h1 ix (by rw [List.mem_range'_1]; exact ⟨h2, h3⟩)
  rcases Nat.lt_or_ge ix 15 with h0 | h0
  · exact go 0 15 em_ch_0 (by omega) (by omega)
  rcases Nat.lt_or_ge ix 16 with h1 | h1
  · (have e : ix = 15 := by omega); subst e; exact em_cb_15
  rcases Nat.lt_or_ge ix 31 with h2 | h2
  · exact go 16 15 em_ch_1 (by omega) (by omega)
  rcases Nat.lt_or_ge ix 48 with h3 | h3
  · exact go 31 17 em_ch_2 (by omega) (by omega)
  rcases Nat.lt_or_ge ix 60 with h4 | h4
  · exact go 48 12 em_ch_3 (by omega) (by omega)
  rcases Nat.lt_or_ge ix 68 with h5 | h5
  · exact go 60 8 em_ch_4 (by omega) (by omega)
  rcases Nat.lt_or_ge ix 77 with h6 | h6
  · exact go 68 9 em_ch_5 (by omega) (by omega)
  rcases Nat.lt_or_ge ix 88 with h7 | h7
  · exact go 77 11 em_ch_6 (by omega) (by omega)
  rcases Nat.lt_or_ge ix 99 with h8 | h8
  · exact go 88 11 em_ch_7 (by omega) (by omega)
  rcases Nat.lt_or_ge ix 113 with h9 | h9
  · exact go 99 14 em_ch_8 (by omega) (by omega)
  rcases Nat.lt_or_ge ix 121 with h10 | h10
  · exact go 113 8 em_ch_9 (by omega) (by omega)
  rcases Nat.lt_or_ge ix 129 with h11 | h11
  · exact go 121 8 em_ch_10 (by omega) (by omega)
  rcases Nat.lt_or_ge ix 142 with h12 | h12
  · exact go 129 13 em_ch_11 (by omega) (by omega)
  rcases Nat.lt_or_ge ix 154 with h13 | h13
  · exact go 142 12 em_ch_12 (by omega) (by omega)
  rcases Nat.lt_or_ge ix 161 with h14 | h14
  · exact go 154 7 em_ch_13 (by omega) (by omega)
  rcases Nat.lt_or_ge ix 162 with h15 | h15
  · (have e : ix = 161 := by omega); subst e; exact em_cb_161
  rcases Nat.lt_or_ge ix 167 with h16 | h16
  · exact go 162 5 em_ch_14 (by omega) (by omega)
  rcases Nat.lt_or_ge ix 168 with h17 | h17
  · (have e : ix = 167 := by omega); subst e; exact em_cb_167
  rcases Nat.lt_or_ge ix 177 with h18 | h18
  · exact go 168 9 em_ch_15 (by omega) (by omega)
  rcases Nat.lt_or_ge ix 178 with h19 | h19
  · (have e : ix = 177 := by omega); subst e; exact em_cb_177
  rcases Nat.lt_or_ge ix 185 with h20 | h20
  · exact go 178 7 em_ch_16 (by omega) (by omega)
  rcases Nat.lt_or_ge ix 186 with h21 | h21
  · (have e : ix = 185 := by omega); subst e; exact em_cb_185
  rcases Nat.lt_or_ge ix 190 with h22 | h22
  · exact go 186 4 em_ch_17 (by omega) (by omega)
  rcases Nat.lt_or_ge ix 191 with h23 | h23
  · (have e : ix = 190 := by omega); subst e; exact em_cb_190
  rcases Nat.lt_or_ge ix 197 with h24 | h24
  · exact go 191 6 em_ch_18 (by omega) (by omega)
  rcases Nat.lt_or_ge ix 198 with h25 | h25
  · (have e : ix = 197 := by omega); subst e; exact em_cb_197
  rcases Nat.lt_or_ge ix 214 with h26 | h26
  · exact go 198 16 em_ch_19 (by omega) (by omega)
  rcases Nat.lt_or_ge ix 226 with h27 | h27
  · exact go 214 12 em_ch_20 (by omega) (by omega)
  rcases Nat.lt_or_ge ix 239 with h28 | h28
  · exact go 226 13 em_ch_21 (by omega) (by omega)
  rcases Nat.lt_or_ge ix 248 with h29 | h29
  · exact go 239 9 em_ch_22 (by omega) (by omega)
  rcases Nat.lt_or_ge ix 258 with h30 | h30
  · exact go 248 10 em_ch_23 (by omega) (by omega)
  rcases Nat.lt_or_ge ix 268 with h31 | h31
  · exact go 258 10 em_ch_24 (by omega) (by omega)
  rcases Nat.lt_or_ge ix 273 with h32 | h32
  · exact go 268 5 em_ch_25 (by omega) (by omega)
  rcases Nat.lt_or_ge ix 274 with h33 | h33
  · (have e : ix = 273 := by omega); subst e; exact em_cb_273
  rcases Nat.lt_or_ge ix 277 with h34 | h34
  · exact go 274 3 em_ch_26 (by omega) (by omega)
  rcases Nat.lt_or_ge ix 278 with h35 | h35
  · (have e : ix = 277 := by omega); subst e; exact em_cb_277
  rcases Nat.lt_or_ge ix 279 with h36 | h36
  · (have e : ix = 278 := by omega); subst e; exact em_cb_278
  exact go 279 14 em_ch_27 (by omega) (by omega)
theorem em_dec {ix pc nx : Nat} {i : Instr} (h : em_ins ix pc = some (i, nx)) : ∃ j len, decode (em_cd ix) pc = .ok (j, len) ∧ em_nrm (em_own ix) pc j = i ∧ nx = pc + len ∧ em_lok pc j len = true := by
  have h0 := h
  unfold em_ins at h0
  cases hb : (Nat.blt ix em_n && Nat.blt pc (em_sz ix)) with
  | false => rw [hb] at h0; cases h0
  | true =>
    rw [Bool.and_eq_true] at hb
    have h1 : ix < em_n := Nat.le_of_ble_eq_true hb.1
    have h2 : pc < em_sz ix := Nat.le_of_ble_eq_true hb.2
    have h3 := List.all_eq_true.mp (em_chs ix h1) pc (List.mem_range.mpr h2)
    unfold em_chk at h3
    rw [h] at h3
    dsimp only at h3
    cases hd : decode (em_cd ix) pc with
    | error e => rw [hd] at h3; cases h3
    | ok q =>
      obtain ⟨j, len⟩ := q
      rw [hd] at h3
      simp only [Bool.and_eq_true, decide_eq_true_eq] at h3
      exact ⟨j, len, rfl, h3.1.1, Nat.eq_of_beq_eq_true h3.1.2, h3.2⟩
def em_okw (w : Jvm.Cond) : Bool := match w with
  | .fieldLinkNest .. => true
  | .methodLinkNest .. => true
  | w => goodWord w
def em_wd (i : Nat) (w : Jvm.Cond) : Bool := decide (lw_tbl[i]? = some w) && em_okw w
def em_wds : List Nat → List Jvm.Cond → Bool
  | [], [] => true
  | i :: is, w :: ws => em_wd i w && em_wds is ws
  | _, _ => false
theorem em_wd_in {i : Nat} {w : Jvm.Cond} (h : em_wd i w = true) : w ∈ lw_tbl ∧ em_okw w = true := by
  unfold em_wd at h
  rw [Bool.and_eq_true, decide_eq_true_eq] at h
  exact ⟨List.mem_of_getElem? h.1, h.2⟩
theorem em_wds_in : ∀ {is : List Nat} {ws : List Jvm.Cond}, em_wds is ws = true → ∀ w ∈ ws, w ∈ lw_tbl ∧ em_okw w = true
  | [], [], _ => fun w h => by cases h
  | i :: is, w :: ws, h => by
    unfold em_wds at h
    rw [Bool.and_eq_true] at h
    intro u hu
    rcases List.mem_cons.mp hu with rfl | hu
    · exact em_wd_in h.1
    · exact em_wds_in h.2 u hu
  | [], _ :: _, h => by cases h
  | _ :: _, [], h => by cases h
def em_tyk (t : FieldType) (k : Nat) : Bool := match t with
  | .int => Nat.beq k 0
  | .boolean => Nat.beq k 1
  | .object _ => Nat.beq k 2
  | .array _ => Nat.beq k 2
  | _ => false
def em_fck (o i : Nat) : Bool := match em_fld o i with
  | none => true
  | some (ci, f, t, fin) => Nat.blt ci 13 && Nat.blt f (em_nf ci) && decide ((em_T ci f).2.2.2 = fin) && em_tyk (em_ft ci f) t && decide ((em_T ci f).1 = em_rn ci) &&
      cond (em_fpl (2000 * o + i)).2 (Bool.not (Nat.beq o ci) && em_wd (em_fpl (2000 * o + i)).1 (.fieldLinkNest (em_rn o) i (em_rn ci) (em_T ci f).2.1 (em_T ci f).2.2.1 "PartedSide")) (em_wd (em_fpl (2000 * o + i)).1 (.fieldLink (em_rn o) i (em_rn ci) (em_T ci f).2.1 (em_T ci f).2.2.1))
def em_yws (y : Nat) : List Jvm.Cond := match em_yk y with
  | 0 => [.initialized (em_nm y).cls, .instanceMethod (em_nm y), .selects (em_nm y).cls (em_nm y) (em_nm y)]
  | 1 => [.initialized (em_nm y).cls, .static (em_nm y)]
  | _ => [.initialized (em_nm y).cls, .instanceMethod (em_nm y)]
def em_yok (y : Nat) : Bool := Nat.beq y em_law || (em_wds (em_ypl y) (em_yws y) && decide ((em_nm y).cls = em_rn (em_own y)) && decide ((em_nm y).cls ≠ "java/lang/invoke/MethodHandle") && decide ((em_nm y).cls ≠ "java/lang/invoke/VarHandle") && decide ((parseMethodDescriptor (em_nm y).desc).map (fun d => d.parameters.length) = some (em_na y)) && Jvm.plainName (em_nm y).cls && Nat.ble (em_mx y) 20 && Nat.ble (em_yk y) 2 &&
  cond (Nat.beq (em_yk y) 2) (decide ((em_nm y).name = "<init>") && decide (em_rt y = none)) true && cond (em_isi y) (decide ((em_nm y).name = "<init>")) true)
def em_cws (kd o i : Nat) : List Jvm.Cond := match kd with
  | 6 => [.methodLink (em_rn o) i Lib.Math.max.name, .static Lib.Math.max.name, .initialized "java/lang/Math", .code Lib.Math.max.name Lib.Math.max.code 2 (some .int)]
  | 7 => [.methodLink (em_rn o) i Lib.Math.min.name, .static Lib.Math.min.name, .initialized "java/lang/Math", .code Lib.Math.min.name Lib.Math.min.code 2 (some .int)]
  | 8 => [.methodLink (em_rn o) i objectInit, .instanceMethod objectInit, .code objectInit ⟨#[0xb1]⟩ 1 none]
  | 9 => [.methodLink (em_rn o) i arraycopyName, .native arraycopyName, .static arraycopyName, .initialized "java/lang/System"]
  | _ => []
def em_mck (o i : Nat) : Bool := match em_mth o i with
  | none => true
  | some (kd, y) => cond (Nat.ble 6 kd) (em_wds (em_mpl (2000 * o + i)) (em_cws kd o i)) (Nat.blt y em_n && Bool.not (Nat.beq y em_law) && cond (Nat.blt kd 3) (em_wd ((em_mpl (2000 * o + i)).headD 0) (.methodLink (em_rn o) i (em_nm y)) && Nat.beq (em_yk y) kd) (em_wd ((em_mpl (2000 * o + i)).headD 0) (.methodLinkNest (em_rn o) i (em_nm y) "PartedSide") && Nat.beq (em_yk y + 3) kd))
def em_clk (o i : Nat) : Bool := match em_cls o i with
  | none => true
  | some ci => Nat.blt ci 13 && em_wds (em_cpl (2000 * o + i)) [.classLink (em_rn o) i (em_rn ci), .instantiable (em_rn ci) (em_nf ci), .initialized (em_rn ci)]
def em_csk (o i : Nat) : Bool := (match em_cst o i with
  | none => true
  | some (v, p) => em_wd p (.constant (em_rn o) i (Int32.ofInt v))) && match em_csl o i with
  | none => true
  | some (v, p) => em_wd p (.constantLong (em_rn o) i v)
def em_sw (o i k : Nat) : Jvm.Cond := match k with
  | 0 => .fieldLink (em_rn o) i "java/lang/String" "value" "[B"
  | 1 => .fieldLink (em_rn o) i "java/lang/String" "coder" "B"
  | 2 => .fieldLink (em_rn o) i "java/lang/String" "COMPACT_STRINGS" "Z"
  | _ => .fieldLink (em_rn o) i "jdk/internal/util/Preconditions" "SIOOBE_FORMATTER" "Ljava/util/function/BiFunction;"
def em_sck (o i : Nat) : Bool := (match em_sfl o i with
  | none => true
  | some (k, p) => em_wd p (em_sw o i k)) && match em_str o i with
  | none => true
  | some k => Nat.blt k 2 && decide (em_so k = em_rn o) && Nat.beq (em_si k) i
def em_all (f : Nat → Nat → Bool) : Bool := (List.range 20).all (fun o => (List.range 1100).all (f o))
theorem em_all_at {f : Nat → Nat → Bool} (h : em_all f = true) {o i : Nat} (ho : o < 20) (hi : i < 1100) : f o i = true :=
  List.all_eq_true.mp (List.all_eq_true.mp h o (List.mem_range.mpr ho)) i (List.mem_range.mpr hi)
theorem em_guard {α : Type} {o i : Nat} {a b : Option α} {x : α} (hb : b = none) (h : cond (Nat.blt o 20 && Nat.blt i 1100) a b = some x) : o < 20 ∧ i < 1100 := by
  subst hb
  cases hc : (Nat.blt o 20 && Nat.blt i 1100) with
  | false => rw [hc] at h; cases h
  | true =>
    rw [Bool.and_eq_true] at hc
    exact ⟨Nat.le_of_ble_eq_true hc.1, Nat.le_of_ble_eq_true hc.2⟩
