/-! the instructions that read and write memory -/
theorem em_dflt : (List.range 13).all (fun ci => (List.range (em_nf ci)).all (fun f => decide (defaultValue (em_ft ci f) = if em_tk (em_ft ci f) = 2 then .null else .int 0))) = true := by decide +kernel
theorem em_arw : ∀ t, em_ak t ≠ 0 → Cond.arrayClass (newarray.typeOf t) ∈ lw_tbl ∧ em_okw (Cond.arrayClass (newarray.typeOf t)) = true := by
  intro t ht
  cases t with
  | int => exact em_wd_in (i := 214) (by decide +kernel)
  | byte => exact em_wd_in (i := 213) (by decide +kernel)
  | boolean => exact em_wd_in (i := 434) (by decide +kernel)
  | long => exact em_wd_in (i := 215) (by decide +kernel)
  | _ => exact absurd rfl ht
theorem em_cv_int (ad : em_A) (x : Int32) : em_cv ad (.int x) = .int x := rfl
theorem em_cv_long (ad : em_A) (x : Int64) : em_cv ad (.long x) = .long x := rfl
theorem em_cv_ref (ad : em_A) (x : Nat) : em_cv ad (.ref x) = .ref (ad.1 x) := rfl
theorem em_cv_rf (ad : em_A) (o : Option Nat) : em_cv ad (va_rf o) = va_rf (o.map ad.1) := by cases o <;> rfl
theorem em_fv_tk {T : FieldType} {t : Nat} (h : em_tyk T t = true) (M : em_M) (a f : Nat) : em_fv M a (em_tk T) f = em_fv M a t f := by
  cases T <;> first | exact Bool.noConfusion h | (have e := Nat.eq_of_beq_eq_true h; subst e; rfl)
theorem em_fs_at {ad : em_A} {M : em_M} {a ci f t : Nat} (hf : f < em_nf ci) (ht : em_tyk (em_ft ci f) t = true) : (em_fs ad M a ci)[f]? = some (em_cv ad (em_fv M a t f)) := by
  unfold em_fs
  rw [List.getElem?_map, List.getElem?_range hf]
  show some (em_cv ad (em_fv M a (em_tk (em_ft ci f)) f)) = _
  rw [em_fv_tk ht]
theorem em_fs_len {ad : em_A} {M : em_M} {a ci : Nat} : (em_fs ad M a ci).length = em_nf ci := by unfold em_fs; rw [List.length_map, List.length_range]
theorem em_in_ok {i : Int32} {n : Nat} (h : em_in i n = true) : vp_in i n := by
  unfold em_in at h
  intro q
  rcases q with q | q
  · rw [decide_eq_true q] at h; cases h
  · rw [decide_eq_true q, Bool.or_true] at h; cases h
theorem em_sl_of {M M' : em_M} (h : M'.1 = M.1) : em_sl M' = em_sl M := by unfold em_sl; rw [h]
theorem em_rsum {ad : em_A} : ∀ (r : List Value), (((r.map (em_cv ad)).map fun v => v.category).sum) ≤ 2 * r.length
  | [] => Nat.le_refl _
  | v :: r => by
    have ih := em_rsum (ad := ad) r
    have hv : (em_cv ad v).category ≤ 2 := by rw [em_cv_cat]; cases v <;> exact Nat.le_of_ble_eq_true rfl
    simp only [List.map_cons, List.sum_cons, List.length_cons]
    omega
/-- one row of the memory has changed -/
def em_one (M M' : em_M) (a : Nat) : Prop := M'.1 = M.1 ∧ (∀ b, b ≠ a → ∀ j, M'.2.1 b j = M.2.1 b j) ∧ (∀ b, b ≠ a → ∀ j, M'.2.2.1 b j = M.2.2.1 b j) ∧ ∀ b, b ≠ a → ∀ j, M'.2.2.2 b j = M.2.2.2 b j
theorem em_one_I (M : em_M) (a i : Nat) (x : Int32) : em_one M (em_putI M a i x) a := ⟨rfl, fun b hb j => if_neg (fun q => hb q.1), fun _ _ _ => rfl, fun _ _ _ => rfl⟩
theorem em_one_J (M : em_M) (a i : Nat) (x : Int64) : em_one M (em_putJ M a i x) a := ⟨rfl, fun _ _ _ => rfl, fun b hb j => if_neg (fun q => hb q.1), fun _ _ _ => rfl⟩
theorem em_one_R (M : em_M) (a i : Nat) (x : Option Nat) : em_one M (em_putR M a i x) a := ⟨rfl, fun _ _ _ => rfl, fun _ _ _ => rfl, fun b hb j => if_neg (fun q => hb q.1)⟩
theorem em_one_C (M : em_M) (a0 a sp dp n : Nat) : em_one M (em_cpy M a0 a sp dp n) a := ⟨rfl, fun b hb j => if_neg hb, fun _ _ _ => rfl, fun _ _ _ => rfl⟩
theorem em_put_one {M M' : em_M} {a t f : Nat} {v : Value} (h : em_put M a t f v = some M') : em_one M M' a := by
  unfold em_put at h
  split at h
  · split at h
    · cases h; exact em_one_I ..
    · cases h
  · split at h
    · cases h; exact em_one_R ..
    · cases h
  · cases h
theorem em_put_fit {ad : em_A} {M M' : em_M} {a t f : Nat} {v : Value} {T : FieldType} (h : em_put M a t f v = some M') (ht : em_tyk T t = true) : narrow T (em_cv ad v) = em_cv ad v ∧ fits T (em_cv ad v) = true := by
  unfold em_put at h
  split at h
  · rename_i x
    split at h
    · rename_i hc
      cases T <;> first | exact Bool.noConfusion ht | (have e := Nat.eq_of_beq_eq_true ht; subst e; first | exact ⟨rfl, rfl⟩ | exact hc.elim (fun q => absurd q (by decide)) (fun q => absurd q.1 (by decide)) | exact hc.elim (fun q => absurd q (by decide)) (fun q => q.2.elim (fun z => by subst z; exact ⟨rfl, rfl⟩) (fun z => by subst z; exact ⟨rfl, rfl⟩)))
    · cases h
  · split at h
    · rename_i hc
      cases T <;> first | exact Bool.noConfusion ht | (have e := Nat.eq_of_beq_eq_true ht; subst e; first | exact ⟨rfl, rfl⟩ | exact absurd hc (by decide))
    · cases h
  · cases h
theorem em_fs_put {ad : em_A} {M M' : em_M} {a ci t f : Nat} {v : Value} (h : em_put M a t f v = some M') (ht : em_tyk (em_ft ci f) t = true) (hf : f < em_nf ci) : (em_fs ad M a ci).set f (em_cv ad v) = em_fs ad M' a ci := by
  apply List.ext_getElem?
  intro j
  by_cases hj : f = j
  · subst hj
    rw [List.getElem?_set_self (by rw [em_fs_len]; exact hf), em_fs_at hf ht]
    unfold em_put at h
    split at h
    · split at h
      · rename_i x hc
        cases h
        have h2 : ¬ t = 2 := by omega
        simp [em_fv, em_putI, h2]
      · cases h
    · split at h
      · rename_i b hc
        cases h
        simp [em_fv, em_putR, hc, va_rf]
      · cases h
    · cases h
  · rw [List.getElem?_set_ne hj]
    unfold em_fs
    rw [List.getElem?_map, List.getElem?_map]
    by_cases hl : j < em_nf ci
    · rw [List.getElem?_range hl]
      show some (em_cv ad (em_fv M a (em_tk (em_ft ci j)) j)) = some (em_cv ad (em_fv M' a (em_tk (em_ft ci j)) j))
      have e : em_fv M' a (em_tk (em_ft ci j)) j = em_fv M a (em_tk (em_ft ci j)) j := by
        unfold em_put at h
        split at h
        · split at h
          · cases h
            simp [em_fv, em_putI, Ne.symm hj]
          · cases h
        · split at h
          · cases h
            simp [em_fv, em_putR, Ne.symm hj]
          · cases h
        · cases h
      rw [e]
    · rw [List.getElem?_eq_none (by rw [List.length_range]; omega)]
      rfl
section EMK2
variable {p : Program} {l : Launch} {e : Env} {R : Room} {s : State} {m : MethodId} {args : Array Value} {below : List Frame} {meth : Method} {c : Code} {Q : State → Prop}
variable {D : va_G} {dA : Nat → ClassId} {ad : em_A} {base L : Nat} {xs : Nat → Int32} {c0 s0 ix pc : Nat} {lc lc' : em_L} {st st' : List Value} {M M' : em_M} {pc' : Nat} {H : Heap}
theorem em_Cx.had (C : em_Cx D dA ad base L xs c0 p s m meth c ix) : ∀ j, ad.1 (j + 1) = base + j := C.2.2.2.2.2.2.2.2.1
theorem em_Cx.own (C : em_Cx D dA ad base L xs c0 p s m meth c ix) : s.vm.findClass (em_rn (em_own ix)) = some m.cls := C.2.2.2.1
theorem em_Cx.tb (C : em_Cx D dA ad base L xs c0 p s m meth c ix) : em_Tb s := C.2.2.2.2.1
theorem em_Cx.kn (C : em_Cx D dA ad base L xs c0 p s m meth c ix) : va_K D vwCl (em_tys dA) s := C.2.2.2.2.2.1
theorem em_Cx.ao (C : em_Cx D dA ad base L xs c0 p s m meth c ix) : va_AO RX3 s := C.2.2.2.2.2.2.1
theorem em_Cx.ini (C : em_Cx D dA ad base L xs c0 p s m meth c ix) : em_isi ix = true → meth.name = "<init>" := C.2.2.2.2.2.2.2.1
theorem em_Cx.hsz (C : em_Cx D dA ad base L xs c0 p s m meth c ix) : s.heap.size + 1 = base + c0 ∧ 1 ≤ c0 := C.2.2.2.2.2.2.2.2.2.1
theorem em_Cx.str (C : em_Cx D dA ad base L xs c0 p s m meth c ix) : em_St ad.2 (fun q => base ≤ q) s s.heap := C.2.2.2.2.2.2.2.2.2.2.1
theorem em_Cx.scr (C : em_Cx D dA ad base L xs c0 p s m meth c ix) : ix = em_law → va_X (ad.1 0) L xs s s.heap ∧ ad.1 0 < s.heap.size ∧ ad.1 0 < base := C.2.2.2.2.2.2.2.2.2.2.2
theorem em_Cx.uts (C : em_Cx D dA ad base L xs c0 p s m meth c ix) {ci : Nat} (h : ci < 13) : ∀ w ∈ u_ws (em_rn ci) (em_T ci) (em_nf ci), w.before args s = true := fun w hw => C.tb w (em_uin h w hw).1 (em_uin h w hw).2 args
theorem em_a1 (hW : em_Wd D dA ad base M H) {a kd n : Nat} (h : M.1[a]? = some (kd, n)) (hk : ¬ kd = 30) : ∃ j, a = j + 1 := by
  cases a with
  | zero => rw [hW.2.1] at h; cases h; exact absurd rfl hk
  | succ j => exact ⟨j, rfl⟩
theorem em_a0 (hW : em_Wd D dA ad base M H) {a n : Nat} (h : M.1[a]? = some (30, n)) : a = 0 := by
  cases a with
  | zero => rfl
  | succ j => exact absurd (show 30 < 25 from hW.2.2 j _ h) (by decide)
/-- the world behind a change of one row -/
theorem em_Wd.one (hW : em_Wd D dA ad base M H) {j : Nat} {sh : Nat × Nat} (hsh : M.1[j + 1]? = some sh) (ho : em_one M M' (j + 1)) {H1 : Heap} (hP : va_P D vwCl ((em_ws ad dA base M).set j (base + j, em_ent ad dA M' (j + 1) sh)) H1) : em_Wd D dA ad base M' H1 := by
  refine ⟨by rw [← em_set ho.1 hsh ho.2.1 ho.2.2.1 ho.2.2.2]; exact hP, by rw [ho.1]; exact hW.2.1, fun i sh' h' => hW.2.2 i sh' (by rw [← ho.1]; exact h')⟩
theorem em_same {g : JFrame} {locs : List Loc} (h : M'.1 = M.1) (k : W p l e R s m args below meth c H locs (M'.1.length - c0) (em_sl M' - s0) Q g) : W p l e R s m args below meth c H locs (M.1.length - c0) (em_sl M - s0) Q g := by
  rw [em_sl_of h, h] at k
  exact k
theorem em_k_getfield {i : Nat} (C : em_Cx D dA ad base L xs c0 p s m meth c ix) (hd : decode (em_cd ix) pc = .ok (.getfield i, 3)) (h : em_do (L, xs) ix (.getfield i) (pc + 3) lc st M = some (.inl (pc', lc', st', M'))) (kk : em_K p l e R s m args below meth c Q D dA ad base L xs c0 s0 M' pc' lc' st') : em_K p l e R s m args below meth c Q D dA ad base L xs c0 s0 M pc lc st := by
  intro ls H locs hL hW hS
  unfold em_do at h
  dsimp only at h
  split at h
  · rename_i a r
    split at h
    · rename_i ci f t fin kd n hf hsh
      split at h
      · rename_i hk
        cases h
        subst hk
        obtain ⟨hci, hfl, -, hty, hT1, hlink⟩ := em_fok hf
        obtain ⟨j, rfl⟩ := em_a1 hW hsh (by omega)
        have he := em_ws_at (ad := ad) (dA := dA) (base := base) hsh
        rw [show em_ent ad dA M (j + 1) (kd, n) = .inr (kd, em_fs ad M (j + 1) kd) from if_pos hci] at he
        have hv : (em_fs ad M (j + 1) kd)[f]? = some (em_cv ad (em_fv M (j + 1) t f)) := em_fs_at hfl hty
        have hs : ∀ x, s.fieldFound? (em_T kd f).1 (em_T kd f).2.1 (em_T kd f).2.2.1 = some x → s.fieldFound? (em_rn kd) (em_T kd f).2.1 (em_T kd f).2.2.1 = some x := fun x hx => by rw [hT1] at hx; exact hx
        rw [List.map_cons, em_cv_ref, C.had j]
        rcases hlink with ⟨-, hlink⟩ | ⟨hlink, hok⟩
        · exact va_getN C.1 C.2.1 (C.uts hci) (fun w hw => hw) C.own C.kn hW.1 j he (em_vw kd hci) f hfl (C.tb _ hlink rfl args) hs hv hd (kk ls H locs hL hW hS)
        · exact va_get C.1 C.2.1 (C.uts hci) (fun w hw => hw) C.own C.kn hW.1 j he (em_vw kd hci) f hfl (C.tb _ hlink hok args) hs hv hd (kk ls H locs hL hW hS)
      · cases h
    · cases h
  · rename_i j r
    obtain ⟨adK, adV, q1, q2, -, -⟩ := C.str
    split at h
    · rename_i w hw
      split at h
      · rename_i hj
        cases h
        have g := kk ls H locs hL hW hS
        have e1 : em_cv ad (.retAddr (j + 2)) = .ref (adV j) := by show va_rf (ad.2 (j + 2)) = _; rw [(q2 j hj).2.1]; rfl
        have e2 : em_cv ad (.retAddr j) = .ref (adK j) := by show va_rf (ad.2 j) = _; rw [(q2 j hj).1]; rfl
        rw [List.map_cons, e1] at g
        rw [List.map_cons, e2]
        exact vk_getf C.1 C.2.1 (q1.1 j hj).2.2.1 hS C.own (C.tb _ (em_sfw hw).1 (em_sfw hw).2 args) (fun _ hx => hx) hd g
      · cases h
    · rename_i w hw
      split at h
      · rename_i hj
        cases h
        have g := kk ls H locs hL hW hS
        have e2 : em_cv ad (.retAddr j) = .ref (adK j) := by show va_rf (ad.2 j) = _; rw [(q2 j hj).1]; rfl
        rw [List.map_cons, em_cv_int] at g
        rw [List.map_cons, e2]
        exact vk_getf C.1 C.2.1 (q1.1 j hj).2.1 hS C.own (C.tb _ (em_sfw hw).1 (em_sfw hw).2 args) (fun _ hx => hx) hd g
      · cases h
    · cases h
  · cases h
theorem em_k_getstatic {i : Nat} (C : em_Cx D dA ad base L xs c0 p s m meth c ix) (hd : decode (em_cd ix) pc = .ok (.getstatic i, 3)) (h : em_do (L, xs) ix (.getstatic i) (pc + 3) lc st M = some (.inl (pc', lc', st', M'))) (kk : em_K p l e R s m args below meth c Q D dA ad base L xs c0 s0 M' pc' lc' st') : em_K p l e R s m args below meth c Q D dA ad base L xs c0 s0 M pc lc st := by
  intro ls H locs hL hW hS
  unfold em_do at h
  dsimp only at h
  obtain ⟨adK, adV, q1, q2, q3, q4⟩ := C.str
  split at h
  · rename_i w hw
    cases h
    exact va_gets C.1 C.2.1 q3 hS C.own (C.tb _ (em_sfw hw).1 (em_sfw hw).2 args) (fun _ hx => hx) hd (kk ls H locs hL hW hS)
  · rename_i w hw
    cases h
    exact va_gets C.1 C.2.1 q4 hS C.own (C.tb _ (em_sfw hw).1 (em_sfw hw).2 args) (fun _ hx => hx) hd (kk ls H locs hL hW hS)
  · cases h
theorem em_k_ldcS {i : Nat} (C : em_Cx D dA ad base L xs c0 p s m meth c ix) (hd : decode (em_cd ix) pc = .ok (.ldc i, 2)) (h : em_do (L, xs) ix (.ldc i) (pc + 2) lc st M = some (.inl (pc', lc', st', M'))) (kk : em_K p l e R s m args below meth c Q D dA ad base L xs c0 s0 M' pc' lc' st') : em_K p l e R s m args below meth c Q D dA ad base L xs c0 s0 M pc lc st := by
  intro ls H locs hL hW hS
  unfold em_do at h
  dsimp only at h
  obtain ⟨adK, adV, q1, q2, q3, q4⟩ := C.str
  split at h
  · rename_i j hj
    cases h
    obtain ⟨g1, g2, g3⟩ := em_stw hj
    have g := kk ls H locs hL hW hS
    have e2 : em_cv ad (.retAddr j) = .ref (adK j) := by show va_rf (ad.2 j) = _; rw [(q2 j g1).1]; rfl
    rw [List.map_cons, e2] at g
    have hR := (q2 j g1).2.2
    rw [g2, g3] at hR
    exact va_ldcS C.1 C.2.1 C.own hR hd g
  · cases h
theorem em_k_putfield {i : Nat} (C : em_Cx D dA ad base L xs c0 p s m meth c ix) (hd : decode (em_cd ix) pc = .ok (.putfield i, 3)) (h : em_do (L, xs) ix (.putfield i) (pc + 3) lc st M = some (.inl (pc', lc', st', M'))) (kk : em_K p l e R s m args below meth c Q D dA ad base L xs c0 s0 M' pc' lc' st') : em_K p l e R s m args below meth c Q D dA ad base L xs c0 s0 M pc lc st := by
  intro ls H locs hL hW hS
  unfold em_do at h
  dsimp only at h
  split at h
  · rename_i v a r
    split at h
    · rename_i ci f t fin kd n hf hsh
      split at h
      · rename_i hk
        obtain ⟨hk, hini⟩ := hk
        split at h
        · rename_i M1 hp
          cases h
          subst hk
          obtain ⟨hci, hfl, hfin, hty, hT1, hlink⟩ := em_fok hf
          obtain ⟨j, rfl⟩ := em_a1 hW hsh (by omega)
          have ho := em_put_one hp
          obtain ⟨hn, hft⟩ := em_put_fit (ad := ad) hp hty
          have he := em_ws_at (ad := ad) (dA := dA) (base := base) hsh
          rw [show em_ent ad dA M (j + 1) (kd, n) = .inr (kd, em_fs ad M (j + 1) kd) from if_pos hci] at he
          have hs : ∀ x, s.fieldFound? (em_T kd f).1 (em_T kd f).2.1 (em_T kd f).2.2.1 = some x → s.fieldFound? (em_rn kd) (em_T kd f).2.1 (em_T kd f).2.2.1 = some x := fun x hx => by rw [hT1] at hx; exact hx
          have go : ∀ (H1 : Heap) (locs1 : List Loc), va_P D vwCl ((em_ws ad dA base M).set j (base + j, .inr (kd, (em_fs ad M (j + 1) kd).set f (em_cv ad v)))) H1 → va_D (fun q => base ≤ q) ((em_ws ad dA base M).set j (base + j, .inr (kd, (em_fs ad M (j + 1) kd).set f (em_cv ad v)))) → va_S (fun q => base ≤ q) s.heap H1 locs1 → W p l e R s m args below meth c H1 locs1 (M.1.length - c0) (em_sl M - s0) Q (F0 m (pc + 3) ls (st'.map (em_cv ad))) := by
            intro H1 locs1 hP1 _ hS1
            rw [em_fs_put hp hty hfl, show (Sum.inr (kd, em_fs ad M' (j + 1) kd) : va_E) = em_ent ad dA M' (j + 1) (kd, n) from (if_pos hci).symm] at hP1
            exact em_same ho.1 (kk ls H1 locs1 hL (hW.one hsh ho hP1) hS1)
          rw [List.map_cons, List.map_cons, em_cv_ref, C.had j]
          cases fin with
          | false =>
            rcases hlink with ⟨-, hlink⟩ | ⟨hlink, hok⟩
            · exact va_putN C.1 C.2.1 (C.uts hci) (fun w hw => hw) (em_ft kd) (em_tyok kd hci) (em_nmok kd hci) C.own C.kn hW.1 em_D hS j he (em_vw kd hci) f hfl (C.tb _ hlink rfl args) hs hfin (em_tyok kd hci f hfl) hn hft (by rw [em_fs_len]; exact hfl) hd go
            · exact va_put C.1 C.2.1 (C.uts hci) (fun w hw => hw) (em_ft kd) (em_tyok kd hci) (em_nmok kd hci) C.own C.kn hW.1 em_D hS j he (em_vw kd hci) f hfl (C.tb _ hlink hok args) hs hfin (em_tyok kd hci f hfl) hn hft (by rw [em_fs_len]; exact hfl) hd go
          | true =>
            obtain ⟨h1, h2⟩ := hini rfl
            rcases hlink with ⟨hne, -⟩ | ⟨hlink, hok⟩
            · exact absurd h2 hne
            · exact va_putF C.1 C.2.1 (C.uts hci) (fun w hw => hw) (em_ft kd) (em_tyok kd hci) (em_nmok kd hci) C.own C.kn hW.1 em_D hS j he (em_vw kd hci) f hfl (C.tb _ hlink hok args) hs hfin (C.ini h1) (by rw [hT1, h2]) (em_tyok kd hci f hfl) hn hft (by rw [em_fs_len]; exact hfl) hd go
        · cases h
      · cases h
    · cases h
  · cases h
theorem em_k_iaload (C : em_Cx D dA ad base L xs c0 p s m meth c ix) (hd : decode (em_cd ix) pc = .ok (.iaload, 1)) (h : em_do (L, xs) ix (.iaload) (pc + 1) lc st M = some (.inl (pc', lc', st', M'))) (kk : em_K p l e R s m args below meth c Q D dA ad base L xs c0 s0 M' pc' lc' st') : em_K p l e R s m args below meth c Q D dA ad base L xs c0 s0 M pc lc st := by
  intro ls H locs hL hW hS
  unfold em_do at h
  dsimp only at h
  split at h
  · rename_i i a r
    split at h
    · rename_i kd n hsh
      split at h
      · rename_i hk
        obtain ⟨rfl, hi⟩ := hk
        cases h
        obtain ⟨j, rfl⟩ := em_a1 hW hsh (by decide)
        have he := em_ws_at (ad := ad) (dA := dA) (base := base) hsh
        rw [List.map_cons, List.map_cons, em_cv_ref, em_cv_int, C.had j]
        exact va_iald C.1 C.2.1 C.kn hW.1 j 0 he rfl (em_in_ok hi) hd (kk ls H locs hL hW hS)
      · split at h
        · rename_i hk
          obtain ⟨⟨rfl, hix⟩, hi⟩ := hk
          cases h
          have e0 := em_a0 hW hsh
          subst e0
          obtain ⟨hX, hb1, hb2⟩ := C.scr hix
          rw [List.map_cons, List.map_cons, em_cv_ref, em_cv_int]
          exact va_sld C.1 C.2.1 hX hb1 (Nat.not_le.mpr hb2) hS (em_in_ok hi) hd (kk ls H locs hL hW hS)
        · cases h
    · cases h
  · cases h
theorem em_k_baload (C : em_Cx D dA ad base L xs c0 p s m meth c ix) (hd : decode (em_cd ix) pc = .ok (.baload, 1)) (h : em_do (L, xs) ix (.baload) (pc + 1) lc st M = some (.inl (pc', lc', st', M'))) (kk : em_K p l e R s m args below meth c Q D dA ad base L xs c0 s0 M' pc' lc' st') : em_K p l e R s m args below meth c Q D dA ad base L xs c0 s0 M pc lc st := by
  intro ls H locs hL hW hS
  unfold em_do at h
  dsimp only at h
  split at h
  · rename_i i a r
    split at h
    · rename_i kd n hsh
      split at h
      · rename_i hk
        obtain ⟨hk, hi⟩ := hk
        cases h
        rcases hk with rfl | rfl
        · obtain ⟨j, rfl⟩ := em_a1 hW hsh (by decide)
          have he := em_ws_at (ad := ad) (dA := dA) (base := base) hsh
          rw [List.map_cons, List.map_cons, em_cv_ref, em_cv_int, C.had j]
          exact va_bald C.1 C.2.1 C.kn hW.1 j 1 he rfl (em_in_ok hi) hd (kk ls H locs hL hW hS)
        · obtain ⟨j, rfl⟩ := em_a1 hW hsh (by decide)
          have he := em_ws_at (ad := ad) (dA := dA) (base := base) hsh
          rw [List.map_cons, List.map_cons, em_cv_ref, em_cv_int, C.had j]
          exact va_zald C.1 C.2.1 C.kn hW.1 j 2 he rfl (em_in_ok hi) hd (kk ls H locs hL hW hS)
      · cases h
    · cases h
  · rename_i i j r
    split at h
    · rename_i hk
      obtain ⟨⟨hj1, hj2⟩, hi⟩ := hk
      cases h
      obtain ⟨adK, adV, q1, q2, -, -⟩ := C.str
      have hj : j - 2 < 2 := by omega
      have e2 : em_cv ad (.retAddr j) = .ref (adV (j - 2)) := by
        have e3 := (q2 (j - 2) hj).2.1
        rw [show j - 2 + 2 = j by omega] at e3
        show va_rf (ad.2 j) = _
        rw [e3]
        rfl
      rw [List.map_cons, List.map_cons, em_cv_int, e2]
      exact va_tb C.1 C.2.1 (q1.1 (j - 2) hj).2.2.2 hS (em_in_ok hi) rfl hd (kk ls H locs hL hW hS)
    · cases h
  · cases h
theorem em_k_laload (C : em_Cx D dA ad base L xs c0 p s m meth c ix) (hd : decode (em_cd ix) pc = .ok (.laload, 1)) (h : em_do (L, xs) ix (.laload) (pc + 1) lc st M = some (.inl (pc', lc', st', M'))) (kk : em_K p l e R s m args below meth c Q D dA ad base L xs c0 s0 M' pc' lc' st') : em_K p l e R s m args below meth c Q D dA ad base L xs c0 s0 M pc lc st := by
  intro ls H locs hL hW hS
  unfold em_do at h
  dsimp only at h
  split at h
  · rename_i i a r
    split at h
    · rename_i kd n hsh
      split at h
      · rename_i hk
        obtain ⟨rfl, hi⟩ := hk
        cases h
        obtain ⟨j, rfl⟩ := em_a1 hW hsh (by decide)
        have he := em_ws_at (ad := ad) (dA := dA) (base := base) hsh
        rw [List.map_cons, List.map_cons, em_cv_ref, em_cv_int, C.had j]
        exact va_lald C.1 C.2.1 C.kn hW.1 j 3 he rfl (em_in_ok hi) hd (kk ls H locs hL hW hS)
      · cases h
    · cases h
  · cases h
theorem em_k_aaload (C : em_Cx D dA ad base L xs c0 p s m meth c ix) (hd : decode (em_cd ix) pc = .ok (.aaload, 1)) (h : em_do (L, xs) ix (.aaload) (pc + 1) lc st M = some (.inl (pc', lc', st', M'))) (kk : em_K p l e R s m args below meth c Q D dA ad base L xs c0 s0 M' pc' lc' st') : em_K p l e R s m args below meth c Q D dA ad base L xs c0 s0 M pc lc st := by
  intro ls H locs hL hW hS
  unfold em_do at h
  dsimp only at h
  split at h
  · rename_i i a r
    split at h
    · rename_i kd n hsh
      split at h
      · rename_i hk
        obtain ⟨rfl, hi⟩ := hk
        cases h
        obtain ⟨j, rfl⟩ := em_a1 hW hsh (by decide)
        have he := em_ws_at (ad := ad) (dA := dA) (base := base) hsh
        have g := kk ls H locs hL hW hS
        rw [List.map_cons, em_cv_rf] at g
        rw [List.map_cons, List.map_cons, em_cv_ref, em_cv_int, C.had j]
        exact va_aldq C.1 C.2.1 C.kn hW.1 j 4 he rfl (em_in_ok hi) hd g
      · cases h
    · cases h
  · cases h
theorem em_k_iastore (C : em_Cx D dA ad base L xs c0 p s m meth c ix) (hd : decode (em_cd ix) pc = .ok (.iastore, 1)) (h : em_do (L, xs) ix (.iastore) (pc + 1) lc st M = some (.inl (pc', lc', st', M'))) (kk : em_K p l e R s m args below meth c Q D dA ad base L xs c0 s0 M' pc' lc' st') : em_K p l e R s m args below meth c Q D dA ad base L xs c0 s0 M pc lc st := by
  intro ls H locs hL hW hS
  unfold em_do at h
  dsimp only at h
  split at h
  · rename_i x i a r
    split at h
    · rename_i kd n hsh
      split at h
      · rename_i hk
        obtain ⟨rfl, hi⟩ := hk
        cases h
        obtain ⟨j, rfl⟩ := em_a1 hW hsh (by decide)
        have he := em_ws_at (ad := ad) (dA := dA) (base := base) hsh
        have ho := em_one_I M (j + 1) i.toNatClampNeg (x)
        rw [List.map_cons, List.map_cons, List.map_cons, em_cv_ref, em_cv_int, em_cv_int, C.had j]
        refine va_iast C.1 C.2.1 C.kn hW.1 em_D hS j 0 he rfl (em_in_ok hi) hd (fun H1 locs1 hP1 _ hS1 => ?_)
        have ee : (Sum.inl (dA 20, n, Sum.inl (upd (M.2.1 (j + 1)) i.toNatClampNeg (x))) : va_E) = em_ent ad dA (em_putI M (j + 1) i.toNatClampNeg (x)) (j + 1) (20, n) := by
          show _ = (Sum.inl (dA 20, n, Sum.inl ((em_putI M (j + 1) i.toNatClampNeg (x)).2.1 (j + 1))) : va_E)
          congr 4
          funext z
          simp [upd, em_putI]
        rw [ee] at hP1
        exact em_same ho.1 (kk ls H1 locs1 hL (hW.one hsh ho hP1) hS1)
      · cases h
    · cases h
  · cases h
theorem em_k_bastore (C : em_Cx D dA ad base L xs c0 p s m meth c ix) (hd : decode (em_cd ix) pc = .ok (.bastore, 1)) (h : em_do (L, xs) ix (.bastore) (pc + 1) lc st M = some (.inl (pc', lc', st', M'))) (kk : em_K p l e R s m args below meth c Q D dA ad base L xs c0 s0 M' pc' lc' st') : em_K p l e R s m args below meth c Q D dA ad base L xs c0 s0 M pc lc st := by
  intro ls H locs hL hW hS
  unfold em_do at h
  dsimp only at h
  split at h
  · rename_i x i a r
    split at h
    · rename_i kd n hsh
      split at h
      · rename_i hk
        obtain ⟨hk, hi⟩ := hk
        cases h
        rcases hk with rfl | rfl
        · obtain ⟨j, rfl⟩ := em_a1 hW hsh (by decide)
          have he := em_ws_at (ad := ad) (dA := dA) (base := base) hsh
          have ho := em_one_I M (j + 1) i.toNatClampNeg (vp_nar .byte x)
          rw [List.map_cons, List.map_cons, List.map_cons, em_cv_ref, em_cv_int, em_cv_int, C.had j]
          refine va_bast C.1 C.2.1 C.kn hW.1 em_D hS j 1 he rfl (em_in_ok hi) hd (fun H1 locs1 hP1 _ hS1 => ?_)
          have ee : (Sum.inl (dA 21, n, Sum.inl (upd (M.2.1 (j + 1)) i.toNatClampNeg (vp_nar .byte x))) : va_E) = em_ent ad dA (em_putI M (j + 1) i.toNatClampNeg (vp_nar .byte x)) (j + 1) (21, n) := by
            show _ = (Sum.inl (dA 21, n, Sum.inl ((em_putI M (j + 1) i.toNatClampNeg (vp_nar .byte x)).2.1 (j + 1))) : va_E)
            congr 4
            funext z
            simp [upd, em_putI]
          rw [ee] at hP1
          exact em_same ho.1 (kk ls H1 locs1 hL (hW.one hsh ho hP1) hS1)
        · obtain ⟨j, rfl⟩ := em_a1 hW hsh (by decide)
          have he := em_ws_at (ad := ad) (dA := dA) (base := base) hsh
          have ho := em_one_I M (j + 1) i.toNatClampNeg (vp_nar .boolean x)
          rw [List.map_cons, List.map_cons, List.map_cons, em_cv_ref, em_cv_int, em_cv_int, C.had j]
          refine va_zast C.1 C.2.1 C.kn hW.1 em_D hS j 2 he rfl (em_in_ok hi) hd (fun H1 locs1 hP1 _ hS1 => ?_)
          have ee : (Sum.inl (dA 22, n, Sum.inl (upd (M.2.1 (j + 1)) i.toNatClampNeg (vp_nar .boolean x))) : va_E) = em_ent ad dA (em_putI M (j + 1) i.toNatClampNeg (vp_nar .boolean x)) (j + 1) (22, n) := by
            show _ = (Sum.inl (dA 22, n, Sum.inl ((em_putI M (j + 1) i.toNatClampNeg (vp_nar .boolean x)).2.1 (j + 1))) : va_E)
            congr 4
            funext z
            simp [upd, em_putI]
          rw [ee] at hP1
          exact em_same ho.1 (kk ls H1 locs1 hL (hW.one hsh ho hP1) hS1)
      · cases h
    · cases h
  · cases h
theorem em_k_lastore (C : em_Cx D dA ad base L xs c0 p s m meth c ix) (hd : decode (em_cd ix) pc = .ok (.lastore, 1)) (h : em_do (L, xs) ix (.lastore) (pc + 1) lc st M = some (.inl (pc', lc', st', M'))) (kk : em_K p l e R s m args below meth c Q D dA ad base L xs c0 s0 M' pc' lc' st') : em_K p l e R s m args below meth c Q D dA ad base L xs c0 s0 M pc lc st := by
  intro ls H locs hL hW hS
  unfold em_do at h
  dsimp only at h
  split at h
  · rename_i x i a r
    split at h
    · rename_i kd n hsh
      split at h
      · rename_i hk
        obtain ⟨rfl, hi⟩ := hk
        cases h
        obtain ⟨j, rfl⟩ := em_a1 hW hsh (by decide)
        have he := em_ws_at (ad := ad) (dA := dA) (base := base) hsh
        have ho := em_one_J M (j + 1) i.toNatClampNeg x
        rw [List.map_cons, List.map_cons, List.map_cons, em_cv_ref, em_cv_int, em_cv_long, C.had j]
        refine va_last C.1 C.2.1 C.kn hW.1 em_D hS j 3 he rfl (em_in_ok hi) hd (fun H1 locs1 hP1 _ hS1 => ?_)
        have ee : (Sum.inl (dA 23, n, Sum.inr (Sum.inl (vp_updL (M.2.2.1 (j + 1)) i.toNatClampNeg x))) : va_E) = em_ent ad dA (em_putJ M (j + 1) i.toNatClampNeg x) (j + 1) (23, n) := by
          show _ = (Sum.inl (dA 23, n, Sum.inr (Sum.inl ((em_putJ M (j + 1) i.toNatClampNeg x).2.2.1 (j + 1)))) : va_E)
          congr 4
          congr 1
          funext z
          simp [vp_updL, em_putJ]
        rw [ee] at hP1
        exact em_same ho.1 (kk ls H1 locs1 hL (hW.one hsh ho hP1) hS1)
      · cases h
    · cases h
  · cases h
theorem em_k_aastore (C : em_Cx D dA ad base L xs c0 p s m meth c ix) (hd : decode (em_cd ix) pc = .ok (.aastore, 1)) (h : em_do (L, xs) ix (.aastore) (pc + 1) lc st M = some (.inl (pc', lc', st', M'))) (kk : em_K p l e R s m args below meth c Q D dA ad base L xs c0 s0 M' pc' lc' st') : em_K p l e R s m args below meth c Q D dA ad base L xs c0 s0 M pc lc st := by
  intro ls H locs hL hW hS
  unfold em_do at h
  dsimp only at h
  split at h
  · rename_i b i a r
    split at h
    · rename_i kd n kb nb hsh hsb
      split at h
      · rename_i hk
        obtain ⟨rfl, rfl, hi⟩ := hk
        cases h
        obtain ⟨j, rfl⟩ := em_a1 hW hsh (by decide)
        obtain ⟨jb, rfl⟩ := em_a1 hW hsb (by decide)
        have he := em_ws_at (ad := ad) (dA := dA) (base := base) hsh
        have hb := em_ws_at (ad := ad) (dA := dA) (base := base) hsb
        have ho := em_one_R M (j + 1) i.toNatClampNeg (some (jb + 1))
        rw [List.map_cons, List.map_cons, List.map_cons, em_cv_ref, em_cv_ref, em_cv_int, C.had j, C.had jb]
        refine va_astq C.1 C.2.1 C.kn hW.1 em_D hS j 4 jb 3 (r := (RX3, em_T 3, em_nf 3)) he rfl hb rfl (em_in_ok hi) hd (fun H1 locs1 hP1 _ hS1 => ?_)
        have ee : (Sum.inl (dA 24, n, Sum.inr (Sum.inr (Sum.inr (Sum.inr (va_up (fun z => (M.2.2.2 (j + 1) z).map ad.1) i.toNatClampNeg (some (base + jb))))))) : va_E) = em_ent ad dA (em_putR M (j + 1) i.toNatClampNeg (some (jb + 1))) (j + 1) (24, n) := by
          show _ = (Sum.inl (dA 24, n, Sum.inr (Sum.inr (Sum.inr (Sum.inr (fun z => ((em_putR M (j + 1) i.toNatClampNeg (some (jb + 1))).2.2.2 (j + 1) z).map ad.1))))) : va_E)
          congr 7
          funext z
          by_cases hz : z = i.toNatClampNeg
          · simp [va_up, em_putR, hz, C.had jb]
          · simp [va_up, em_putR, hz]
        rw [ee] at hP1
        exact em_same ho.1 (kk ls H1 locs1 hL (hW.one hsh ho hP1) hS1)
      · cases h
    · cases h
  · cases h
theorem em_k_arraylength (C : em_Cx D dA ad base L xs c0 p s m meth c ix) (hd : decode (em_cd ix) pc = .ok (.arraylength, 1)) (h : em_do (L, xs) ix (.arraylength) (pc + 1) lc st M = some (.inl (pc', lc', st', M'))) (kk : em_K p l e R s m args below meth c Q D dA ad base L xs c0 s0 M' pc' lc' st') : em_K p l e R s m args below meth c Q D dA ad base L xs c0 s0 M pc lc st := by
  intro ls H locs hL hW hS
  unfold em_do at h
  dsimp only at h
  split at h
  · rename_i a r
    split at h
    · rename_i kd n hsh
      split at h
      · rename_i hk
        cases h
        have g := kk ls H locs hL hW hS
        obtain ⟨j, rfl⟩ := em_a1 hW hsh (by omega)
        have he := em_ws_at (ad := ad) (dA := dA) (base := base) hsh
        rw [List.map_cons, em_cv_ref, C.had j]
        rcases (show kd = 20 ∨ kd = 21 ∨ kd = 22 ∨ kd = 23 ∨ kd = 24 by omega) with rfl | rfl | rfl | rfl | rfl
        · exact va_alen C.1 C.2.1 C.kn hW.1 j 0 he rfl rfl hd g
        · exact va_alen C.1 C.2.1 C.kn hW.1 j 1 he rfl rfl hd g
        · exact va_alen C.1 C.2.1 C.kn hW.1 j 2 he rfl rfl hd g
        · exact va_alen C.1 C.2.1 C.kn hW.1 j 3 he rfl rfl hd g
        · exact va_alen C.1 C.2.1 C.kn hW.1 j 4 he rfl rfl hd g
      · split at h
        · rename_i hk
          obtain ⟨rfl, hix⟩ := hk
          cases h
          have e0 := em_a0 hW hsh
          subst e0
          obtain ⟨hX, hb1, hb2⟩ := C.scr hix
          rw [List.map_cons, em_cv_ref]
          exact va_slen C.1 C.2.1 hX hb1 (Nat.not_le.mpr hb2) hS hd (kk ls H locs hL hW hS)
        · cases h
    · cases h
  · rename_i j r
    split at h
    · rename_i hk
      cases h
      obtain ⟨adK, adV, q1, q2, -, -⟩ := C.str
      have hj : j - 2 < 2 := by omega
      have e2 : em_cv ad (.retAddr j) = .ref (adV (j - 2)) := by
        have e3 := (q2 (j - 2) hj).2.1
        rw [show j - 2 + 2 = j by omega] at e3
        show va_rf (ad.2 j) = _
        rw [e3]
        rfl
      rw [List.map_cons, e2]
      exact va_tlen C.1 C.2.1 (q1.1 (j - 2) hj).2.2.2 hS rfl hd (kk ls H locs hL hW hS)
    · cases h
  · cases h
end EMK2
