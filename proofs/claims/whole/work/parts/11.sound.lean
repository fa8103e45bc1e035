/-! calls, and the whole of a run -/
def em_Pc (D : va_G) (dA : Nat → ClassId) (ad : em_A) (base : Nat) (as : List Value) (M : em_M) : Array Value → State → Prop := fun v U => v = (as.map (em_cv ad)).toArray ∧ em_Tb U ∧ va_K D vwCl (em_tys dA) U ∧ va_AO RX3 U ∧ em_St ad.2 (fun q => base ≤ q) U U.heap ∧ em_Wd D dA ad base M U.heap ∧ U.heap.size + 1 = base + M.1.length
def em_Qc (D : va_G) (dA : Nat → ClassId) (ad : em_A) (base : Nat) (M' : em_M) (r : Option Value) : Array Value → State → Outcome → State → Prop := fun _ st o t => o = .returned (r.map (em_cv ad)) ∧ em_Wd D dA ad base M' t.heap ∧ va_F (fun q => base ≤ q) st t
def em_Met (l : Launch) (D : va_G) (dA : Nat → ClassId) (ad : em_A) (base : Nat) (d y : Nat) (as : List Value) (M M' : em_M) (r : Option Value) : Prop :=
  Met l (em_nm y) [.code (em_nm y) (em_cd y) (em_mx y) (em_rt y)] { frames := d + 1, cells := M'.1.length - M.1.length, slots := em_sl M' - em_sl M, locals := 48 * (d + 1) } (em_Pc D dA ad base as M) (em_Qc D dA ad base M' r) (M'.1.length - M.1.length) (em_sl M' - em_sl M) (fun q => base ≤ q)
theorem em_blind {D : va_G} {dA : Nat → ClassId} {ad : em_A} {base : Nat} {as : List Value} {M : em_M} : FrameBlind (em_Pc D dA ad base as M) := fun a U g mk q => by
  obtain ⟨q1, q2, q3, q4, qs, q5, q6⟩ := q
  exact ⟨q1, em_Tb.warm (U := U.calling g mk a) q2 (State.WarmedH.refl U), va_K.moved (u := U) (U := U.calling g mk a) (Vm.Alike.refl U.vm) q3, va_AO.moved (u := U) (U := U.calling g mk a) (Vm.Alike.refl U.vm) q4, qs.call, q5, q6⟩
theorem em_do_ret {L : Nat} {xs : Nat → Int32} {ix nx : Nat} {i : Instr} {lc : em_L} {st : List Value} {M : em_M} {r : Option Value} (h : em_do (L, xs) ix i nx lc st M = some (.inr (.inr r))) : i = .ireturn ∨ i = .lreturn ∨ i = .areturn ∨ i = .return_ := by
  cases i with
  | ireturn => exact Or.inl rfl
  | lreturn => exact Or.inr (Or.inl rfl)
  | areturn => exact Or.inr (Or.inr (Or.inl rfl))
  | return_ => exact Or.inr (Or.inr (Or.inr rfl))
  | _ =>
    exfalso
    simp only [em_do, em_b2, em_b1, em_l2, em_inv, em_acp, em_mm] at h
    repeat' split at h
    all_goals cases h
theorem em_do_call {L : Nat} {xs : Nat → Int32} {ix nx nx' y : Nat} {i : Instr} {lc : em_L} {st as rest : List Value} {M : em_M} (h : em_do (L, xs) ix i nx lc st M = some (.inr (.inl (y, nx', as, rest)))) : ∃ k, i = .invokevirtual k ∨ i = .invokestatic k ∨ i = .invokespecial k := by
  cases i with
  | invokevirtual k => exact ⟨k, Or.inl rfl⟩
  | invokestatic k => exact ⟨k, Or.inr (Or.inl rfl)⟩
  | invokespecial k => exact ⟨k, Or.inr (Or.inr rfl)⟩
  | _ =>
    exfalso
    simp only [em_do, em_b2, em_b1, em_l2] at h
    repeat' split at h
    all_goals cases h
theorem em_nrm_ret {o pc : Nat} {j i : Instr} (h : em_nrm o pc j = i) (hi : i = .ireturn ∨ i = .lreturn ∨ i = .areturn ∨ i = .return_) : j = i := by
  rcases hi with rfl | rfl | rfl | rfl <;> cases j <;> first | rfl | (cases h; done) | (unfold em_nrm at h; dsimp only at h; split at h <;> cases h)
theorem em_nrm_call {o pc k : Nat} {j i : Instr} (h : em_nrm o pc j = i) (hi : i = .invokevirtual k ∨ i = .invokestatic k ∨ i = .invokespecial k) : j = i := by
  rcases hi with rfl | rfl | rfl <;> cases j <;> first | exact h | (cases h; done) | (unfold em_nrm at h; dsimp only at h; split at h <;> cases h)
theorem em_inv_eq {nx nx' y y' na : Nat} {st as rest : List Value} (h : em_inv nx st y na = some (.inr (.inl (y', nx', as, rest)))) : na ≤ st.length ∧ (rest.map (fun v => v.category)).sum ≤ 8 ∧ (em_la as).length ≤ em_mx y ∧ y' = y ∧ nx' = nx ∧ as = (st.take na).reverse ∧ rest = st.drop na := by
  unfold em_inv at h
  split at h
  · rename_i hc
    cases h
    exact ⟨hc.1, hc.2.1, hc.2.2, rfl, rfl, rfl, rfl⟩
  · cases h
theorem em_rcv_eq {M : em_M} {st : List Value} {na ci : Nat} (h : em_rcv M st na ci = true) : (∃ a n, st[na]? = some (.ref a) ∧ M.1[a]? = some (ci, n) ∧ ci < 13) ∨ ∃ j, st[na]? = some (.retAddr j) ∧ j < 2 ∧ ci = em_strc := by
  unfold em_rcv at h
  split at h
  · rename_i a ha
    split at h
    · rename_i kd n hn
      rw [Bool.and_eq_true] at h
      have e := Nat.eq_of_beq_eq_true h.1
      subst e
      exact Or.inl ⟨a, n, ha, hn, Nat.le_of_ble_eq_true h.2⟩
    · cases h
  · rename_i j hj
    rw [Bool.and_eq_true] at h
    exact Or.inr ⟨j, hj, Nat.le_of_ble_eq_true h.1, Nat.eq_of_beq_eq_true h.2⟩
  · cases h
theorem em_msum {ad : em_A} {r : List Value} (h : (r.map (fun v => v.category)).sum ≤ 8) : (((r.map (em_cv ad)).map fun v => v.category).sum) ≤ 8 := by
  rw [List.map_map]
  have e : ((fun v : Value => v.category) ∘ em_cv ad) = (fun v : Value => v.category) := funext (em_cv_cat ad)
  rw [e]
  exact h
section EMS
variable {p : Program} {l : Launch} {e : Env} {R : Room} {s : State} {m : MethodId} {args : Array Value} {below : List Frame} {meth : Method} {c : Code} {Q : State → Prop}
variable {D : va_G} {dA : Nat → ClassId} {ad : em_A} {base L : Nat} {xs : Nat → Int32} {c0 s0 ix pc : Nat} {lc lc' : em_L} {st st' : List Value} {M M' : em_M} {pc' : Nat} {H : Heap}
theorem em_recv {locs : List Loc} {na ci : Nat} (C : em_Cx D dA ad base L xs c0 p s m meth c ix) (hW : em_Wd D dA ad base M H) (hS : va_S (fun q => base ≤ q) s.heap H locs) (h : em_rcv M st na ci = true) : ∃ (rv : Value) (q : Nat), st[na]? = some rv ∧ em_cv ad rv = .ref q ∧ ∃ cell : Cell, H[q]? = some cell ∧ cell.vm.isStatics = false ∧ s.vm.findClass (em_rn ci) = some cell.cls := by
  rcases em_rcv_eq h with ⟨a, n, h1, h2, h3⟩ | ⟨j, h1, h2, rfl⟩
  · obtain ⟨ja, rfl⟩ := em_a1 hW h2 (by omega)
    have he := em_ws_at (ad := ad) (dA := dA) (base := base) h2
    rw [show em_ent ad dA M (ja + 1) (ci, n) = .inr (ci, em_fs ad M (ja + 1) ci) from if_pos h3, ← C.had ja] at he
    exact ⟨_, _, h1, rfl, va_recv C.kn hW.1 (em_vw _ h3) he⟩
  · obtain ⟨adK, adV, q1, q2, -, -⟩ := C.str
    refine ⟨_, adK j, h1, ?_, vk_recv q1 h2 hS⟩
    show va_rf (ad.2 j) = _
    rw [(q2 j h2).1]
    rfl
theorem em_ret_ok {r : Option Value} (C : em_Cx D dA ad base L xs c0 p s m meth c ix) (hr : meth.sig.returnType = em_rt ix) (hlocks : meth.locks = false) (h : em_stp (L, xs) ix pc lc st M = some (.inr (.inr r))) :
    em_K p l e R s m args below meth c (MQ below (em_Qc D dA ad base M r) args s (M.1.length - c0) (em_sl M - s0) (fun q => base ≤ q)) D dA ad base L xs c0 s0 M pc lc st := by
  intro ls H locs hL hW hS
  have hq : ∀ t : State, t.heap = H → s.WarmedH t.vm → em_Qc D dA ad base M r args s (.returned (r.map (em_cv ad))) t := fun t ht _ => ⟨rfl, by rw [ht]; exact hW, hS.F ht⟩
  unfold em_stp at h
  split at h
  · cases h
  · rename_i i nx hi
    obtain ⟨j, len, hd, hn, rfl, hlok⟩ := em_dec hi
    have hi2 := em_do_ret h
    have hj := em_nrm_ret hn hi2
    subst hj
    unfold em_do at h
    rcases hi2 with rfl | rfl | rfl | rfl
    · have hq1 : len = 1 := Nat.eq_of_beq_eq_true hlok
      subst hq1
      dsimp only at h
      split at h
      · rename_i v
        split at h
        · rename_i hc
          cases h
          have hnb : ∀ t : FieldType, (∃ z, narrow t (.int v) = .int z) → vp_nar t v = v → narrow t (.int v) = .int v := fun t hz hn => by
            obtain ⟨z, hz⟩ := hz
            unfold vp_nar at hn
            rw [hz] at hn ⊢
            dsimp only at hn
            rw [hn]
          rcases hc with hc | ⟨hc, hv⟩ | ⟨hc, hv⟩ | ⟨hc, hv⟩
          · exact W.zret C.1 C.2.1 (hr.trans hc) rfl hq hS.2.2 hd hlocks
          · exact W.zret C.1 C.2.1 (hr.trans hc) (by rcases hv with rfl | rfl <;> rfl) hq hS.2.2 hd hlocks
          · exact W.zret C.1 C.2.1 (hr.trans hc) (hnb .byte ⟨_, rfl⟩ hv) hq hS.2.2 hd hlocks
          · exact W.zret C.1 C.2.1 (hr.trans hc) (hnb .char ⟨_, rfl⟩ hv) hq hS.2.2 hd hlocks
        · cases h
      · cases h
    · have hq1 : len = 1 := Nat.eq_of_beq_eq_true hlok
      subst hq1
      dsimp only at h
      split at h
      · split at h
        · rename_i v hc
          cases h
          exact W.lret C.1 C.2.1 (hr.trans hc) hq hS.2.2 hd hlocks
        · cases h
      · cases h
    · have hq1 : len = 1 := Nat.eq_of_beq_eq_true hlok
      subst hq1
      dsimp only at h
      split at h
      · split at h
        · rename_i v hc
          cases h
          exact W.aret C.1 C.2.1 (hr.trans hc) (Or.inl ⟨_, rfl⟩) (Or.inr ⟨_, rfl⟩) hq hS.2.2 hd hlocks
        · cases h
      · cases h
    · have hq1 : len = 1 := Nat.eq_of_beq_eq_true hlok
      subst hq1
      dsimp only at h
      split at h
      · split at h
        · rename_i hc
          cases h
          exact W.vret C.1 C.2.1 (hr.trans hc) hq hS.2.2 hd hlocks
        · cases h
      · cases h
theorem em_back {ls : Array Slot} {locs : List Loc} {rest : List Value} {M1 : em_M} {r1 : Option Value} {a : Array Value} {st0 : List Value} (hc : c0 ≤ M.1.length) (hs : s0 ≤ em_sl M) (hle : M.1.length ≤ M1.1.length) (hle2 : em_sl M ≤ em_sl M1) (hL : em_Lr ad ls lc) (hS : va_S (fun q => base ≤ q) s.heap H locs)
    (hr : va_Run p l e R s m args below meth c H locs (M.1.length - c0) (em_sl M - s0) (M1.1.length - M.1.length) (em_sl M1 - em_sl M) (F0 m pc ls st0) (rest.map (em_cv ad)) (em_Qc D dA ad base M1 r1 a) (fun q => base ≤ q)) (kk : em_K p l e R s m args below meth c Q D dA ad base L xs c0 s0 M1 (pc + 3) lc (r1.toList ++ rest)) : W p l e R s m args below meth c H locs (M.1.length - c0) (em_sl M - s0) Q (F0 m pc ls st0) := by
  refine em_goon (P := em_Wd D dA ad base M1) (rv := r1.map (em_cv ad)) hr hS (fun H1 locs1 hP1 hS1 => ?_)
  have g := kk ls H1 locs1 hL hP1 hS1
  rw [show M.1.length - c0 + (M1.1.length - M.1.length) = M1.1.length - c0 by omega, show em_sl M - s0 + (em_sl M1 - em_sl M) = em_sl M1 - s0 by omega]
  rw [List.map_append] at g
  cases r1 with
  | none => exact g
  | some v => exact g
theorem em_call_ok {d y nx : Nat} {as rest : List Value} {M1 : em_M} {r1 : Option Value} (C : em_Cx D dA ad base L xs c0 p s m meth c ix) (h : em_stp (L, xs) ix pc lc st M = some (.inr (.inl (y, nx, as, rest)))) (hf : d + 2 ≤ R.frames) (hl : 48 * (d + 2) ≤ R.locals) (hc : c0 ≤ M.1.length) (hs : s0 ≤ em_sl M) (hle : M.1.length ≤ M1.1.length) (hle2 : em_sl M ≤ em_sl M1) (hRc : M1.1.length - c0 ≤ R.cells) (hRs : em_sl M1 - s0 ≤ R.slots)
    (hM : y < em_n → y ≠ em_law → (em_la as).length ≤ em_mx y → em_Met l D dA ad base d y as M M1 r1) (kk : em_K p l e R s m args below meth c Q D dA ad base L xs c0 s0 M1 nx lc (r1.toList ++ rest)) : em_K p l e R s m args below meth c Q D dA ad base L xs c0 s0 M pc lc st := by
  intro ls H locs hL hW hS
  refine em_hsz C hc hW hS (fun hz => ?_)
  unfold em_stp at h
  split at h
  · cases h
  · rename_i i nx0 hi
    obtain ⟨j, len, hd, hn, rfl, hlok⟩ := em_dec hi
    obtain ⟨k, hi2⟩ := em_do_call h
    have hj := em_nrm_call hn hi2
    subst hj
    have hlen : len = 3 := by rcases hi2 with rfl | rfl | rfl <;> exact Nat.eq_of_beq_eq_true hlok
    subst hlen
    have hpre : ∀ U : State, U.heap = H → s.WarmedH U.vm → em_Pc D dA ad base as M (as.map (em_cv ad)).toArray U := fun U hU hWm => ⟨rfl, C.tb.warm hWm, va_K.moved hWm.alike C.kn, va_AO.moved hWm.alike C.ao, C.str.next hWm hU hS, by rw [hU]; exact hW, by rw [hU]; exact hz⟩
    have hroom : (M.1.length - c0) + (M1.1.length - M.1.length) ≤ R.cells ∧ (em_sl M - s0) + (em_sl M1 - em_sl M) ≤ R.slots := ⟨by omega, by omega⟩
    unfold em_do at h
    rcases hi2 with rfl | rfl | rfl
    · dsimp only at h
      split at h
      · rename_i kd y0 hm
        split at h
        · rename_i hcnd
          obtain ⟨hlc, hkd, hrcv⟩ := hcnd
          obtain ⟨e1, e2, e3, e4, e5, e6, e7⟩ := em_inv_eq h
          subst e4 e5
          obtain ⟨rv, aq, ha, hcv, hrec⟩ := em_recv C hW hS hrcv
          obtain ⟨b1, b2, b3⟩ := (em_mws hm).2 (by omega)
          obtain ⟨f1, f2, f3, f4, f5, f6, f7⟩ := em_yfacts b1 b2
          have hMt := hM b1 b2 e3
          have hst : st = st.take (em_na y) ++ rv :: rest := by
            rw [e7]
            have h1 : st.drop (em_na y) = rv :: st.drop (em_na y + 1) := by
              rw [List.drop_eq_getElem_cons (by omega)]
              congr 1
              have := List.getElem?_eq_getElem (l := st) (i := em_na y) (by omega)
              rw [ha] at this
              exact (Option.some.inj this).symm
            rw [← h1, List.take_append_drop]
          have has : as = rv :: (st.take (em_na y)).reverse := by
            rw [e6, List.take_add_one, ha]
            simp
          have hml : ls.size = em_mx ix := by rw [hL.1]; exact hlc
          have hroomL : 2 * (F0 m pc ls (st.map (em_cv ad))).monitorRoom + ((rest.map (em_cv ad)).map fun v => v.category).sum ≤ 8 := lv_room (em_msum e2)
          have hAl : ((st.take (em_na y)).reverse.map (em_cv ad)).length = em_na y := by simp; omega
          have hstack : (F0 m pc ls (st.map (em_cv ad))).stack = ((st.take (em_na y)).reverse.map (em_cv ad)).reverse ++ .ref aq :: rest.map (em_cv ad) := by
            show st.map (em_cv ad) = _
            conv => lhs; rw [hst]
            simp [hcv]
          rw [← f2] at hrec
          have hp : PreV s H (em_nm y).cls aq (em_Pc D dA ad base as M) ((st.take (em_na y)).reverse.map (em_cv ad)) := ⟨em_blind, hrec, fun U hU hWm => by have g := hpre U hU hWm; rw [show as.map (em_cv ad) = .ref aq :: (st.take (em_na y)).reverse.map (em_cv ad) by rw [has, List.map_cons, hcv]] at g; exact g⟩
          have hts : ∀ w ∈ Cond.code (em_nm y) (em_cd y) (em_mx y) (em_rt y) :: em_yws y, w.before args s = true := fun w hw => C.tb w (f1 w hw).1 (f1 w hw).2 args
          have hG : GoodIn (Cond.code (em_nm y) (em_cd y) (em_mx y) (em_rt y) :: em_yws y) [Cond.code (em_nm y) (em_cd y) (em_mx y) (em_rt y)] := fun w hw => by rw [List.mem_singleton] at hw; subst hw; exact ⟨List.mem_cons_self, Or.inl rfl⟩
          have hRR : d + 1 + 1 ≤ R.frames ∧ 8 + (em_mx y + 11) + 48 * (d + 1) ≤ R.locals := ⟨by omega, by omega⟩
          refine em_back (a := (as.map (em_cv ad)).toArray) (st0 := st.map (em_cv ad)) hc hs hle hle2 hL hS (r1 := r1) (rest := rest) ?_ kk
          rcases b3 with ⟨q1, q2, q3, q4⟩ | ⟨q2, q3⟩
          · have hk0 : em_yk y = 0 := by omega
            have m1 : Cond.instanceMethod (em_nm y) ∈ em_yws y := by unfold em_yws; rw [hk0]; simp
            have m2 : Cond.selects (em_nm y).cls (em_nm y) (em_nm y) ∈ em_yws y := by unfold em_yws; rw [hk0]; simp
            exact va_runV (As := (st.take (em_na y)).reverse.map (em_cv ad)) (Ts := Cond.code (em_nm y) (em_cd y) (em_mx y) (em_rt y) :: em_yws y) ⟨C.1, C.2.1, C.2.2.1, C.own, hts⟩ hMt ⟨callB_of (em_na y) hts hG rfl rfl rfl (hts _ (List.mem_cons_of_mem _ em_yws_ini)) (C.tb _ q3 q4 args) f3 hRR, hts _ (List.mem_cons_of_mem _ m1), hts _ (List.mem_cons_of_mem _ m2)⟩ hp rfl hAl hml hstack hroomL hd hroom
          · have hk0 : em_yk y = 0 := by omega
            have m1 : Cond.instanceMethod (em_nm y) ∈ em_yws y := by unfold em_yws; rw [hk0]; simp
            have m2 : Cond.selects (em_nm y).cls (em_nm y) (em_nm y) ∈ em_yws y := by unfold em_yws; rw [hk0]; simp
            exact va_runVN (As := (st.take (em_na y)).reverse.map (em_cv ad)) (Ts := Cond.code (em_nm y) (em_cd y) (em_mx y) (em_rt y) :: em_yws y) ⟨C.1, C.2.1, C.2.2.1, C.own, hts⟩ hMt ⟨va_cnB (em_na y) hts hG rfl rfl rfl (va_Nw.of rfl (C.tb _ q3 rfl args)) (hts _ (List.mem_cons_of_mem _ em_yws_ini)) f3 hRR, hts _ (List.mem_cons_of_mem _ m1), hts _ (List.mem_cons_of_mem _ m2)⟩ hp rfl hAl hml hstack hroomL hd hroom
        · cases h
      · cases h
    · dsimp only at h
      split at h
      · rename_i kd y0 hm
        split at h
        · cases h
        · rename_i hlc
          split at h
          · exfalso
            simp only [em_acp] at h
            repeat' split at h
            all_goals cases h
          · split at h
            · exfalso
              simp only [em_mm] at h
              repeat' split at h
              all_goals cases h
            · split at h
              · exfalso
                simp only [em_mm] at h
                repeat' split at h
                all_goals cases h
              · split at h
                · rename_i hkd
                  obtain ⟨e1, e2, e3, e4, e5, e6, e7⟩ := em_inv_eq h
                  subst e4 e5
                  obtain ⟨b1, b2, b3⟩ := (em_mws hm).2 (by omega)
                  obtain ⟨f1, f2, f3, f4, f5, f6, f7⟩ := em_yfacts b1 b2
                  have hMt := hM b1 b2 e3
                  have hml : ls.size = em_mx ix := by rw [hL.1]; exact Classical.not_not.mp hlc
                  have hroomL : 2 * (F0 m pc ls (st.map (em_cv ad))).monitorRoom + ((rest.map (em_cv ad)).map fun v => v.category).sum ≤ 8 := lv_room (em_msum e2)
                  have hAl : (as.map (em_cv ad)).length = em_na y := by rw [e6]; simp; omega
                  have hstack : (F0 m pc ls (st.map (em_cv ad))).stack = (as.map (em_cv ad)).reverse ++ rest.map (em_cv ad) := by
                    show st.map (em_cv ad) = _
                    rw [e6, e7, ← List.map_reverse, List.reverse_reverse, ← List.map_append, List.take_append_drop]
                  have hp : PreS s H (em_Pc D dA ad base as M) (as.map (em_cv ad)) := ⟨em_blind, hpre⟩
                  have hts : ∀ w ∈ Cond.code (em_nm y) (em_cd y) (em_mx y) (em_rt y) :: em_yws y, w.before args s = true := fun w hw => C.tb w (f1 w hw).1 (f1 w hw).2 args
                  have hG : GoodIn (Cond.code (em_nm y) (em_cd y) (em_mx y) (em_rt y) :: em_yws y) [Cond.code (em_nm y) (em_cd y) (em_mx y) (em_rt y)] := fun w hw => by rw [List.mem_singleton] at hw; subst hw; exact ⟨List.mem_cons_self, Or.inl rfl⟩
                  have hRR : d + 1 + 1 ≤ R.frames ∧ 8 + (em_mx y + 11) + 48 * (d + 1) ≤ R.locals := ⟨by omega, by omega⟩
                  refine em_back (a := (as.map (em_cv ad)).toArray) (st0 := st.map (em_cv ad)) hc hs hle hle2 hL hS (r1 := r1) (rest := rest) ?_ kk
                  rcases b3 with ⟨q1, q2, q3, q4⟩ | ⟨q2, q3⟩
                  · have hk0 : em_yk y = 1 := by omega
                    have m1 : Cond.static (em_nm y) ∈ em_yws y := by unfold em_yws; rw [hk0]; simp
                    exact va_runS (As := as.map (em_cv ad)) (Ts := Cond.code (em_nm y) (em_cd y) (em_mx y) (em_rt y) :: em_yws y) ⟨C.1, C.2.1, C.2.2.1, C.own, hts⟩ hMt ⟨callB_of (em_na y) hts hG rfl rfl rfl (hts _ (List.mem_cons_of_mem _ em_yws_ini)) (C.tb _ q3 q4 args) f3 hRR, hts _ (List.mem_cons_of_mem _ m1)⟩ hp rfl hAl hml hstack hroomL hd hroom
                  · have hk0 : em_yk y = 1 := by omega
                    have m1 : Cond.static (em_nm y) ∈ em_yws y := by unfold em_yws; rw [hk0]; simp
                    exact va_runSN (As := as.map (em_cv ad)) (Ts := Cond.code (em_nm y) (em_cd y) (em_mx y) (em_rt y) :: em_yws y) ⟨C.1, C.2.1, C.2.2.1, C.own, hts⟩ hMt ⟨va_cnB (em_na y) hts hG rfl rfl rfl (va_Nw.of rfl (C.tb _ q3 rfl args)) (hts _ (List.mem_cons_of_mem _ em_yws_ini)) f3 hRR, hts _ (List.mem_cons_of_mem _ m1), trivial⟩ hp rfl hAl hml hstack hroomL hd hroom
                · cases h
      · cases h
    · dsimp only at h
      split at h
      · rename_i kd y0 hm
        split at h
        · cases h
        · rename_i hlc
          split at h
          · exfalso
            repeat' split at h
            all_goals cases h
          · split at h
            · rename_i hcnd
              obtain ⟨hkd, hrcv⟩ := hcnd
              obtain ⟨e1, e2, e3, e4, e5, e6, e7⟩ := em_inv_eq h
              subst e4 e5
              obtain ⟨rv, aq, ha, hcv, hrec⟩ := em_recv C hW hS hrcv
              obtain ⟨b1, b2, b3⟩ := (em_mws hm).2 (by omega)
              obtain ⟨f1, f2, f3, f4, f5, f6, f7⟩ := em_yfacts b1 b2
              have hMt := hM b1 b2 e3
              have hst : st = st.take (em_na y) ++ rv :: rest := by
                rw [e7]
                have h1 : st.drop (em_na y) = rv :: st.drop (em_na y + 1) := by
                  rw [List.drop_eq_getElem_cons (by omega)]
                  congr 1
                  have := List.getElem?_eq_getElem (l := st) (i := em_na y) (by omega)
                  rw [ha] at this
                  exact (Option.some.inj this).symm
                rw [← h1, List.take_append_drop]
              have has : as = rv :: (st.take (em_na y)).reverse := by
                rw [e6, List.take_add_one, ha]
                simp
              have hml : ls.size = em_mx ix := by rw [hL.1]; exact Classical.not_not.mp hlc
              have hroomL : 2 * (F0 m pc ls (st.map (em_cv ad))).monitorRoom + ((rest.map (em_cv ad)).map fun v => v.category).sum ≤ 8 := lv_room (em_msum e2)
              have hAl : ((st.take (em_na y)).reverse.map (em_cv ad)).length = em_na y := by simp; omega
              have hstack : (F0 m pc ls (st.map (em_cv ad))).stack = ((st.take (em_na y)).reverse.map (em_cv ad)).reverse ++ .ref aq :: rest.map (em_cv ad) := by
                show st.map (em_cv ad) = _
                conv => lhs; rw [hst]
                simp [hcv]
              have hp : PreS s H (em_Pc D dA ad base as M) (.ref aq :: (st.take (em_na y)).reverse.map (em_cv ad)) := ⟨em_blind, fun U hU hWm => by have g := hpre U hU hWm; rw [show as.map (em_cv ad) = .ref aq :: (st.take (em_na y)).reverse.map (em_cv ad) by rw [has, List.map_cons, hcv]] at g; exact g⟩
              have hts : ∀ w ∈ Cond.code (em_nm y) (em_cd y) (em_mx y) (em_rt y) :: em_yws y, w.before args s = true := fun w hw => C.tb w (f1 w hw).1 (f1 w hw).2 args
              have hG : GoodIn (Cond.code (em_nm y) (em_cd y) (em_mx y) (em_rt y) :: em_yws y) [Cond.code (em_nm y) (em_cd y) (em_mx y) (em_rt y)] := fun w hw => by rw [List.mem_singleton] at hw; subst hw; exact ⟨List.mem_cons_self, Or.inl rfl⟩
              have hRR : d + 1 + 1 ≤ R.frames ∧ 8 + (em_mx y + 11) + 48 * (d + 1) ≤ R.locals := ⟨by omega, by omega⟩
              refine em_back (a := (as.map (em_cv ad)).toArray) (st0 := st.map (em_cv ad)) hc hs hle hle2 hL hS (r1 := r1) (rest := rest) ?_ kk
              rcases b3 with ⟨q1, q2, q3, q4⟩ | ⟨q2, q3⟩
              · have hk0 : em_yk y = 2 := by omega
                have m1 : Cond.instanceMethod (em_nm y) ∈ em_yws y := by unfold em_yws; rw [hk0]; simp
                obtain ⟨g1, g2⟩ := f6 hk0
                exact va_runI (As := (st.take (em_na y)).reverse.map (em_cv ad)) (Ts := Cond.code (em_nm y) (em_cd y) (em_mx y) (em_rt y) :: em_yws y) ⟨C.1, C.2.1, C.2.2.1, C.own, hts⟩ hMt ⟨callB_of (em_na y) hts hG (by rw [g2]) rfl rfl (hts _ (List.mem_cons_of_mem _ em_yws_ini)) (C.tb _ q3 q4 args) f3 hRR, g1, hts _ (List.mem_cons_of_mem _ m1)⟩ hp rfl hAl hml hstack hroomL hd hroom
              · have hk0 : em_yk y = 2 := by omega
                have m1 : Cond.instanceMethod (em_nm y) ∈ em_yws y := by unfold em_yws; rw [hk0]; simp
                obtain ⟨g1, g2⟩ := f6 hk0
                exact va_runIN (As := (st.take (em_na y)).reverse.map (em_cv ad)) (Ts := Cond.code (em_nm y) (em_cd y) (em_mx y) (em_rt y) :: em_yws y) ⟨C.1, C.2.1, C.2.2.1, C.own, hts⟩ hMt ⟨va_cnB (em_na y) hts hG (by rw [g2]) rfl rfl (va_Nw.of rfl (C.tb _ q3 rfl args)) (hts _ (List.mem_cons_of_mem _ em_yws_ini)) f3 hRR, g1, hts _ (List.mem_cons_of_mem _ m1)⟩ hp rfl hAl hml hstack hroomL hd hroom
            · cases h
      · cases h
end EMS
/-- THE RUN: what the pure machine does the machine does -/
theorem em_sound {l : Launch} {D : va_G} {dA : Nat → ClassId} {ad : em_A} {base : Nat} (had : ∀ j, ad.1 (j + 1) = base + j) : ∀ (n L : Nat) (xs : Nat → Int32) (d ix pc : Nat) (lc : em_L) (st : List Value) (M : em_M) (r : Option Value) (M' : em_M), em_run (L, xs) n d ix pc lc st M = some (r, M') →
    ∀ {p : Program} {e : Env} {R : Room} {s : State} {m : MethodId} {args : Array Value} {below : List Frame} {meth : Method} {c : Code} {Q : State → Prop} {c0 s0 : Nat}, em_Cx D dA ad base L xs c0 p s m meth c ix → d + 1 ≤ R.frames → 48 * (d + 1) ≤ R.locals → c0 ≤ M.1.length → s0 ≤ em_sl M → M'.1.length - c0 ≤ R.cells → em_sl M' - s0 ≤ R.slots →
    (∀ (pc : Nat) (lc : em_L) (st : List Value), em_stp (L, xs) ix pc lc st M' = some (.inr (.inr r)) → em_K p l e R s m args below meth c Q D dA ad base L xs c0 s0 M' pc lc st) → em_K p l e R s m args below meth c Q D dA ad base L xs c0 s0 M pc lc st := by
  intro n
  induction n with
  | zero => intro L xs d ix pc lc st M r M' h; cases h
  | succ n ih =>
    intro L xs d ix pc lc st M r M' h p e R s m args below meth c Q c0 s0 C hf hl hc hs hRc hRs hret
    rw [em_run] at h
    split at h
    · cases h
    · rename_i pc1 lc1 st1 M1 hstp
      have hx := em_stp_ext hstp
      have hy := em_run_ext _ _ _ _ _ _ _ _ _ _ h
      exact em_stp_ok C (by omega) (by omega) hc hs (by omega) (by omega) hstp (ih L xs d ix pc1 lc1 st1 M1 r M' h C hf hl (by omega) (by omega) hRc hRs hret)
    · rename_i y nx as rest hstp
      split at h
      · cases h
      · rename_i d1
        split at h
        · cases h
        · rename_i r1 M1 hrun
          have hx := em_run_ext _ _ _ _ _ _ _ _ _ _ hrun
          have hy := em_run_ext _ _ _ _ _ _ _ _ _ _ h
          refine em_call_ok C hstp hf hl hc hs hx.1 hx.2 (by omega) (by omega) (fun b1 b2 e3 => ?_) (ih L xs (d1 + 1) ix nx lc (r1.toList ++ rest) M1 r M' h C hf hl (by omega) (by omega) hRc hRs hret)
          obtain ⟨f1, f2, f3, f4, f5, f6, f7⟩ := em_yfacts b1 b2
          refine Met.ofW (cc := em_cd y) (maxL := em_mx y) (ret := em_rt y) f4 rfl ?_
          intro p e s m args below meth c s₁ B hml hv
          obtain ⟨rfl, hTb, hK, hAO, hSt, hWd, hsz⟩ := hv
          have hM1 : 1 ≤ M.1.length := by have := (List.getElem?_eq_some_iff.mp hWd.2.1).1; omega
          have C1 : em_Cx D dA ad base 0 (fun _ => 0) M.1.length p s m meth c y := ⟨B.exec, B.bytes, hml, by rw [← f2]; exact findClass_of_methodNamed B.named, hTb, hK, hAO, fun q => (name_of_methodNamed B.named B.method).1.trans (f7 q), had, ⟨hsz, hM1⟩, hSt, fun q => absurd q b2⟩
          have hlocks := B.notSynchronized
          have g := ih 0 (fun _ => 0) d1 y 0 (em_loc y as) [] M r1 M1 hrun (R := { frames := d1 + 1, cells := M1.1.length - M.1.length, slots := em_sl M1 - em_sl M, locals := 48 * (d1 + 1) }) (p := p) (e := e) (s := s) (m := m) (args := (as.map (em_cv ad)).toArray) (below := below) (meth := meth) (c := c) (c0 := M.1.length) (s0 := em_sl M) (Q := MQ below (em_Qc D dA ad base M1 r1) (as.map (em_cv ad)).toArray s (M1.1.length - M.1.length) (em_sl M1 - em_sl M) (fun q => base ≤ q)) C1 (Nat.le_refl _) (Nat.le_refl _) (Nat.le_refl _) (Nat.le_refl _) (Nat.le_refl _) (Nat.le_refl _) (fun pc lc st hq => em_ret_ok C1 B.returns hlocks hq)
          have g2 := g _ s.heap [] (em_Lr.entry e3) hWd va_S.rf
          rw [Nat.sub_self, Nat.sub_self] at g2
          rw [lg_entry_eq]
          exact g2
    · rename_i r0 hstp
      cases h
      exact hret pc lc st hstp
