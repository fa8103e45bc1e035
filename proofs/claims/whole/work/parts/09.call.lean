/-! the instructions that make cells, the JDK's own, and the dispatch -/
theorem em_sl_new (M : em_M) (kd n : Nat) : em_sl (em_new M kd n) = em_sl M + n := by
  unfold em_sl em_new
  simp
theorem em_len_new (M : em_M) (kd n : Nat) : (em_new M kd n).1.length = M.1.length + 1 := by
  unfold em_new
  simp
theorem em_addr {ad : em_A} {dA : Nat → ClassId} {base q : Nat} {M : em_M} {en : va_E} (hD : va_D (fun q => base ≤ q) (em_ws ad dA base M ++ [(q, en)])) (hq : q < base + M.1.length) (hM : 1 ≤ M.1.length) : q = base + (M.1.length - 1) := by
  have hl : (em_ws ad dA base M).length = M.1.length - 1 := by unfold em_ws; rw [List.length_map, List.length_range]
  have hlast : (em_ws ad dA base M ++ [(q, en)])[M.1.length - 1]? = some (q, en) := by
    rw [List.getElem?_append_right (by omega), hl, Nat.sub_self]
    rfl
  have hb : base ≤ q := hD.2 _ _ hlast
  rcases Nat.lt_or_ge (q - base) (M.1.length - 1) with h | h
  · have h2 : M.1[q - base + 1]? = some (M.1[q - base + 1]'(by omega)) := List.getElem?_eq_getElem _
    have h3 := em_ws_at (ad := ad) (dA := dA) (base := base) h2
    have h4 : (em_ws ad dA base M ++ [(q, en)])[q - base]? = some (base + (q - base), em_ent ad dA M (q - base + 1) (M.1[q - base + 1]'(by omega))) := by
      rw [List.getElem?_append_left (by omega)]
      exact h3
    have := hD.1 _ _ _ _ h4 hlast (by dsimp only; omega)
    omega
  · omega
section EMK3
variable {p : Program} {l : Launch} {e : Env} {R : Room} {s : State} {m : MethodId} {args : Array Value} {below : List Frame} {meth : Method} {c : Code} {Q : State → Prop}
variable {D : va_G} {dA : Nat → ClassId} {ad : em_A} {base L : Nat} {xs : Nat → Int32} {c0 s0 ix pc : Nat} {lc lc' : em_L} {st st' : List Value} {M M' : em_M} {pc' : Nat} {H : Heap}
theorem em_alloc {q kd n : Nat} {en : va_E} {H1 : Heap} {locs : List Loc} {ls : Array Slot} {r : List Value} (C : em_Cx D dA ad base L xs c0 p s m meth c ix) (hc : c0 ≤ M.1.length) (hs : s0 ≤ em_sl M) (hL : em_Lr ad ls lc) (hW : em_Wd D dA ad base M H) (hkd : kd < 25) (he : en = em_ent ad dA (em_new M kd n) M.1.length (kd, n))
    (hP1 : va_P D vwCl (em_ws ad dA base M ++ [(q, en)]) H1) (hD1 : va_D (fun q => base ≤ q) (em_ws ad dA base M ++ [(q, en)])) (hS1 : va_S (fun q => base ≤ q) s.heap H1 locs) (kk : em_K p l e R s m args below meth c Q D dA ad base L xs c0 s0 (em_new M kd n) pc' lc (.ref M.1.length :: r)) :
    W p l e R s m args below meth c H1 locs (M.1.length - c0 + 1) (em_sl M - s0 + n) Q (F0 m pc' ls (.ref q :: r.map (em_cv ad))) := by
  intro T hT X
  have h1 := X.heapSize
  rw [hT] at h1
  have hz := C.hsz
  have hl : (em_ws ad dA base M).length = M.1.length - 1 := by unfold em_ws; rw [List.length_map, List.length_range]
  have hlast : (em_ws ad dA base M ++ [(q, en)])[M.1.length - 1]? = some (q, en) := by
    rw [List.getElem?_append_right (by omega), hl, Nat.sub_self]
    rfl
  have hq1 : q < H1.size := (hP1 _ _ hlast).lt
  have hq : q = base + (M.1.length - 1) := em_addr hD1 (by omega) (by omega)
  have hg : em_ws ad dA base M ++ [(q, en)] = em_ws ad dA base (em_new M kd n) := em_grow (by omega) hq he
  have g := kk ls H1 locs hL ⟨by rw [← hg]; exact hP1, ?_, fun j sh hj => ?_⟩ hS1
  · rw [em_len_new, em_sl_new, show M.1.length + 1 - c0 = M.1.length - c0 + 1 by omega, show em_sl M + n - s0 = em_sl M - s0 + n by omega, List.map_cons, em_cv_ref, show ad.1 M.1.length = q by rw [hq, ← C.had, show M.1.length - 1 + 1 = M.1.length by omega]] at g
    exact g T hT X
  · show (M.1 ++ [(kd, n)])[0]? = _
    rw [List.getElem?_append_left (by omega)]
    exact hW.2.1
  · have hj' : (M.1 ++ [(kd, n)])[j + 1]? = some sh := hj
    rcases Nat.lt_or_ge (j + 1) M.1.length with h | h
    · rw [List.getElem?_append_left h] at hj'
      exact hW.2.2 j sh hj'
    · rw [List.getElem?_append_right h] at hj'
      have h2 : j + 1 - M.1.length < 1 := (List.getElem?_eq_some_iff.mp hj').1
      rw [show j + 1 - M.1.length = 0 by omega] at hj'
      cases hj'
      exact hkd
theorem em_k_newarray {t : ArrayType} (C : em_Cx D dA ad base L xs c0 p s m meth c ix) (hc : c0 ≤ M.1.length) (hs : s0 ≤ em_sl M) (hRc : M'.1.length - c0 ≤ R.cells) (hRs : em_sl M' - s0 ≤ R.slots) (hd : decode (em_cd ix) pc = .ok (.newarray t, 2)) (h : em_do (L, xs) ix (.newarray t) (pc + 2) lc st M = some (.inl (pc', lc', st', M'))) (kk : em_K p l e R s m args below meth c Q D dA ad base L xs c0 s0 M' pc' lc' st') : em_K p l e R s m args below meth c Q D dA ad base L xs c0 s0 M pc lc st := by
  intro ls H locs hL hW hS
  unfold em_do at h
  dsimp only at h
  split at h
  · rename_i n r
    split at h
    · rename_i hk
      obtain ⟨hk, hn, hsz⟩ := hk
      cases h
      have hz := C.hsz
      have hA : ∀ q, s.heap.size ≤ q → base ≤ q := fun q hq => by omega
      rw [em_len_new] at hRc
      rw [em_sl_new] at hRs
      have main : ∀ (ty : FieldType) (t0 : Nat) (a0 : vp_A), newarray.typeOf t = ty → (em_tys dA)[t0]? = some (dA (em_ak t), ty) → (∀ cA, vp_cell cA a0 = arrV cA n.toNatClampNeg (fun _ => defaultValue ty)) → componentBytes ty ≤ 8 → em_ak t < 25 → (Sum.inl (dA (em_ak t), a0) : va_E) = em_ent ad dA (em_new M (em_ak t) n.toNatClampNeg) M.1.length (em_ak t, n.toNatClampNeg) → (∀ cA, va_RA s cA ty → va_RA s (dA (em_ak t)) ty → cA = dA (em_ak t)) → W p l e R s m args below meth c H locs (M.1.length - c0) (em_sl M - s0) Q (F0 m pc ls ((Value.int n :: r).map (em_cv ad))) := by
        intro ty t0 a0 hty ht0 hcell hcb hkd hent huniq
        have hbytes : n.toNatClampNeg * componentBytes ty ≤ 536870912 := Nat.le_trans (Nat.mul_le_mul hsz hcb) (by decide)
        rw [List.map_cons, em_cv_int]
        refine va_newa (atype := t) C.1 C.2.1 (C.tb _ (em_arw t hk).1 (em_arw t hk).2 args) hty C.kn hW.1 em_D hS hA hcell hn rfl hbytes (by omega) (by omega) hd (fun q cA H1 hK1 hP1 hD1 hS1 => ?_)
        have hcA : cA = dA (em_ak t) := huniq cA (hK1.2 5 (cA, ty) rfl).2 (C.kn.2 t0 _ ht0).2
        subst hcA
        exact em_alloc C hc hs hL hW hkd hent hP1 hD1 hS1 kk
      have zI : (fun _ => (0 : Int32)) = (em_new M (em_ak t) n.toNatClampNeg).2.1 M.1.length := by
        funext j
        exact (if_pos rfl).symm
      have zJ : (fun _ => (0 : Int64)) = (em_new M (em_ak t) n.toNatClampNeg).2.2.1 M.1.length := by
        funext j
        exact (if_pos rfl).symm
      cases t with
      | int => exact main .int 0 (n.toNatClampNeg, .inl (fun _ => 0)) rfl rfl (fun _ => rfl) (by decide) (by decide) (by rw [zI]; rfl) (fun cA h1 h2 => Option.some.inj (h1.symm.trans h2))
      | byte => exact main .byte 1 (n.toNatClampNeg, .inl (fun _ => 0)) rfl rfl (fun _ => rfl) (by decide) (by decide) (by rw [zI]; rfl) (fun cA h1 h2 => Option.some.inj (h1.symm.trans h2))
      | boolean => exact main .boolean 2 (n.toNatClampNeg, .inl (fun _ => 0)) rfl rfl (fun _ => rfl) (by decide) (by decide) (by rw [zI]; rfl) (fun cA h1 h2 => Option.some.inj (h1.symm.trans h2))
      | long => exact main .long 3 (n.toNatClampNeg, .inr (.inl (fun _ => 0))) rfl rfl (fun _ => rfl) (by decide) (by decide) (by rw [zJ]; rfl) (fun cA h1 h2 => Option.some.inj (h1.symm.trans h2))
      | _ => exact absurd rfl hk
    · cases h
  · cases h
theorem em_k_anewarray {i : Nat} (C : em_Cx D dA ad base L xs c0 p s m meth c ix) (hc : c0 ≤ M.1.length) (hs : s0 ≤ em_sl M) (hRc : M'.1.length - c0 ≤ R.cells) (hRs : em_sl M' - s0 ≤ R.slots) (hd : decode (em_cd ix) pc = .ok (.anewarray i, 3)) (h : em_do (L, xs) ix (.anewarray i) (pc + 3) lc st M = some (.inl (pc', lc', st', M'))) (kk : em_K p l e R s m args below meth c Q D dA ad base L xs c0 s0 M' pc' lc' st') : em_K p l e R s m args below meth c Q D dA ad base L xs c0 s0 M pc lc st := by
  intro ls H locs hL hW hS
  unfold em_do at h
  dsimp only at h
  split at h
  · rename_i n r
    split at h
    · rename_i hk
      obtain ⟨hk, hn, hsz⟩ := hk
      cases h
      have hz := C.hsz
      have hA : ∀ q, s.heap.size ≤ q → base ≤ q := fun q hq => by omega
      rw [em_len_new] at hRc
      rw [em_sl_new] at hRs
      have hlw := (em_clw hk).2 (Cond.classLink (em_rn (em_own ix)) i (em_rn 3)) List.mem_cons_self
      have hbytes : n.toNatClampNeg * 4 ≤ 536870912 := Nat.le_trans (Nat.mul_le_mul_right 4 hsz) (by decide)
      rw [List.map_cons, em_cv_int]
      refine va_newq (C := RX3) C.1 C.2.1 C.own (C.tb _ hlw.1 hlw.2 args) C.ao C.kn hW.1 em_D hS hA hn rfl hbytes (by omega) (by omega) hd (fun q cA H1 hK1 hP1 hD1 hS1 => ?_)
      have h1 := (hK1.2 5 (cA, .object RX3) rfl).2
      have h2 := (C.kn.2 4 (dA 24, .object RX3) rfl).2
      obtain ⟨_, _, _, _, _, g1⟩ := h1
      obtain ⟨_, _, _, _, _, g2⟩ := h2
      have hcA : cA = dA 24 := Option.some.inj (g1.symm.trans g2)
      subst hcA
      have zR : (fun _ : Nat => (none : Option Nat)) = (fun z => ((em_new M 24 n.toNatClampNeg).2.2.2 M.1.length z).map ad.1) := by
        funext j
        show none = (if M.1.length = M.1.length then none else _).map ad.1
        rw [if_pos rfl]
        rfl
      exact em_alloc C hc hs hL hW (by decide) (by rw [zR]; rfl) hP1 hD1 hS1 kk
    · cases h
  · cases h
theorem em_k_new {i : Nat} (C : em_Cx D dA ad base L xs c0 p s m meth c ix) (hc : c0 ≤ M.1.length) (hs : s0 ≤ em_sl M) (hRc : M'.1.length - c0 ≤ R.cells) (hRs : em_sl M' - s0 ≤ R.slots) (hd : decode (em_cd ix) pc = .ok (.new i, 3)) (h : em_do (L, xs) ix (.new i) (pc + 3) lc st M = some (.inl (pc', lc', st', M'))) (kk : em_K p l e R s m args below meth c Q D dA ad base L xs c0 s0 M' pc' lc' st') : em_K p l e R s m args below meth c Q D dA ad base L xs c0 s0 M pc lc st := by
  intro ls H locs hL hW hS
  unfold em_do at h
  dsimp only at h
  split at h
  · rename_i ci hk
    cases h
    have hz := C.hsz
    have hA : ∀ q, s.heap.size ≤ q → base ≤ q := fun q hq => by omega
    rw [em_len_new] at hRc
    rw [em_sl_new] at hRs
    obtain ⟨hci, hws⟩ := em_clw hk
    have w1 := hws (Cond.classLink (em_rn (em_own ix)) i (em_rn ci)) List.mem_cons_self
    have w2 := hws (Cond.instantiable (em_rn ci) (em_nf ci)) (List.mem_cons_of_mem _ List.mem_cons_self)
    have w3 := hws (Cond.initialized (em_rn ci)) (List.mem_cons_of_mem _ (List.mem_cons_of_mem _ List.mem_cons_self))
    have hfs : ∀ j, j < em_nf ci → defaultValue (em_ft ci j) = vp_V (em_fs ad (em_new M ci (em_nf ci)) M.1.length ci) j := by
      intro j hj
      have h1 := List.all_eq_true.mp (List.all_eq_true.mp em_dflt ci (List.mem_range.mpr hci)) j (List.mem_range.mpr hj)
      rw [decide_eq_true_eq] at h1
      rw [h1]
      have h2 : (em_fs ad (em_new M ci (em_nf ci)) M.1.length ci)[j]? = some (em_cv ad (em_fv (em_new M ci (em_nf ci)) M.1.length (em_tk (em_ft ci j)) j)) := by
        unfold em_fs
        rw [List.getElem?_map, List.getElem?_range hj]
        rfl
      unfold vp_V
      rw [List.getD, h2]
      show _ = em_cv ad (em_fv (em_new M ci (em_nf ci)) M.1.length (em_tk (em_ft ci j)) j)
      unfold em_fv
      have e1 : (em_new M ci (em_nf ci)).2.2.2 M.1.length j = none := if_pos rfl
      have e2 : (em_new M ci (em_nf ci)).2.1 M.1.length j = 0 := if_pos rfl
      rw [e1, e2]
      split <;> rfl
    refine va_new (ci := ci) (C := em_rn ci) (T := em_T ci) (N := em_nf ci) C.1 C.2.1 (C.uts hci) (fun w hw => hw) (em_ft ci) (em_tyok ci hci) C.own (C.tb _ w1.1 w1.2 args) (C.tb _ w2.1 w2.2 args) (C.tb _ w3.1 w3.2 args) C.kn hW.1 em_D hS hA (em_vw ci hci) hfs (by omega) (by omega) hd (fun q H1 hP1 hD1 hS1 => ?_)
    exact em_alloc C hc hs hL hW (by omega) (if_pos hci).symm hP1 hD1 hS1 kk
  · cases h
theorem em_mroom {r : List Value} (h : r.length ≤ 4) : (((r.map (em_cv ad)).map fun v => v.category).sum) ≤ 8 := Nat.le_trans (em_rsum r) (by omega)
theorem em_k_static {i : Nat} (C : em_Cx D dA ad base L xs c0 p s m meth c ix) (hf : 1 ≤ R.frames) (hl : 48 ≤ R.locals) (hRc : M'.1.length - c0 ≤ R.cells) (hRs : em_sl M' - s0 ≤ R.slots) (hd : decode (em_cd ix) pc = .ok (.invokestatic i, 3)) (h : em_do (L, xs) ix (.invokestatic i) (pc + 3) lc st M = some (.inl (pc', lc', st', M'))) (kk : em_K p l e R s m args below meth c Q D dA ad base L xs c0 s0 M' pc' lc' st') : em_K p l e R s m args below meth c Q D dA ad base L xs c0 s0 M pc lc st := by
  intro ls H locs hL hW hS
  unfold em_do at h
  dsimp only at h
  split at h
  · rename_i kd y hm
    split at h
    · cases h
    · rename_i hlen
      have hml : c.maxLocals = ls.size := by rw [C.2.2.1, hL.1]; exact (Classical.not_not.mp hlen).symm
      have hws := (em_mws hm).1
      split at h
      · rename_i hk
        subst hk
        have w := hws (by decide)
        unfold em_acp at h
        split at h
        · rename_i n dp a sp a0 r
          split at h
          · rename_i k0 n0 k1 n1 h0 h1
            split at h
            · rename_i hk
              obtain ⟨⟨rfl, rfl⟩, ⟨g1, g2, g3⟩, g4, g5, g6⟩ := hk
              cases h
              obtain ⟨j0, rfl⟩ := em_a1 hW h0 (by decide)
              obtain ⟨j, rfl⟩ := em_a1 hW h1 (by decide)
              have he0 := em_ws_at (ad := ad) (dA := dA) (base := base) h0
              have he := em_ws_at (ad := ad) (dA := dA) (base := base) h1
              have ho := em_one_C M (j0 + 1) (j + 1) sp.toNatClampNeg dp.toNatClampNeg n.toNatClampNeg
              have hr := em_mroom (ad := ad) g6
              simp only [List.map_cons, em_cv_ref, em_cv_int, C.had]
              refine va_copyi (ty := .int) C.1 C.2.1 hml C.own (C.tb _ (w _ List.mem_cons_self).1 (w _ List.mem_cons_self).2 args) (C.tb _ (w (Cond.native arraycopyName) (by simp [em_cws])).1 rfl args) (C.tb _ (w (Cond.static arraycopyName) (by simp [em_cws])).1 rfl args) (C.tb _ (w (Cond.initialized "java/lang/System") (by simp [em_cws])).1 rfl args) C.kn hW.1 em_D hS j0 j 0 0 he0 he rfl rfl rfl g1 g2 g3 g4 g5 (fun _ _ => rfl) hf (Nat.le_trans (Nat.add_le_add_right hr _) (Nat.le_trans (by decide) hl)) hd (fun H1 locs1 hP1 _ hS1 => ?_)
              have ee : (Sum.inl (dA 20, n1, Sum.inl (va_cpy (M.2.1 (j0 + 1)) (M.2.1 (j + 1)) sp.toNatClampNeg dp.toNatClampNeg n.toNatClampNeg)) : va_E) = em_ent ad dA (em_cpy M (j0 + 1) (j + 1) sp.toNatClampNeg dp.toNatClampNeg n.toNatClampNeg) (j + 1) (20, n1) := by
                show _ = (Sum.inl (dA 20, n1, Sum.inl ((em_cpy M (j0 + 1) (j + 1) sp.toNatClampNeg dp.toNatClampNeg n.toNatClampNeg).2.1 (j + 1))) : va_E)
                congr 4
                funext z
                exact (if_pos rfl).symm
              rw [ee] at hP1
              exact em_same ho.1 (kk ls H1 locs1 hL (hW.one h1 ho hP1) hS1)
            · cases h
          · cases h
        · cases h
      · split at h
        · rename_i hk
          subst hk
          have w := hws (by decide)
          unfold em_mm at h
          split at h
          · split at h
            · rename_i y x r hr
              cases h
              have hr := em_mroom (ad := ad) hr
              exact va_mmax C.1 C.2.1 hml C.own (C.tb _ (w _ List.mem_cons_self).1 (w _ List.mem_cons_self).2 args) (C.tb _ (w (Cond.static Lib.Math.max.name) (by simp [em_cws])).1 rfl args) (C.tb _ (w (Cond.initialized "java/lang/Math") (by simp [em_cws])).1 rfl args) (C.tb _ (w (Cond.code Lib.Math.max.name Lib.Math.max.code 2 (some .int)) (by simp [em_cws])).1 rfl args) hf (by omega) hRc hRs hd (kk ls H locs hL hW hS)
            · cases h
          · cases h
        · split at h
          · rename_i hk
            subst hk
            have w := hws (by decide)
            unfold em_mm at h
            split at h
            · split at h
              · rename_i y x r hr
                cases h
                have hr := em_mroom (ad := ad) hr
                exact va_mmin C.1 C.2.1 hml C.own (C.tb _ (w _ List.mem_cons_self).1 (w _ List.mem_cons_self).2 args) (C.tb _ (w (Cond.static Lib.Math.min.name) (by simp [em_cws])).1 rfl args) (C.tb _ (w (Cond.initialized "java/lang/Math") (by simp [em_cws])).1 rfl args) (C.tb _ (w (Cond.code Lib.Math.min.name Lib.Math.min.code 2 (some .int)) (by simp [em_cws])).1 rfl args) hf (by omega) hRc hRs hd (kk ls H locs hL hW hS)
              · cases h
            · cases h
          · split at h
            · unfold em_inv at h
              split at h <;> cases h
            · cases h
  · cases h
theorem em_k_special {i : Nat} (C : em_Cx D dA ad base L xs c0 p s m meth c ix) (hf : 1 ≤ R.frames) (hl : 48 ≤ R.locals) (hd : decode (em_cd ix) pc = .ok (.invokespecial i, 3)) (h : em_do (L, xs) ix (.invokespecial i) (pc + 3) lc st M = some (.inl (pc', lc', st', M'))) (kk : em_K p l e R s m args below meth c Q D dA ad base L xs c0 s0 M' pc' lc' st') : em_K p l e R s m args below meth c Q D dA ad base L xs c0 s0 M pc lc st := by
  intro ls H locs hL hW hS
  unfold em_do at h
  dsimp only at h
  split at h
  · rename_i kd y hm
    split at h
    · cases h
    · rename_i hlen
      have hml : ls.size = c.maxLocals := by rw [C.2.2.1, hL.1]; exact Classical.not_not.mp hlen
      split at h
      · rename_i hk
        subst hk
        have w := (em_mws hm).1 (by decide)
        split at h
        · split at h
          · rename_i a r hr
            cases h
            have hr := em_mroom (ad := ad) hr
            exact W.objInit C.1 C.2.1 C.own (C.tb _ (w _ List.mem_cons_self).1 (w _ List.mem_cons_self).2 args) (C.tb _ (w (Cond.instanceMethod objectInit) (by simp [em_cws])).1 rfl args) (C.tb _ (w (Cond.code objectInit ⟨#[0xb1]⟩ 1 none) (by simp [em_cws])).1 rfl args) rfl hml rfl hd hf (Nat.le_trans (Nat.add_le_add_right (lv_room (m := m) (pc := pc) (ls := ls) (rest := st'.map (em_cv ad)) hr) 12) (by omega)) (kk ls H locs hL hW hS)
          · cases h
        · cases h
      · split at h
        · unfold em_inv at h
          split at h <;> cases h
        · cases h
  · cases h
end EMK3
