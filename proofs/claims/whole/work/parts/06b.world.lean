/-! the heap of the machine and the memory of the pure one -/
def em_Tb (s : State) : Prop := ∀ w, w ∈ lw_tbl → em_okw w = true → ∀ a : Array Value, w.before a s = true
theorem em_Tb.warm {s U : State} (h : em_Tb s) (hW : s.WarmedH U.vm) : em_Tb U := by
  intro w hw ho a
  cases w with
  | fieldLinkNest a1 i b n d hh => exact va_Nw.use rfl (va_Nw.warmF hW (va_Nw.of rfl (h _ hw ho #[])))
  | methodLinkNest a1 i x hh => exact va_Nw.use rfl (va_Nw.warmM hW (va_Nw.of rfl (h _ hw ho #[])))
  | _ => exact word_at hW (good_of_word ho) (h _ hw ho #[])
theorem em_Tb.start {args : Array Value} {s : State} (h : ∀ w ∈ lw_tbl, w.before args s = true) : em_Tb s := by
  intro w hw ho a
  cases w with
  | fieldLinkNest a1 i b n d hh => exact va_Nw.use rfl (va_Nw.of rfl (h _ hw))
  | methodLinkNest a1 i x hh => exact va_Nw.use rfl (va_Nw.of rfl (h _ hw))
  | _ => exact word_at (State.WarmedH.refl s) (good_of_word ho) (h _ hw)
/-- where cells lie, and the strings of the class (by number: two strings, their bytes, the formatter) -/
abbrev em_A : Type := (Nat → Nat) × (Nat → Option Nat)
def em_cv (ad : em_A) (v : Value) : Value := match v with
  | .ref k => .ref (ad.1 k)
  | .retAddr k => va_rf (ad.2 k)
  | v => v
theorem em_rf_cat (o : Option Nat) : (va_rf o).category = 1 := by cases o <;> rfl
theorem em_cv_cat (ad : em_A) (v : Value) : (em_cv ad v).category = v.category := by
  cases v with
  | retAddr k => exact em_rf_cat _
  | _ => rfl
def em_tys (dA : Nat → ClassId) : List (ClassId × FieldType) := [(dA 20, .int), (dA 21, .byte), (dA 22, .boolean), (dA 23, .long), (dA 24, .object RX3)]
def em_tk (t : FieldType) : Nat := match t with
  | .object _ => 2
  | .array _ => 2
  | _ => 0
def em_fs (ad : em_A) (M : em_M) (a ci : Nat) : List Value := (List.range (em_nf ci)).map (fun f => em_cv ad (em_fv M a (em_tk (em_ft ci f)) f))
def em_ent (ad : em_A) (dA : Nat → ClassId) (M : em_M) (a : Nat) (sh : Nat × Nat) : va_E :=
  if sh.1 < 13 then .inr (sh.1, em_fs ad M a sh.1)
  else if sh.1 = 23 then .inl (dA 23, sh.2, .inr (.inl (M.2.2.1 a)))
  else if sh.1 = 24 then .inl (dA 24, sh.2, .inr (.inr (.inr (.inr (fun i => (M.2.2.2 a i).map ad.1)))))
  else .inl (dA sh.1, sh.2, .inl (M.2.1 a))
def em_ws (ad : em_A) (dA : Nat → ClassId) (base : Nat) (M : em_M) : va_W := (List.range (M.1.length - 1)).map (fun j => (base + j, em_ent ad dA M (j + 1) (M.1.getD (j + 1) (0, 0))))
section EMW
variable {ad : em_A} {dA : Nat → ClassId} {base : Nat} {M M' : em_M}
theorem em_ws_at {a : Nat} {sh : Nat × Nat} (h : M.1[a + 1]? = some sh) : (em_ws ad dA base M)[a]? = some (base + a, em_ent ad dA M (a + 1) sh) := by
  have h1 : a + 1 < M.1.length := (List.getElem?_eq_some_iff.mp h).1
  unfold em_ws
  rw [List.getElem?_map, List.getElem?_range (by omega)]
  simp [List.getD, h]
theorem em_ws_inv {j : Nat} {q : Nat × va_E} (h : (em_ws ad dA base M)[j]? = some q) : ∃ sh, M.1[j + 1]? = some sh ∧ q = (base + j, em_ent ad dA M (j + 1) sh) := by
  have h0 := h
  unfold em_ws at h
  have h1 : j < ((List.range (M.1.length - 1)).map (fun j => (base + j, em_ent ad dA M (j + 1) (M.1.getD (j + 1) (0, 0))))).length := (List.getElem?_eq_some_iff.mp h).1
  rw [List.length_map, List.length_range] at h1
  have h2 : M.1[j + 1]? = some (M.1[j + 1]'(by omega)) := List.getElem?_eq_getElem _
  refine ⟨_, h2, ?_⟩
  rw [em_ws_at h2] at h0
  exact (Option.some.inj h0).symm
theorem em_D : va_D (fun q => base ≤ q) (em_ws ad dA base M) := by
  refine ⟨fun i j p q hi hj hpq => ?_, fun k q hk => ?_⟩
  · obtain ⟨_, _, rfl⟩ := em_ws_inv hi
    obtain ⟨_, _, rfl⟩ := em_ws_inv hj
    dsimp only at hpq
    omega
  · obtain ⟨_, _, rfl⟩ := em_ws_inv hk
    exact Nat.le_add_right _ _
theorem em_ent_congr {a : Nat} {sh : Nat × Nat} (h1 : ∀ j, M'.2.1 a j = M.2.1 a j) (h2 : ∀ j, M'.2.2.1 a j = M.2.2.1 a j) (h3 : ∀ j, M'.2.2.2 a j = M.2.2.2 a j) : em_ent ad dA M' a sh = em_ent ad dA M a sh := by
  have e1 : M'.2.1 a = M.2.1 a := funext h1
  have e2 : M'.2.2.1 a = M.2.2.1 a := funext h2
  have e3 : M'.2.2.2 a = M.2.2.2 a := funext h3
  unfold em_ent em_fs em_fv
  rw [e1, e2, e3]
theorem em_set {a : Nat} {sh : Nat × Nat} (hs : M'.1 = M.1) (h : M.1[a + 1]? = some sh) (h1 : ∀ b, b ≠ a + 1 → ∀ j, M'.2.1 b j = M.2.1 b j) (h2 : ∀ b, b ≠ a + 1 → ∀ j, M'.2.2.1 b j = M.2.2.1 b j) (h3 : ∀ b, b ≠ a + 1 → ∀ j, M'.2.2.2 b j = M.2.2.2 b j) :
    (em_ws ad dA base M).set a (base + a, em_ent ad dA M' (a + 1) sh) = em_ws ad dA base M' := by
  apply List.ext_getElem?
  intro j
  by_cases hj : j = a
  · subst hj
    rw [em_ws_at (by rw [hs]; exact h), List.getElem?_set_self]
    exact (List.getElem?_eq_some_iff.mp (em_ws_at (ad := ad) (dA := dA) (base := base) h)).1
  · rw [List.getElem?_set_ne (Ne.symm hj)]
    cases hq : (em_ws ad dA base M)[j]? with
    | some q =>
      obtain ⟨s2, g1, rfl⟩ := em_ws_inv hq
      rw [em_ws_at (by rw [hs]; exact g1), em_ent_congr (h1 _ (by omega)) (h2 _ (by omega)) (h3 _ (by omega))]
    | none =>
      cases hq' : (em_ws ad dA base M')[j]? with
      | none => rfl
      | some q =>
        obtain ⟨s2, g1, rfl⟩ := em_ws_inv hq'
        rw [hs] at g1
        rw [em_ws_at g1] at hq
        cases hq
theorem em_grow {kd n q : Nat} {e : va_E} (hM : 1 ≤ M.1.length) (hq : q = base + (M.1.length - 1)) (he : e = em_ent ad dA (em_new M kd n) M.1.length (kd, n)) : em_ws ad dA base M ++ [(q, e)] = em_ws ad dA base (em_new M kd n) := by
  have hl : (em_ws ad dA base M).length = M.1.length - 1 := by unfold em_ws; rw [List.length_map, List.length_range]
  have hnew : ∀ b, b ≠ M.1.length → (∀ j, (em_new M kd n).2.1 b j = M.2.1 b j) ∧ (∀ j, (em_new M kd n).2.2.1 b j = M.2.2.1 b j) ∧ ∀ j, (em_new M kd n).2.2.2 b j = M.2.2.2 b j := fun b hb => ⟨fun j => if_neg hb, fun j => if_neg hb, fun j => if_neg hb⟩
  apply List.ext_getElem?
  intro j
  rcases Nat.lt_trichotomy j (M.1.length - 1) with hj | hj | hj
  · rw [List.getElem?_append_left (by omega)]
    have h2 : M.1[j + 1]? = some (M.1[j + 1]'(by omega)) := List.getElem?_eq_getElem _
    have h3 : (em_new M kd n).1[j + 1]? = some (M.1[j + 1]'(by omega)) := by
      show (M.1 ++ [(kd, n)])[j + 1]? = _
      rw [List.getElem?_append_left (by omega)]
      exact h2
    obtain ⟨a1, a2, a3⟩ := hnew (j + 1) (by omega)
    rw [em_ws_at h2, em_ws_at h3, em_ent_congr a1 a2 a3]
  · subst hj
    have h3 : (em_new M kd n).1[M.1.length - 1 + 1]? = some (kd, n) := by
      show (M.1 ++ [(kd, n)])[M.1.length - 1 + 1]? = _
      rw [show M.1.length - 1 + 1 = M.1.length by omega, List.getElem?_append_right (Nat.le_refl _)]
      simp
    rw [em_ws_at h3, List.getElem?_append_right (by omega), hl, hq, he]
    simp [show M.1.length - 1 + 1 = M.1.length by omega]
  · rw [List.getElem?_eq_none (by rw [List.length_append, hl]; simp; omega)]
    cases hq' : (em_ws ad dA base (em_new M kd n))[j]? with
    | none => rfl
    | some x =>
      obtain ⟨s2, g1, -⟩ := em_ws_inv hq'
      have : j + 1 < (M.1 ++ [(kd, n)]).length := (List.getElem?_eq_some_iff.mp g1).1
      simp at this
      omega
end EMW
/-- the world: the cells hold the memory; the script is number 0 -/
def em_Wd (D : va_G) (dA : Nat → ClassId) (ad : em_A) (base : Nat) (M : em_M) (H : Heap) : Prop :=
  va_P D vwCl (em_ws ad dA base M) H ∧ M.1[0]? = some (30, 0) ∧ ∀ j sh, M.1[j + 1]? = some sh → sh.1 < 25
def em_sl (M : em_M) : Nat := (M.1.map (fun q => q.2)).sum
/-- the strings of the class, their bytes, two statics of the JDK -/
def em_St (sv : Nat → Option Nat) (A : Nat → Prop) (U : State) (H : Heap) : Prop := ∃ adK adV : Nat → Nat, vk_S 2 em_len em_byt adK adV A U H ∧ (∀ k, k < 2 → sv k = some (adK k) ∧ sv (k + 2) = some (adV k) ∧ vk_R (em_so k) (em_si k) (em_stx k) (adK k) U) ∧ va_Z "java/lang/String" "COMPACT_STRINGS" "Z" (.int 1) A U H ∧ va_Z "jdk/internal/util/Preconditions" "SIOOBE_FORMATTER" "Ljava/util/function/BiFunction;" (va_rf (sv 4)) A U H
theorem em_St.next {sv : Nat → Option Nat} {A : Nat → Prop} {s U : State} {H : Heap} {locs : List Loc} (h : em_St sv A s s.heap) (hW : s.WarmedH U.vm) (hU : U.heap = H) (hS : va_S A s.heap H locs) : em_St sv A U U.heap := by
  obtain ⟨adK, adV, h1, h2, h3, h4⟩ := h
  have hk : ∀ a : Nat, a < s.heap.size → ¬ A a → U.heap[a]? = s.heap[a]? := fun a g1 g2 => by rw [hU]; exact hS.2.1 a g1 g2
  exact ⟨adK, adV, (h1.kept hk).moved hW.alike, fun k hk2 => ⟨(h2 k hk2).1, (h2 k hk2).2.1, (h2 k hk2).2.2.warm hW⟩, (h3.kept hk).moved hW.alike, (h4.kept hk).moved hW.alike⟩
theorem em_St.call {sv : Nat → Option Nat} {A : Nat → Prop} {U : State} {g : JFrame} {mk : MethodId} {a : Array Value} (h : em_St sv A U U.heap) : em_St sv A (U.calling g mk a) (U.calling g mk a).heap := em_St.next (U := U.calling g mk a) (locs := []) h (State.WarmedH.refl U) rfl va_S.rf
/-- what stands through a method -/
def em_Cx (D : va_G) (dA : Nat → ClassId) (ad : em_A) (base L : Nat) (xs : Nat → Int32) (c0 : Nat) (p : Program) (s : State) (m : MethodId) (meth : Method) (c : Code) (ix : Nat) : Prop :=
  p.tables.exec = Jvm.exec ∧ c.code = em_cd ix ∧ c.maxLocals = em_mx ix ∧ s.vm.findClass (em_rn (em_own ix)) = some m.cls ∧ em_Tb s ∧ va_K D vwCl (em_tys dA) s ∧ va_AO RX3 s ∧ (em_isi ix = true → meth.name = "<init>") ∧
  (∀ j, ad.1 (j + 1) = base + j) ∧ (s.heap.size + 1 = base + c0 ∧ 1 ≤ c0) ∧ em_St ad.2 (fun q => base ≤ q) s s.heap ∧ (ix = em_law → va_X (ad.1 0) L xs s s.heap ∧ ad.1 0 < s.heap.size ∧ ad.1 0 < base)
def em_Lr (ad : em_A) (ls : Array Slot) (lc : em_L) : Prop := ls.size = lc.length ∧ lv_wf ls ∧ ∀ (i : Nat) (v : Value), lc[i]? = some (some v) → ls[i]? = some (Slot.val (em_cv ad v))
def em_al (ad : em_A) (lc : em_L) : List (Nat × Value) := (List.range lc.length).filterMap (fun i => match lc[i]? with
  | some (some v) => some (i, em_cv ad v)
  | _ => none)
theorem em_al_mem {ad : em_A} {lc : em_L} {i : Nat} {v : Value} (h : lc[i]? = some (some v)) : (i, em_cv ad v) ∈ em_al ad lc := by
  refine List.mem_filterMap.mpr ⟨i, List.mem_range.mpr (List.getElem?_eq_some_iff.mp h).1, ?_⟩
  rw [h]
theorem em_al_inv {ad : em_A} {lc : em_L} {q : Nat × Value} (h : q ∈ em_al ad lc) : ∃ v, lc[q.1]? = some (some v) ∧ q.2 = em_cv ad v := by
  obtain ⟨i, -, hi⟩ := List.mem_filterMap.mp h
  split at hi
  · rename_i v hv
    cases hi
    exact ⟨v, hv, rfl⟩
  · cases hi
theorem em_Lr.has {ad : em_A} {ls : Array Slot} {lc : em_L} (h : em_Lr ad ls lc) : lv_has ls lc.length (em_al ad lc) := by
  refine ⟨h.1, h.2.1, fun q hq => ?_⟩
  obtain ⟨v, h1, h2⟩ := em_al_inv hq
  rw [h2]
  exact h.2.2 _ _ h1
theorem em_kl_len (lc : em_L) (i : Nat) : (em_kl lc i).length = lc.length := by
  unfold em_kl
  split
  · rfl
  · split
    · split
      · exact List.length_set
      · rfl
    · rfl
theorem em_kl_at {lc : em_L} {i j : Nat} {v : Value} (h : (em_kl lc i)[j]? = some (some v)) : lc[j]? = some (some v) ∧ (j + 1 = i → ¬ v.category = 2) := by
  unfold em_kl at h
  split at h
  · exact ⟨h, fun q => by omega⟩
  · rename_i k
    split at h
    · rename_i w hw
      split at h
      · rename_i hc
        by_cases hj : k = j
        · subst hj
          rw [List.getElem?_set_self (List.getElem?_eq_some_iff.mp hw).1] at h
          cases h
        · rw [List.getElem?_set_ne hj] at h
          exact ⟨h, fun q => by omega⟩
      · rename_i hc
        refine ⟨h, fun q => ?_⟩
        have e : j = k := by omega
        subst e
        rw [hw] at h
        cases h
        exact hc
    · rename_i hn
      refine ⟨h, fun q => ?_⟩
      have e : j = k := by omega
      subst e
      exact absurd h (hn v)
theorem em_Lr.st1 {ad : em_A} {ls' : Array Slot} {lc : em_L} {i : Nat} {v : Value} (hi : i < lc.length) (h' : lv_has ls' lc.length ((i, em_cv ad v) :: (em_al ad lc).filter (fun q => !(q.1 == i) && !(q.1 + 1 == i && q.2.category == 2)))) : em_Lr ad ls' (em_s1 lc i v) := by
  have hl : (em_s1 lc i v).length = lc.length := by unfold em_s1; rw [List.length_set, em_kl_len]
  refine ⟨by rw [hl]; exact h'.1, h'.2.1, fun j w hj => ?_⟩
  unfold em_s1 at hj
  by_cases e : i = j
  · subst e
    rw [List.getElem?_set_self (by rw [em_kl_len]; exact hi)] at hj
    cases hj
    exact h'.2.2 (i, em_cv ad v) List.mem_cons_self
  · rw [List.getElem?_set_ne e] at hj
    obtain ⟨g1, g2⟩ := em_kl_at hj
    refine h'.2.2 (j, em_cv ad w) (List.mem_cons_of_mem _ (List.mem_filter.mpr ⟨em_al_mem g1, ?_⟩))
    dsimp only
    rw [em_cv_cat]
    have e1 : (j == i) = false := by simpa using (Ne.symm e)
    rw [e1]
    by_cases e2 : j + 1 = i
    · have := g2 e2
      simp [this]
    · simp [e2]
theorem em_Lr.st2 {ad : em_A} {ls' : Array Slot} {lc : em_L} {i : Nat} {v : Value} (hi : i + 1 < lc.length) (h' : lv_has ls' lc.length ((i, em_cv ad v) :: (em_al ad lc).filter (fun q => !(q.1 == i) && (!(q.1 == i + 1) && !(q.1 + 1 == i && q.2.category == 2))))) : em_Lr ad ls' (em_s2 lc i v) := by
  have hl : (em_s2 lc i v).length = lc.length := by unfold em_s2; rw [List.length_set, List.length_set, em_kl_len]
  refine ⟨by rw [hl]; exact h'.1, h'.2.1, fun j w hj => ?_⟩
  unfold em_s2 at hj
  by_cases e0 : i + 1 = j
  · subst e0
    rw [List.getElem?_set_self (by rw [List.length_set, em_kl_len]; exact hi)] at hj
    cases hj
  · rw [List.getElem?_set_ne e0] at hj
    by_cases e : i = j
    · subst e
      rw [List.getElem?_set_self (by rw [em_kl_len]; omega)] at hj
      cases hj
      exact h'.2.2 (i, em_cv ad v) List.mem_cons_self
    · rw [List.getElem?_set_ne e] at hj
      obtain ⟨g1, g2⟩ := em_kl_at hj
      refine h'.2.2 (j, em_cv ad w) (List.mem_cons_of_mem _ (List.mem_filter.mpr ⟨em_al_mem g1, ?_⟩))
      dsimp only
      rw [em_cv_cat]
      have e1 : (j == i) = false := by simpa using (Ne.symm e)
      have e3 : (j == i + 1) = false := by simpa using (Ne.symm e0)
      rw [e1, e3]
      by_cases e2 : j + 1 = i
      · have := g2 e2
        simp [this]
      · simp [e2]
theorem em_la_at {ad : em_A} : ∀ (vs : List Value) (k j : Nat) (v : Value), (em_la vs)[j]? = some (some v) → (k + j, em_cv ad v) ∈ lv_args k (vs.map (em_cv ad))
  | [], k, j, v, h => by cases h
  | u :: vs, k, j, v, h => by
    unfold em_la at h
    rw [List.map_cons, lv_args, em_cv_cat]
    split at h
    · rename_i hc
      rw [if_pos hc]
      match j, h with
      | 0, h => cases h; exact List.mem_cons_self
      | 1, h => cases h
      | j + 2, h =>
        refine List.mem_cons_of_mem _ ?_
        have := em_la_at (ad := ad) vs (k + 2) j v h
        rw [show k + (j + 2) = k + 2 + j by omega]
        exact this
    · rename_i hc
      rw [if_neg hc]
      match j, h with
      | 0, h => cases h; exact List.mem_cons_self
      | j + 1, h =>
        refine List.mem_cons_of_mem _ ?_
        have := em_la_at (ad := ad) vs (k + 1) j v h
        rw [show k + (j + 1) = k + 1 + j by omega]
        exact this
theorem em_la_len {ad : em_A} : ∀ vs : List Value, (lg_sl (vs.map (em_cv ad))).length = (em_la vs).length
  | [] => rfl
  | u :: vs => by
    have ih := em_la_len (ad := ad) vs
    unfold lg_sl at ih ⊢
    rw [List.map_cons, List.flatMap_cons, List.length_append, ih, em_cv_cat]
    show _ = (if u.category = 2 then some u :: none :: em_la vs else some u :: em_la vs).length
    split <;> simp <;> omega
theorem em_Lr.entry {ad : em_A} {y : Nat} {as : List Value} (h : (em_la as).length ≤ em_mx y) : em_Lr ad ((lg_sl (as.map (em_cv ad)) ++ List.replicate (em_mx y - (lg_sl (as.map (em_cv ad))).length) Slot.unset).toArray) (em_loc y as) := by
  have h0 := lv_entry (as.map (em_cv ad)) (n := em_mx y) (by rw [em_la_len]; exact h)
  refine ⟨?_, h0.2.1, fun i v hi => ?_⟩
  · rw [h0.1]
    unfold em_loc
    rw [List.length_append, List.length_replicate]
    omega
  · unfold em_loc at hi
    have hlt : i < (em_la as).length := by
      rcases Nat.lt_or_ge i (em_la as).length with h1 | h1
      · exact h1
      · rw [List.getElem?_append_right h1] at hi
        have h2 := List.getElem?_eq_some_iff.mp hi
        obtain ⟨h3, h4⟩ := h2
        rw [List.getElem_replicate] at h4
        cases h4
    rw [List.getElem?_append_left hlt] at hi
    have := em_la_at (ad := ad) as 0 i v hi
    rw [Nat.zero_add] at this
    exact h0.2.2 _ this
