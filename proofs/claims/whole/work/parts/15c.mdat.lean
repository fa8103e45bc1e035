/-! laws as data -/
abbrev ek_cd : Type := List (Nat × Nat)
abbrev ek_br : Type := ek_cd × ek_cd × ek_cd
abbrev ek_lw : Type := Option (List ek_br × ek_cd)
def ek_eu (g : Nat → Int32) (i : Nat) (x : Int32) : Nat → Int32 := fun j => if j = i then x else g j
def ek_eo (k : Nat) (a b : Int32) : Int32 := if k = 2 then a + b else if k = 3 then a - b else if k = 4 then a * b else a / b
def ek_ev (v : Nat → Int32) : ek_cd → Nat → (Nat → Int32) → Option (Nat → Int32)
  | [], _, g => some g
  | q :: c, n, g => if q.1 < 2 then ek_ev v c (n + 1) (ek_eu g n (if q.1 = 0 then nI q.2 else v q.2)) else if q.1 = 5 ∧ g (n - 1) = 0 then none else ek_ev v c (n - 1) (ek_eu g (n - 2) (ek_eo q.1 (g (n - 2)) (g (n - 1))))
/-- from depth n to depth m, at most h deep -/
def ek_wd (h : Nat) : ek_cd → Nat → Nat → Prop
  | [], n, m => n = m
  | q :: c, n, m => if q.1 < 2 then (q.1 = 1 → q.2 < 9) ∧ q.2 < 10000 ∧ n + 1 ≤ h ∧ ek_wd h c (n + 1) m else q.1 ≤ 5 ∧ 2 ≤ n ∧ ek_wd h c (n - 1) m
def ek_ex (v : Nat → Int32) (c : ek_cd) : Option Int32 := (ek_ev v c 0 (fun _ => 0)).map (fun g => g 0)
def lbr (v : Nat → Int32) : List ek_br → ek_cd → Int32
  | [], t => (ek_ex v t).getD 0
  | b :: bs, t => match ek_ex v b.1, ek_ex v b.2.1 with
    | some x, some y => if x < y then (ek_ex v b.2.2).getD 0 else lbr v bs t
    | _, _ => 0
def lsem (k : Nat) (l : ek_lw) (v : List Int32) : Int32 := match l with
  | none => if k = 0 then v.getD 0 0 else if k = 2 then 0 else 1
  | some (bs, t) => lbr (fun x => v.getD x 0) bs t
def ek_wx (c : ek_cd) : Prop := ek_wd 15 c 0 1
def ek_wl : ek_lw → Prop
  | none => True
  | some (bs, t) => (∀ b ∈ bs, ek_wx b.1 ∧ ek_wx b.2.1 ∧ ek_wx b.2.2) ∧ ek_wx t
def mcd (I : Nat → Nat → Int32) : Nat → ek_cd → Prop
  | _, [] => True
  | a, q :: c => I 309 a = nI q.1 ∧ I 310 a = nI q.2 ∧ mcd I (a + 1) c
theorem mcd.keep {I I' : Nat → Nat → Int32} {lo hi : Nat} {c : ek_cd} {a : Nat} (h : mcd I a c) (ha : lo ≤ a) (hb : a + c.length ≤ hi) (he : ∀ j, lo ≤ j → j < hi → I' 309 j = I 309 j ∧ I' 310 j = I 310 j) : mcd I' a c := by
  induction c generalizing a with
  | nil => trivial
  | cons q c ih =>
    rw [List.length_cons] at hb
    have := he a (by omega) (by omega)
    exact ⟨this.1.trans h.1, this.2.trans h.2.1, ih h.2.2 (by omega) (by omega)⟩
def mbr (I : Nat → Nat → Int32) (lo hi : Nat) : Nat → List ek_br → ek_cd → Prop
  | b, [], t => I 304 b = 0 ∧ ∃ a, lo ≤ a ∧ a + t.length ≤ hi ∧ I 307 b = nI a ∧ I 308 b = nI (a + t.length) ∧ mcd I a t
  | b, q :: bs, t => (I 304 b = 1 ∧ ∃ a, lo ≤ a ∧ a + q.1.length + q.2.1.length + q.2.2.length ≤ hi ∧ I 305 b = nI a ∧ I 306 b = nI (a + q.1.length) ∧ I 307 b = nI (a + q.1.length + q.2.1.length) ∧ I 308 b = nI (a + q.1.length + q.2.1.length + q.2.2.length) ∧ mcd I a q.1 ∧ mcd I (a + q.1.length) q.2.1 ∧ mcd I (a + q.1.length + q.2.1.length) q.2.2) ∧ mbr I lo hi (b + 1) bs t
def ml (I : Nat → Nat → Int32) (lv k : Nat) : ek_lw → Prop
  | none => I 302 (4 * lv + k) = I 303 (4 * lv + k)
  | some (bs, t) => ∃ b0, 130 * lv ≤ b0 ∧ b0 + bs.length + 1 ≤ 130 * lv + 130 ∧ I 302 (4 * lv + k) = nI b0 ∧ I 303 (4 * lv + k) = nI (b0 + bs.length + 1) ∧ mbr I (420 * lv) (420 * lv + 420) b0 bs t
def mrows : List Nat := [302, 303, 304, 305, 306, 307, 308, 309, 310]
def brows : List Nat := [304, 305, 306, 307, 308]
theorem mbr.keep {I I' : Nat → Nat → Int32} {lo hi l2 h2 : Nat} {bs : List ek_br} {t : ek_cd} {b : Nat} (h : mbr I lo hi b bs t) (hb1 : l2 ≤ b) (hb2 : b + bs.length + 1 ≤ h2) (he : ∀ j, lo ≤ j → j < hi → I' 309 j = I 309 j ∧ I' 310 j = I 310 j) (hr : ∀ a ∈ brows, ∀ j, l2 ≤ j → j < h2 → I' a j = I a j) : mbr I' lo hi b bs t := by
  induction bs generalizing b with
  | nil =>
    rw [List.length_nil] at hb2
    obtain ⟨h1, a, h2, h3, h4, h5, h6⟩ := h
    exact ⟨(hr _ (by decide) _ (by omega) (by omega)).trans h1, a, h2, h3, (hr _ (by decide) _ (by omega) (by omega)).trans h4, (hr _ (by decide) _ (by omega) (by omega)).trans h5, h6.keep h2 h3 he⟩
  | cons q bs ih =>
    rw [List.length_cons] at hb2
    obtain ⟨⟨h1, a, h2, h3, h4, h5, h6, h7, h8, h9, h10⟩, h11⟩ := h
    exact ⟨⟨(hr _ (by decide) _ (by omega) (by omega)).trans h1, a, h2, h3, (hr _ (by decide) _ (by omega) (by omega)).trans h4, (hr _ (by decide) _ (by omega) (by omega)).trans h5, (hr _ (by decide) _ (by omega) (by omega)).trans h6, (hr _ (by decide) _ (by omega) (by omega)).trans h7, h8.keep h2 (by omega) he, h9.keep (by omega) (by omega) he, h10.keep (by omega) (by omega) he⟩, ih h11 (by omega) (by omega)⟩
theorem ml.keep {I I' : Nat → Nat → Int32} {lv k : Nat} {l : ek_lw} (hk : k < 4) (h : ml I lv k l) (h1 : ∀ j, 4 * lv ≤ j → j < 4 * lv + 4 → I' 302 j = I 302 j ∧ I' 303 j = I 303 j) (he : ∀ j, 420 * lv ≤ j → j < 420 * lv + 420 → I' 309 j = I 309 j ∧ I' 310 j = I 310 j) (hr : ∀ a ∈ brows, ∀ j, 130 * lv ≤ j → j < 130 * lv + 130 → I' a j = I a j) : ml I' lv k l := by
  have hx := h1 (4 * lv + k) (by omega) (by omega)
  cases l with
  | none => exact (hx.1.trans h).trans hx.2.symm
  | some q =>
    obtain ⟨bs, t⟩ := q
    obtain ⟨b0, g1, g2, g3, g4, g5⟩ := h
    exact ⟨b0, g1, g2, hx.1.trans g3, hx.2.trans g4, g5.keep g1 (by omega) he hr⟩
theorem ml.rows {I I' : Nat → Nat → Int32} {lv k : Nat} {l : ek_lw} (hk : k < 4) (h : ml I lv k l) (he : ∀ a ∈ mrows, I' a = I a) : ml I' lv k l := h.keep hk (fun j _ _ => ⟨by rw [he _ (by decide)], by rw [he _ (by decide)]⟩) (fun j _ _ => ⟨by rw [he _ (by decide)], by rw [he _ (by decide)]⟩) (fun a ha j _ _ => by
  have hd : ∀ a ∈ brows, a ∈ mrows := by decide
  rw [he a (hd a ha)])
