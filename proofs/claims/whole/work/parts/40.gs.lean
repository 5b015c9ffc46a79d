/-! THE STATE of both: what a caller can tell apart -/
abbrev Sta : Type := Nat → Int32
/-- now; FIGHTERS; SEATS; SWORD; THE TEXT; the ROW; the RULE's steps; undone, kept; the wall; what was heard -/
abbrev GS : Type := Sta × (Nat × (Nat → Nat → Int32)) × (Nat × (Nat → Nat → Int32)) × Int32 × (Nat × (Nat → Int32)) × List Int64 × List Int32 × (List Sta × (Nat → Option Sta)) × (Nat × (Nat → Int32)) × (Nat × (Nat → Int32) × (Nat → Int32))
abbrev gS (g : GS) : Sta := g.1
abbrev gN (g : GS) : Nat := g.2.1.1
abbrev gR (g : GS) : Nat → Nat → Int32 := g.2.1.2
abbrev gM (g : GS) : Nat := g.2.2.1.1
abbrev gE (g : GS) : Nat → Nat → Int32 := g.2.2.1.2
abbrev gW (g : GS) : Int32 := g.2.2.2.1
abbrev gTn (g : GS) : Nat := g.2.2.2.2.1.1
abbrev gT (g : GS) : Nat → Int32 := g.2.2.2.2.1.2
abbrev gL (g : GS) : List Int64 := g.2.2.2.2.2.1
abbrev gC (g : GS) : List Int32 := g.2.2.2.2.2.2.1
abbrev gP (g : GS) : List Sta := g.2.2.2.2.2.2.2.1.1
abbrev gK (g : GS) : Nat → Option Sta := g.2.2.2.2.2.2.2.1.2
abbrev gV (g : GS) : Nat := g.2.2.2.2.2.2.2.2.1.1
abbrev gA (g : GS) : Nat → Int32 := g.2.2.2.2.2.2.2.2.1.2
abbrev gH (g : GS) : Nat := g.2.2.2.2.2.2.2.2.2.1
abbrev gHk (g : GS) : Nat → Int32 := g.2.2.2.2.2.2.2.2.2.2.1
abbrev gHv (g : GS) : Nat → Int32 := g.2.2.2.2.2.2.2.2.2.2.2
abbrev uS (g : GS) (s : Sta) : GS := (s, g.2)
abbrev uR (g : GS) (r : Nat × (Nat → Nat → Int32)) : GS := (g.1, r, g.2.2)
abbrev uE (g : GS) (r : Nat × (Nat → Nat → Int32)) : GS := (g.1, g.2.1, r, g.2.2.2)
abbrev uW (g : GS) (x : Int32) : GS := (g.1, g.2.1, g.2.2.1, x, g.2.2.2.2)
abbrev uT (g : GS) (t : Nat × (Nat → Int32)) : GS := (g.1, g.2.1, g.2.2.1, g.2.2.2.1, t, g.2.2.2.2.2)
abbrev uL (g : GS) (l : List Int64) : GS := (g.1, g.2.1, g.2.2.1, g.2.2.2.1, g.2.2.2.2.1, l, g.2.2.2.2.2.2)
abbrev uC (g : GS) (c : List Int32) : GS := (g.1, g.2.1, g.2.2.1, g.2.2.2.1, g.2.2.2.2.1, g.2.2.2.2.2.1, c, g.2.2.2.2.2.2.2)
abbrev uP (g : GS) (p : List Sta) : GS := (g.1, g.2.1, g.2.2.1, g.2.2.2.1, g.2.2.2.2.1, g.2.2.2.2.2.1, g.2.2.2.2.2.2.1, (p, g.2.2.2.2.2.2.2.1.2), g.2.2.2.2.2.2.2.2)
abbrev uK (g : GS) (k : Nat → Option Sta) : GS := (g.1, g.2.1, g.2.2.1, g.2.2.2.1, g.2.2.2.2.1, g.2.2.2.2.2.1, g.2.2.2.2.2.2.1, (g.2.2.2.2.2.2.2.1.1, k), g.2.2.2.2.2.2.2.2)
abbrev uA (g : GS) (w : Nat × (Nat → Int32)) : GS := (g.1, g.2.1, g.2.2.1, g.2.2.2.1, g.2.2.2.2.1, g.2.2.2.2.2.1, g.2.2.2.2.2.2.1, g.2.2.2.2.2.2.2.1, w, g.2.2.2.2.2.2.2.2.2)
abbrev uH (g : GS) (w : Nat × (Nat → Int32) × (Nat → Int32)) : GS := (g.1, g.2.1, g.2.2.1, g.2.2.2.1, g.2.2.2.2.1, g.2.2.2.2.2.1, g.2.2.2.2.2.2.1, g.2.2.2.2.2.2.2.1, g.2.2.2.2.2.2.2.2.1, w)
/-- the crowd spares, with so much FAVOUR -/
def spG (g : GS) (fav won home : Int32) : Bool := spB (gE g 0) (gE g 2) (gE g 4) (gM g) fav won home
/-- the least FAVOUR that is spared (100: none) -/
def lsG (g : GS) : Nat := lsF (fun v => spG g (nI v) (nI 0) (nI 0)) 100 0
def klF (K : Nat → Option Sta) : Nat := (if (K 0).isSome = true then 1 else 0) + (if (K 1).isSome = true then 2 else 0)
/-- sizes -/
def Sz (g : GS) : Prop := gN g ≤ 8 ∧ gM g ≤ 8 ∧ gTn g ≤ 80 ∧ (gL g).length ≤ 8 ∧ (gP g).length ≤ 12 ∧ gV g ≤ 20 ∧ gH g ≤ 12 ∧ RoK (gR g) (gN g) ∧ Good (gC g) ∧ 1 ≤ (gC g).length ∧ (gC g).length ≤ 40
/-- the class's heap holds it -/
def c1 (h : Hp) (g : GS) : Prop := h.1 33 0 = gS g ∧ h.1 0 0 4 = gW g
def c2 (h : Hp) (g : GS) : Prop := h.1 3 0 1 = nI 62 ∧ h.1 3 0 3 = nI (gN g) ∧ ro h 0 = gR g
def c3 (h : Hp) (g : GS) : Prop := h.1 3 1 1 = nI 76 ∧ h.1 3 1 3 = nI (gM g) ∧ ro h 1 = gE g ∧ h.1 1 0 1 = nI (lsG g)
def c4 (h : Hp) (g : GS) : Prop := h.1 9 0 1 = nI (gTn g) ∧ h.1 34 0 = gT g
def c5 (h : Hp) (g : GS) : Prop := h.1 5 0 1 = nI (gL g).length ∧ ∀ j x, (gL g)[j]? = some x → h.2.1 25 j = x
def c6 (h : Hp) (g : GS) : Prop := h.2.2 0 < 2 ∧ h.2.2 1 = 1 - h.2.2 0 ∧ h.1 6 (h.2.2 0) 2 = nI (gC g).length ∧ ∃ q, h.1 26 (h.2.2 0) = lyS q 0 (gC g)
def c7 (h : Hp) (g : GS) : Prop := ∃ f, f < 12 ∧ h.1 4 0 2 = nI f ∧ h.1 4 0 3 = nI (gP g).length ∧ ∀ j st, (gP g)[j]? = some st → h.1 33 (3 + (f + j) % 12) = st
def c8 (h : Hp) (g : GS) : Prop := h.1 4 0 4 = nI (klF (gK g)) ∧ ∀ j, j < 2 → ∀ st, gK g j = some st → h.1 33 (15 + j) = st
def c9 (h : Hp) (g : GS) : Prop := h.1 10 0 4 = nI (gV g) ∧ h.1 35 0 = gA g
def c10 (h : Hp) (g : GS) : Prop := h.1 2 0 2 = nI (gH g) ∧ h.1 20 0 = gHk g ∧ h.1 21 0 = gHv g
def CI (h : Hp) (g : GS) : Prop := c1 h g ∧ c2 h g ∧ c3 h g ∧ c4 h g ∧ c5 h g ∧ c6 h g ∧ c7 h g ∧ c8 h g ∧ c9 h g ∧ c10 h g
/-- rows that nothing shows -/
def scrL : List Ad := [(27, 0), (27, 1), (33, 1), (33, 2), (33, 17), (33, 18), (33, 19), (33, 20), (33, 21), (7, 0), (29, 0), (30, 0), (31, 0), (32, 0), (36, 0), (37, 0)]
theorem CI.scr {S : List Ad} {h h' : Hp} {g : GS} (a : CI h g) (f : Fr S h h') (hS : ∀ x, x ∈ S → x ∈ scrL) : CI h' g := by
  have f := f.mo hS
  have n : ∀ k i, (k, i) ∉ scrL → h'.1 k i = h.1 k i := f.2
  have h6 : ∀ b, h'.1 6 b = h.1 6 b := fun b => n 6 b (by simp [scrL])
  have h26 : ∀ b, h'.1 26 b = h.1 26 b := fun b => n 26 b (by simp [scrL])
  have hr : ∀ q, ro h' q = ro h q := fun q => funext fun p => n 38 _ (by simp [scrL])
  have hs : ∀ j, 3 ≤ j → j < 17 → h'.1 33 j = h.1 33 j := fun j h1 h2 => n 33 j (by simp [scrL]; omega)
  have l2 : h'.2 = h.2 := f.1
  obtain ⟨a1, a2, a3, a4, a5, a6, a7, a8, a9, a10⟩ := a
  refine ⟨?_, ?_, ?_, ?_, ?_, ?_, ?_, ?_, ?_, ?_⟩
  · unfold c1; rw [n 33 0 (by simp [scrL]), n 0 0 (by simp [scrL])]; exact a1
  · unfold c2; rw [n 3 0 (by simp [scrL]), hr]; exact a2
  · unfold c3; rw [n 3 1 (by simp [scrL]), hr, n 1 0 (by simp [scrL])]; exact a3
  · unfold c4; rw [n 9 0 (by simp [scrL]), n 34 0 (by simp [scrL])]; exact a4
  · unfold c5; rw [n 5 0 (by simp [scrL]), l2]; exact a5
  · unfold c6; rw [l2, h6, h26]; exact a6
  · obtain ⟨f0, k1, k2, k3, k4⟩ := a7
    refine ⟨f0, k1, ?_, ?_, fun j st hj => ?_⟩
    · rw [n 4 0 (by simp [scrL]), k2]
    · rw [n 4 0 (by simp [scrL]), k3]
    · rw [hs _ (by omega) (by omega)]; exact k4 j st hj
  · refine ⟨?_, fun j hj st e => ?_⟩
    · rw [n 4 0 (by simp [scrL])]; exact a8.1
    · rw [hs _ (by omega) (by omega)]; exact a8.2 j hj st e
  · unfold c9; rw [n 10 0 (by simp [scrL]), n 35 0 (by simp [scrL])]; exact a9
  · unfold c10; rw [n 2 0 (by simp [scrL]), n 20 0 (by simp [scrL]), n 21 0 (by simp [scrL])]; exact a10
/-- what stays where only some rows change -/
theorem CI.with {S : List Ad} {h h' : Hp} {g g' : GS} (a : CI h g) (f : ∀ k i, (k, i) ∉ S → h'.1 k i = h.1 k i) (f2 : h'.2 = h.2)
    (e1 : ((33, 0) ∉ S ∧ (0, 0) ∉ S ∧ gS g' = gS g ∧ gW g' = gW g) ∨ c1 h' g') (e2 : ((3, 0) ∉ S ∧ (∀ p, (38, 5 * 0 + p) ∉ S) ∧ g'.2.1 = g.2.1) ∨ c2 h' g') (e3 : ((3, 1) ∉ S ∧ (∀ p, (38, 5 * 1 + p) ∉ S) ∧ (1, 0) ∉ S ∧ g'.2.2.1 = g.2.2.1) ∨ c3 h' g')
    (e4 : ((9, 0) ∉ S ∧ (34, 0) ∉ S ∧ g'.2.2.2.2.1 = g.2.2.2.2.1) ∨ c4 h' g') (e5 : ((5, 0) ∉ S ∧ gL g' = gL g) ∨ c5 h' g') (e6 : ((∀ b, (6, b) ∉ S) ∧ (∀ b, (26, b) ∉ S) ∧ gC g' = gC g) ∨ c6 h' g')
    (e7 : ((4, 0) ∉ S ∧ (∀ j, 3 ≤ j → j < 15 → (33, j) ∉ S) ∧ gP g' = gP g) ∨ c7 h' g') (e8 : ((4, 0) ∉ S ∧ (∀ j, 15 ≤ j → j < 17 → (33, j) ∉ S) ∧ gK g' = gK g) ∨ c8 h' g') (e9 : ((10, 0) ∉ S ∧ (35, 0) ∉ S ∧ g'.2.2.2.2.2.2.2.2.1 = g.2.2.2.2.2.2.2.2.1) ∨ c9 h' g') (e10 : ((2, 0) ∉ S ∧ (20, 0) ∉ S ∧ (21, 0) ∉ S ∧ g'.2.2.2.2.2.2.2.2.2 = g.2.2.2.2.2.2.2.2.2) ∨ c10 h' g') : CI h' g' := by
  have hr : ∀ q, (∀ p, (38, 5 * q + p) ∉ S) → ro h' q = ro h q := fun q hq => funext fun p => f 38 _ (hq p)
  obtain ⟨a1, a2, a3, a4, a5, a6, a7, a8, a9, a10⟩ := a
  refine ⟨?_, ?_, ?_, ?_, ?_, ?_, ?_, ?_, ?_, ?_⟩
  · rcases e1 with ⟨x1, x2, x3, x4⟩ | e
    · unfold c1; rw [f 33 0 x1, f 0 0 x2, x3, x4]; exact a1
    · exact e
  · rcases e2 with ⟨x1, x2, x3⟩ | e
    · unfold c2 gN gR; rw [f 3 0 x1, hr 0 x2, x3]; exact a2
    · exact e
  · rcases e3 with ⟨x1, x2, x3, x4⟩ | e
    · have : lsG g' = lsG g := by unfold lsG spG gE gM; rw [x4]
      unfold c3 gM gE; rw [this, f 3 1 x1, hr 1 x2, f 1 0 x3, x4]; exact a3
    · exact e
  · rcases e4 with ⟨x1, x2, x3⟩ | e
    · unfold c4 gTn gT; rw [f 9 0 x1, f 34 0 x2, x3]; exact a4
    · exact e
  · rcases e5 with ⟨x1, x2⟩ | e
    · unfold c5; rw [f 5 0 x1, f2, x2]; exact a5
    · exact e
  · rcases e6 with ⟨x1, x2, x3⟩ | e
    · unfold c6; rw [f2, f 6 _ (x1 _), f 26 _ (x2 _), x3]; exact a6
    · exact e
  · rcases e7 with ⟨x1, x2, x3⟩ | e
    · obtain ⟨f0, k1, k2, k3, k4⟩ := a7
      refine ⟨f0, k1, ?_, ?_, fun j st hj => ?_⟩
      · rw [f 4 0 x1, k2]
      · rw [f 4 0 x1, k3, x3]
      · rw [f 33 _ (x2 _ (by omega) (by omega))]; exact k4 j st (by rw [← x3]; exact hj)
    · exact e
  · rcases e8 with ⟨x1, x2, x3⟩ | e
    · refine ⟨?_, fun j hj st e => ?_⟩
      · rw [f 4 0 x1, x3]; exact a8.1
      · rw [f 33 _ (x2 _ (by omega) (by omega))]; exact a8.2 j hj st (by rw [← x3]; exact e)
    · exact e
  · rcases e9 with ⟨x1, x2, x3⟩ | e
    · unfold c9 gV gA; rw [f 10 0 x1, f 35 0 x2, x3]; exact a9
    · exact e
  · rcases e10 with ⟨x1, x2, x3, x4⟩ | e
    · unfold c10 gH gHk gHv; rw [f 2 0 x1, f 20 0 x2, f 21 0 x3, x4]; exact a10
    · exact e
/-- now changes -/
theorem CI.now {h : Hp} {g : GS} {s : Sta} (a : CI h g) : CI (sV h 33 0 s) (uS g s) := by
  refine a.with (S := [(33, 0)]) (fun k i n => by rw [rdV, if_neg (fun z => n (by rw [z.1, z.2]; simp))]) rfl (Or.inr ⟨sV_same, ?_⟩) (Or.inl ⟨by simp, by simp, rfl⟩) (Or.inl ⟨by simp, by simp, by simp, rfl⟩) (Or.inl ⟨by simp, by simp, rfl⟩) (Or.inl ⟨by simp, rfl⟩) (Or.inl ⟨by simp, by simp, rfl⟩) (Or.inl ⟨by simp, fun j _ _ => by simp; omega, rfl⟩) (Or.inl ⟨by simp, fun j _ _ => by simp; omega, rfl⟩) (Or.inl ⟨by simp, by simp, rfl⟩) (Or.inl ⟨by simp, by simp, by simp, rfl⟩)
  rw [rdV, if_neg (by simp)]
  exact a.1.2
/-- the ROW -/
theorem CI.clr {h : Hp} {g : GS} (a : CI h g) : CI (sX h 5 0 1 (nI 0)) (uL g []) := by
  refine a.with (S := [(5, 0)]) (fun k i n => by rw [sX_row, if_neg (fun z => n (by rw [z.1, z.2]; simp))]) rfl (Or.inl ⟨by simp, by simp, rfl, rfl⟩) (Or.inl ⟨by simp, by simp, rfl⟩) (Or.inl ⟨by simp, by simp, by simp, rfl⟩) (Or.inl ⟨by simp, by simp, rfl⟩) (Or.inr ⟨?_, fun j x hj => by have hj' : ([] : List Int64)[j]? = some x := hj; simp at hj'⟩) (Or.inl ⟨by simp, by simp, rfl⟩) (Or.inl ⟨by simp, fun j _ _ => by simp, rfl⟩) (Or.inl ⟨by simp, fun j _ _ => by simp, rfl⟩) (Or.inl ⟨by simp, by simp, rfl⟩) (Or.inl ⟨by simp, by simp, by simp, rfl⟩)
  rw [rdX, if_pos (by simp)]
  rfl
theorem CI.add {h : Hp} {g : GS} {x : Int64} (a : CI h g) : CI (rAdd h (gL g).length x) (uL g (gL g ++ [x])) := by
  have fx : ∀ k i, (k, i) ≠ (5, 0) → (rAdd h (gL g).length x).1 k i = h.1 k i := fun k i n => by
    unfold rAdd
    rw [sX_row, if_neg (fun z => n (by rw [z.1, z.2]))]
    rfl
  have f2 : (rAdd h (gL g).length x).2.2 = h.2.2 := rfl
  have hr : ∀ q, ro (rAdd h (gL g).length x) q = ro h q := fun q => funext fun p => fx 38 _ (by simp)
  obtain ⟨a1, a2, a3, a4, a5, a6, a7, a8, a9, a10⟩ := a
  refine ⟨?_, ?_, ?_, ?_, ?_, ?_, ?_, ?_, ?_, ?_⟩
  · unfold c1; rw [fx 33 0 (by simp), fx 0 0 (by simp)]; exact a1
  · unfold c2; rw [fx 3 0 (by simp), hr]; exact a2
  · unfold c3; rw [fx 3 1 (by simp), hr, fx 1 0 (by simp)]; exact a3
  · unfold c4; rw [fx 9 0 (by simp), fx 34 0 (by simp)]; exact a4
  · refine ⟨?_, fun j y hj => ?_⟩
    · rw [rAdd_size]; show _ = nI (gL g ++ [x]).length; rw [List.length_append]; rfl
    · show (if 25 = 25 then vp_updL (h.2.1 25) (gL g).length x else h.2.1 25) j = y
      rw [if_pos rfl]
      unfold vp_updL
      have hj' : (gL g ++ [x])[j]? = some y := hj
      by_cases c : j < (gL g).length
      · rw [List.getElem?_append_left c] at hj'
        rw [if_neg (by omega)]
        exact a5.2 j y hj'
      · rw [List.getElem?_append_right (by omega)] at hj'
        have : j - (gL g).length = 0 := by
          have := (List.getElem?_eq_some_iff.mp hj').1
          simp at this
          omega
        rw [this] at hj'
        cases hj'
        rw [if_pos (by omega)]
  · unfold c6; rw [f2, fx 6 _ (by simp), fx 26 _ (by simp)]; exact a6
  · obtain ⟨f0, k1, k2, k3, k4⟩ := a7
    refine ⟨f0, k1, ?_, ?_, fun j st hj => ?_⟩
    · rw [fx 4 0 (by simp), k2]
    · rw [fx 4 0 (by simp), k3]
    · rw [fx 33 _ (by simp)]; exact k4 j st hj
  · refine ⟨?_, fun j hj st e => ?_⟩
    · rw [fx 4 0 (by simp)]; exact a8.1
    · rw [fx 33 _ (by simp)]; exact a8.2 j hj st e
  · unfold c9; rw [fx 10 0 (by simp), fx 35 0 (by simp)]; exact a9
  · unfold c10; rw [fx 2 0 (by simp), fx 20 0 (by simp), fx 21 0 (by simp)]; exact a10
theorem CI.wd {h : Hp} {g : GS} (a : CI h g) (z : Sz g) : Wd h (gN g) (h.2.2 0) (gC g) (gR g) (nI (lsG g)) (gW g) :=
  ⟨a.2.1.2.1, z.1, a.2.1.2.2, z.2.2.2.2.2.2.2.1, rfl, ⟨a.2.2.2.2.2.1.2.2.1, a.2.2.2.2.2.1.2.2.2, z.2.2.2.2.2.2.2.2.1, z.2.2.2.2.2.2.2.2.2.1, z.2.2.2.2.2.2.2.2.2.2⟩, a.2.2.1.2.2.2, a.1.2⟩
