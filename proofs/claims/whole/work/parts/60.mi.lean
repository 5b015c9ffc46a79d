/-! THE REFERENCE: how its heap holds the common state -/
def pm (j : Nat) : Nat := if j = 40 then 44 else if j = 41 then 45 else if 42 ≤ j ∧ j < 46 then j - 2 else j
theorem pm_inj {a b : Nat} (h : pm a = pm b) : a = b := by
  unfold pm at h
  repeat' (split at h)
  all_goals omega
theorem pm_lo {j : Nat} (h : j < 40) : pm j = j := by unfold pm; rw [if_neg (by omega), if_neg (by omega), if_neg (by omega)]
theorem pm_pu {o : Nat} (h : o < 4) : pm (42 + o) = 40 + o := by unfold pm; rw [if_neg (by omega), if_neg (by omega), if_pos (by omega)]; omega
def mS (s : Sta) : Nat → Int32 := fun j => s (pm j)
theorem mS_lo {s : Sta} {j : Nat} (h : j < 40) : mS s j = s j := by unfold mS; rw [pm_lo h]
theorem mS_41 {s : Sta} : mS s 41 = s 45 := rfl
theorem mS_40 {s : Sta} : mS s 40 = s 44 := rfl
theorem mS_46 {s : Sta} : mS s 46 = s 46 := rfl
theorem mS_pu {s : Sta} {o : Nat} (h : o < 4) : mS s (42 + o) = s (40 + o) := by unfold mS; rw [pm_pu h]
theorem mS_upd {s : Sta} {j : Nat} {x : Int32} : upd (mS s) j x = mS (upd s (pm j) x) := by
  funext i
  unfold mS upd
  by_cases c : i = j
  · subst c; rw [if_pos rfl, if_pos rfl]
  · rw [if_neg c, if_neg (fun w => c (pm_inj w))]
theorem mS_ulo {s : Sta} {j : Nat} {x : Int32} (h : j < 40) : upd (mS s) j x = mS (upd s j x) := by rw [mS_upd, pm_lo h]
theorem mS_u41 {s : Sta} {x : Int32} : upd (mS s) 41 x = mS (upd s 45 x) := mS_upd
theorem mS_u40 {s : Sta} {x : Int32} : upd (mS s) 40 x = mS (upd s 44 x) := mS_upd
theorem mS_u46 {s : Sta} {x : Int32} : upd (mS s) 46 x = mS (upd s 46 x) := mS_upd
theorem mS_upu {s : Sta} {o : Nat} {x : Int32} (h : o < 4) : upd (mS s) (42 + o) x = mS (upd s (40 + o) x) := by rw [mS_upd, pm_pu h]
/-- bytes as they are read -/
def mT (h : Hp) (r : Nat) : Nat → Int32 := fun j => h.1 43 r j &&& nI 255
def bytK (x : Int32) : Prop := x.toInt8.toInt32 = x
/-- who is under each one, by who is above -/
def ovF (A : Nat → Int32) (f : Nat) : Int32 := nI (bsN (fun o => hsB (A o) f) 8)
def SeK (E : Nat → Nat → Int32) (n : Nat) : Prop := ∀ j, j < n → (∃ a, 1 ≤ a ∧ a < 100 ∧ E 0 j = nI a) ∧ (∃ a, a < 100 ∧ E 2 j = nI a) ∧ ∃ a, a < 10 ∧ E 4 j = nI a
def m1 (h : Hp) (g : GS) : Prop := h.1 40 0 = mS (gS g) ∧ h.1 12 0 5 = gW g
def m2 (h : Hp) (g : GS) : Prop := h.1 12 0 1 = nI (gN g) ∧ ∀ j, j < gN g → ∀ p, p < 4 → h.1 41 0 (4 * j + p) = gR g p j
def m3 (h : Hp) (g : GS) : Prop := h.1 12 0 3 = nI (gM g) ∧ ∀ j, j < gM g → ∀ p, p < 3 → h.1 42 0 (3 * j + p) = gE g (2 * p) j
def m4 (h : Hp) (g : GS) : Prop := h.1 12 0 7 = nI (gTn g) ∧ (∀ j, bytK (h.1 43 0 j)) ∧ ∀ j, j < gTn g → mT h 0 j = gT g j
def m5 (h : Hp) (g : GS) : Prop := h.1 12 0 9 = nI (gL g).length ∧ ∀ j x, (gL g)[j]? = some x → h.2.1 44 j = x
def m6 (h : Hp) (g : GS) : Prop := h.2.2 3 = 1 ∧ h.2.2 4 = 2 ∧ (∀ j, bytK (h.1 43 1 j)) ∧ (∀ j, bytK (h.1 43 2 j)) ∧ ∃ n, n ≤ 40 ∧ h.1 12 0 19 = nI n ∧ rdO (mT h 1) n = some (gC g)
def m7 (h : Hp) (g : GS) : Prop := h.1 12 0 23 = nI (gP g).length ∧ ∀ j s, (gP g)[j]? = some s → ∀ i, i < 47 → h.1 47 0 (47 * j + i) = mS s i
def m8 (B : Nat) (h : Hp) (g : GS) : Prop := ∃ c, c ≤ B ∧ h.1 12 0 45 = nI c ∧ ∀ i, i < 2 → (∀ s, gK g i = some s → h.1 59 0 i = nI 1 ∧ h.1 60 0 i = nI c ∧ ∀ j, j < 47 → h.1 58 0 (47 * i + j) = mS s j) ∧ (gK g i = none → h.1 59 0 i = nI 0 ∨ ∃ c', c' < c ∧ h.1 60 0 i = nI c')
def m9 (h : Hp) (g : GS) : Prop := h.1 12 0 37 = nI (gV g) ∧ ∀ f, f < 8 → h.1 52 0 f = ovF (gA g) f
def m10 (h : Hp) (g : GS) : Prop := h.1 12 0 42 = nI (gH g) ∧ ∀ j, j < gH g → h.1 55 0 j = gHk g j ∧ h.1 56 0 j = gHv g j
def MI (B : Nat) (h : Hp) (g : GS) : Prop := m1 h g ∧ m2 h g ∧ m3 h g ∧ m4 h g ∧ m5 h g ∧ m6 h g ∧ m7 h g ∧ m8 B h g ∧ m9 h g ∧ m10 h g
theorem MI.up {B B' : Nat} {h : Hp} {g : GS} (a : MI B h g) (hb : B ≤ B') : MI B' h g := by
  obtain ⟨a1, a2, a3, a4, a5, a6, a7, ⟨c, hc, k1, k2⟩, a9, a10⟩ := a
  exact ⟨a1, a2, a3, a4, a5, a6, a7, ⟨c, by omega, k1, k2⟩, a9, a10⟩
/-- what stays: but the rows S, the fields F, what is being read -/
def Fm (S : List Ad) (F : List Nat) (h h' : Hp) : Prop := h'.2.1 = h.2.1 ∧ (∀ x, x ≠ 2 → h'.2.2 x = h.2.2 x) ∧ (∀ k i, (k, i) ≠ (12, 0) → (k, i) ∉ S → h'.1 k i = h.1 k i) ∧ ∀ j, j ∉ F → h'.1 12 0 j = h.1 12 0 j
theorem Fm.rf {S : List Ad} {F : List Nat} {h : Hp} : Fm S F h h := ⟨rfl, fun _ _ => rfl, fun _ _ _ _ => rfl, fun _ _ => rfl⟩
theorem Fm.tr {S S' : List Ad} {F F' : List Nat} {h h1 h2 : Hp} (a : Fm S F h h1) (b : Fm S' F' h1 h2) (e : ∀ x, x ∈ S' → x ∈ S) (e' : ∀ x, x ∈ F' → x ∈ F) : Fm S F h h2 := ⟨b.1.trans a.1, fun x hx => (b.2.1 x hx).trans (a.2.1 x hx), fun k i n n2 => (b.2.2.1 k i n (fun z => n2 (e _ z))).trans (a.2.2.1 k i n n2), fun j n => (b.2.2.2 j (fun z => n (e' _ z))).trans (a.2.2.2 j n)⟩
theorem Fm.mo {S S' : List Ad} {F F' : List Nat} {h h1 : Hp} (a : Fm S' F' h h1) (e : ∀ x, x ∈ S' → x ∈ S) (e' : ∀ x, x ∈ F' → x ∈ F) : Fm S F h h1 := Fm.tr Fm.rf a e e'
theorem Fm.sF {S : List Ad} {F : List Nat} {h h1 : Hp} {j : Nat} {x : Int32} (a : Fm S F h h1) (e : j ∈ F) : Fm S F h (sX h1 12 0 j x) := by
  refine ⟨a.1, a.2.1, fun k' i' n n2 => ?_, fun j' n => ?_⟩
  · rw [sX_row, if_neg (fun z => n (by rw [z.1, z.2]))]
    exact a.2.2.1 k' i' n n2
  · rw [rdX, if_neg (fun z => n (by rw [z.2.2]; exact e))]
    exact a.2.2.2 j' n
theorem Fm.sD {S : List Ad} {F : List Nat} {h h1 : Hp} {r : Nat} (a : Fm S F h h1) : Fm S F h (sD h1 2 r) := ⟨a.1, fun x hx => by show (if x = 2 then r else h1.2.2 x) = _; rw [if_neg hx]; exact a.2.1 x hx, a.2.2.1, a.2.2.2⟩
theorem Fm.sV {S : List Ad} {F : List Nat} {h h1 : Hp} {k i : Nat} {f : Nat → Int32} (a : Fm S F h h1) (e : (k, i) ∈ S) (hk : k ≠ 12) : Fm S F h (sV h1 k i f) := by
  refine ⟨a.1, a.2.1, fun k' i' n n2 => ?_, fun j n => ?_⟩
  · rw [rdV, if_neg (fun z => n2 (by rw [z.1, z.2]; exact e))]
    exact a.2.2.1 k' i' n n2
  · rw [rdVj, if_neg (fun z => hk z.1.symm)]
    exact a.2.2.2 j n
theorem Fm.sX {S : List Ad} {F : List Nat} {h h1 : Hp} {k i j : Nat} {x : Int32} (a : Fm S F h h1) (e : (k, i) ∈ S) (hk : k ≠ 12) : Fm S F h (sX h1 k i j x) := Fm.sV a e hk
/-- rows and fields that nothing shows -/
def scA : List Ad := [(40, 1), (40, 2), (40, 3), (40, 4), (40, 5), (40, 6), (40, 7), (45, 0), (46, 0), (48, 0), (49, 0), (50, 0), (53, 0), (54, 0), (57, 0)]
def scI : List Nat := [10, 12, 13, 14, 15, 20, 26, 28, 29, 32, 33, 35, 44]
theorem mT_cg {h h' : Hp} {r : Nat} (e : h'.1 43 r = h.1 43 r) : mT h' r = mT h r := by unfold mT; rw [e]
theorem MI.with {B : Nat} {S : List Ad} {F : List Nat} {h h' : Hp} {g g' : GS} (a : MI B h g) (f : ∀ k i, (k, i) ≠ (12, 0) → (k, i) ∉ S → h'.1 k i = h.1 k i) (f2 : ∀ j, j ∉ F → h'.1 12 0 j = h.1 12 0 j) (f3 : h'.2.2 3 = h.2.2 3 ∧ h'.2.2 4 = h.2.2 4)
    (e1 : ((40, 0) ∉ S ∧ 5 ∉ F ∧ gS g' = gS g ∧ gW g' = gW g) ∨ m1 h' g') (e2 : ((41, 0) ∉ S ∧ 1 ∉ F ∧ g'.2.1 = g.2.1) ∨ m2 h' g') (e3 : ((42, 0) ∉ S ∧ 3 ∉ F ∧ g'.2.2.1 = g.2.2.1) ∨ m3 h' g')
    (e4 : ((43, 0) ∉ S ∧ 7 ∉ F ∧ g'.2.2.2.2.1 = g.2.2.2.2.1) ∨ m4 h' g') (e5 : (h'.2.1 = h.2.1 ∧ 9 ∉ F ∧ gL g' = gL g) ∨ m5 h' g') (e6 : ((43, 1) ∉ S ∧ (43, 2) ∉ S ∧ 19 ∉ F ∧ gC g' = gC g) ∨ m6 h' g')
    (e7 : ((47, 0) ∉ S ∧ 23 ∉ F ∧ gP g' = gP g) ∨ m7 h' g') (e8 : ((58, 0) ∉ S ∧ (59, 0) ∉ S ∧ (60, 0) ∉ S ∧ 45 ∉ F ∧ gK g' = gK g) ∨ m8 B h' g') (e9 : ((52, 0) ∉ S ∧ 37 ∉ F ∧ g'.2.2.2.2.2.2.2.2.1 = g.2.2.2.2.2.2.2.2.1) ∨ m9 h' g') (e10 : ((55, 0) ∉ S ∧ (56, 0) ∉ S ∧ 42 ∉ F ∧ g'.2.2.2.2.2.2.2.2.2 = g.2.2.2.2.2.2.2.2.2) ∨ m10 h' g') : MI B h' g' := by
  have fr : ∀ k i, (k, i) ∉ S → k ≠ 12 → h'.1 k i = h.1 k i := fun k i n hk => f k i (fun w => hk (congrArg Prod.fst w)) n
  obtain ⟨a1, a2, a3, a4, a5, a6, a7, a8, a9, a10⟩ := a
  refine ⟨?_, ?_, ?_, ?_, ?_, ?_, ?_, ?_, ?_, ?_⟩
  · rcases e1 with ⟨x1, x2, x3, x4⟩ | e
    · unfold m1; rw [fr 40 0 x1 (by decide), f2 5 x2, x3, x4]; exact a1
    · exact e
  · rcases e2 with ⟨x1, x2, x3⟩ | e
    · unfold m2 gN gR; rw [fr 41 0 x1 (by decide), f2 1 x2, x3]; exact a2
    · exact e
  · rcases e3 with ⟨x1, x2, x3⟩ | e
    · unfold m3 gM gE; rw [fr 42 0 x1 (by decide), f2 3 x2, x3]; exact a3
    · exact e
  · rcases e4 with ⟨x1, x2, x3⟩ | e
    · have q := fr 43 0 x1 (by decide)
      unfold m4 gTn gT; rw [mT_cg q, q, f2 7 x2, x3]; exact a4
    · exact e
  · rcases e5 with ⟨x1, x2, x3⟩ | e
    · unfold m5; rw [f2 9 x2, x1, x3]; exact a5
    · exact e
  · rcases e6 with ⟨x1, x2, x3, x4⟩ | e
    · have q := fr 43 1 x1 (by decide)
      unfold m6; rw [f3.1, f3.2, q, fr 43 2 x2 (by decide), mT_cg q, f2 19 x3, x4]; exact a6
    · exact e
  · rcases e7 with ⟨x1, x2, x3⟩ | e
    · unfold m7; rw [fr 47 0 x1 (by decide), f2 23 x2, x3]; exact a7
    · exact e
  · rcases e8 with ⟨x1, x2, x3, x4, x5⟩ | e
    · unfold m8; rw [fr 58 0 x1 (by decide), fr 59 0 x2 (by decide), fr 60 0 x3 (by decide), f2 45 x4, x5]; exact a8
    · exact e
  · rcases e9 with ⟨x1, x2, x3⟩ | e
    · unfold m9 gV gA; rw [fr 52 0 x1 (by decide), f2 37 x2, x3]; exact a9
    · exact e
  · rcases e10 with ⟨x1, x2, x3, x4⟩ | e
    · unfold m10 gH gHk gHv; rw [fr 55 0 x1 (by decide), fr 56 0 x2 (by decide), f2 42 x3, x4]; exact a10
    · exact e
theorem MI.scr {B : Nat} {S : List Ad} {F : List Nat} {h h' : Hp} {g : GS} (a : MI B h g) (f : Fm S F h h') (hS : ∀ x, x ∈ S → x ∈ scA) (hF : ∀ x, x ∈ F → x ∈ scI) : MI B h' g := by
  have f := f.mo hS hF
  exact a.with (S := scA) (F := scI) f.2.2.1 f.2.2.2 ⟨f.2.1 3 (by decide), f.2.1 4 (by decide)⟩ (Or.inl ⟨by decide, by decide, rfl, rfl⟩) (Or.inl ⟨by decide, by decide, rfl⟩) (Or.inl ⟨by decide, by decide, rfl⟩) (Or.inl ⟨by decide, by decide, rfl⟩) (Or.inl ⟨f.1, by decide, rfl⟩) (Or.inl ⟨by decide, by decide, by decide, rfl⟩) (Or.inl ⟨by decide, by decide, rfl⟩) (Or.inl ⟨by decide, by decide, by decide, by decide, rfl⟩) (Or.inl ⟨by decide, by decide, rfl⟩) (Or.inl ⟨by decide, by decide, by decide, rfl⟩)
/-- a scratch field is written -/
theorem MI.fld {B : Nat} {h : Hp} {g : GS} {j : Nat} {x : Int32} (a : MI B h g) (hj : j ∈ scI) : MI B (sX h 12 0 j x) g := a.scr (S := []) (F := scI) (Fm.sF Fm.rf hj) (by simp) (fun _ h => h)
/-- now changes -/
theorem MI.now {B : Nat} {h h' : Hp} {g : GS} {s : Sta} {S : List Ad} {F : List Nat} (a : MI B h g) (f : Fm S F h h') (hS : ∀ x, x ∈ S → x = (40, 0) ∨ x ∈ scA) (hF : ∀ x, x ∈ F → x ∈ scI) (e : h'.1 40 0 = mS s) : MI B h' (uS g s) := by
  have f := f.mo (S := (40, 0) :: scA) (F := scI) (fun x hx => by rcases hS x hx with r | r; exact r ▸ List.mem_cons_self; exact List.mem_cons_of_mem _ r) hF
  exact a.with (S := (40, 0) :: scA) (F := scI) f.2.2.1 f.2.2.2 ⟨f.2.1 3 (by decide), f.2.1 4 (by decide)⟩ (Or.inr ⟨e, by rw [f.2.2.2 5 (by decide)]; exact a.1.2⟩) (Or.inl ⟨by decide, by decide, rfl⟩) (Or.inl ⟨by decide, by decide, rfl⟩) (Or.inl ⟨by decide, by decide, rfl⟩) (Or.inl ⟨f.1, by decide, rfl⟩) (Or.inl ⟨by decide, by decide, by decide, rfl⟩) (Or.inl ⟨by decide, by decide, rfl⟩) (Or.inl ⟨by decide, by decide, by decide, by decide, rfl⟩) (Or.inl ⟨by decide, by decide, rfl⟩) (Or.inl ⟨by decide, by decide, by decide, rfl⟩)
/-- the ROW -/
theorem MI.clr {B : Nat} {h : Hp} {g : GS} (a : MI B h g) : MI B (sX h 12 0 9 (nI 0)) (uL g []) := by
  refine a.with (S := []) (F := [9]) (fun k i n _ => by rw [sX_row, if_neg (fun z => n (by rw [z.1, z.2]))]) (fun j n => by rw [rdX, if_neg (fun z => n (by rw [z.2.2]; simp))]) ⟨rfl, rfl⟩ (Or.inl ⟨by decide, by decide, rfl, rfl⟩) (Or.inl ⟨by decide, by decide, rfl⟩) (Or.inl ⟨by decide, by decide, rfl⟩) (Or.inl ⟨by decide, by decide, rfl⟩) (Or.inr ⟨by rw [rdX, if_pos (by simp)]; rfl, fun j x hj => by have hj' : ([] : List Int64)[j]? = some x := hj; simp at hj'⟩) (Or.inl ⟨by decide, by decide, by decide, rfl⟩) (Or.inl ⟨by decide, by decide, rfl⟩) (Or.inl ⟨by decide, by decide, by decide, by decide, rfl⟩) (Or.inl ⟨by decide, by decide, rfl⟩) (Or.inl ⟨by decide, by decide, by decide, rfl⟩)
def tlH (h : Hp) (m : Nat) (x : Int64) : Hp := sX (sL h 44 m x) 12 0 9 (nI (m + 1))
theorem MI.add {B : Nat} {h : Hp} {g : GS} {x : Int64} (a : MI B h g) : MI B (tlH h (gL g).length x) (uL g (gL g ++ [x])) := by
  refine a.with (S := []) (F := [9]) (fun k i n _ => by unfold tlH; rw [sX_row, if_neg (fun z => n (by rw [z.1, z.2]))]; rfl) (fun j n => by unfold tlH; rw [rdX, if_neg (fun z => n (by rw [z.2.2]; simp))]; rfl) ⟨rfl, rfl⟩ (Or.inl ⟨by decide, by decide, rfl, rfl⟩) (Or.inl ⟨by decide, by decide, rfl⟩) (Or.inl ⟨by decide, by decide, rfl⟩) (Or.inl ⟨by decide, by decide, rfl⟩) (Or.inr ⟨?_, fun j y hj => ?_⟩) (Or.inl ⟨by decide, by decide, by decide, rfl⟩) (Or.inl ⟨by decide, by decide, rfl⟩) (Or.inl ⟨by decide, by decide, by decide, by decide, rfl⟩) (Or.inl ⟨by decide, by decide, rfl⟩) (Or.inl ⟨by decide, by decide, by decide, rfl⟩)
  · unfold tlH; rw [rdX, if_pos (by simp)]; show _ = nI (gL g ++ [x]).length; rw [List.length_append]; rfl
  · show (if 44 = 44 then vp_updL (h.2.1 44) (gL g).length x else h.2.1 44) j = y
    rw [if_pos rfl]
    unfold vp_updL
    have hj' : (gL g ++ [x])[j]? = some y := hj
    by_cases c : j < (gL g).length
    · rw [List.getElem?_append_left c] at hj'
      rw [if_neg (by omega)]
      exact a.2.2.2.2.1.2 j y hj'
    · rw [List.getElem?_append_right (by omega)] at hj'
      have : j - (gL g).length = 0 := by
        have := (List.getElem?_eq_some_iff.mp hj').1
        simp at this
        omega
      rw [this] at hj'
      cases hj'
      rw [if_pos (by omega)]
/-- what the reference's questions need -/
def Wm (h : Hp) (g : GS) : Prop := h.1 12 0 1 = nI (gN g) ∧ gN g ≤ 8 ∧ (∀ j, j < gN g → ∀ p, p < 4 → h.1 41 0 (4 * j + p) = gR g p j) ∧ RoK (gR g) (gN g) ∧ h.1 12 0 3 = nI (gM g) ∧ gM g ≤ 8 ∧ (∀ j, j < gM g → ∀ p, p < 3 → h.1 42 0 (3 * j + p) = gE g (2 * p) j) ∧ SeK (gE g) (gM g) ∧ h.1 12 0 5 = gW g ∧ ∃ r n, (r = 1 ∨ r = 2) ∧ h.2.2 3 = r ∧ n ≤ 40 ∧ h.1 12 0 19 = nI n ∧ (∀ j, bytK (h.1 43 r j)) ∧ rdO (mT h r) n = some (gC g)
theorem MI.w {B : Nat} {h : Hp} {g : GS} (a : MI B h g) (z : Sz g) (y : SeK (gE g) (gM g)) : Wm h g := by
  obtain ⟨b1, b2, b3, b4, n, b5, b6, b7⟩ := a.2.2.2.2.2.1
  exact ⟨a.2.1.1, z.1, a.2.1.2, z.r, a.2.2.1.1, z.2.1, a.2.2.1.2, y, a.1.2, 1, n, Or.inl rfl, b1, b5, b6, b3, b7⟩
theorem Wm.go {S : List Ad} {F : List Nat} {h h' : Hp} {g : GS} (w : Wm h g) (f : Fm S F h h') (h1 : (41, 0) ∉ S) (h2 : (42, 0) ∉ S) (h3 : (43, 1) ∉ S) (h4 : (43, 2) ∉ S) (h5 : 1 ∉ F) (h6 : 3 ∉ F) (h7 : 5 ∉ F) (h8 : 19 ∉ F) : Wm h' g := by
  obtain ⟨w1, w2, w3, w4, w5, w6, w7, w8, w9, r, n, w10, w11, w12, w13, w14, w15⟩ := w
  have q : h'.1 43 r = h.1 43 r := by
    rcases w10 with rfl | rfl
    · exact f.2.2.1 43 1 (by simp) h3
    · exact f.2.2.1 43 2 (by simp) h4
  refine ⟨by rw [f.2.2.2 1 h5]; exact w1, w2, by rw [f.2.2.1 41 0 (by simp) h1]; exact w3, w4, by rw [f.2.2.2 3 h6]; exact w5, w6, by rw [f.2.2.1 42 0 (by simp) h2]; exact w7, w8, by rw [f.2.2.2 5 h7]; exact w9, r, n, w10, by rw [f.2.1 3 (by decide)]; exact w11, w12, by rw [f.2.2.2 19 h8]; exact w13, by rw [q]; exact w14, by rw [mT_cg q]; exact w15⟩
