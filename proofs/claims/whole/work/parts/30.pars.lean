/-! what a RULE's text says: its steps (pure) -/
abbrev PRs : Type := Nat × Option (List Int32)
def lvO (s : Int32) : Int32 := if s = nI 60 ∨ s = nI 61 ∨ s = nI 62 then nI 0 else if s = nI 43 ∨ s = nI 45 then nI 1 else if s = nI 42 ∨ s = nI 47 then nI 2 else -(nI 1)
/-- a thing: in brackets (inn reads what stands in them), a number, a letter -/
def pTh (T : Nat → Int32) (n L : Nat) (inn : Option (Nat → PRs)) (p : Nat) : PRs :=
  if pk T n L p = nI 40 then (match inn with
    | none => (p, none)
    | some f => (match (f (p + 1)).2 with
      | none => ((f (p + 1)).1, none)
      | some c => if pk T n L (f (p + 1)).1 = nI 41 then ((f (p + 1)).1 + 1, some c) else ((f (p + 1)).1, none)))
  else if (tkN T n L 3 p).1 = -(nI 1) then (if isLt (pk T n L p) = true then (p + 1, some [-(pk T n L p)]) else (p, none))
  else ((tkN T n L 3 p).2, some [(tkN T n L 3 p).1])
/-- how many - stand there -/
def mnC (T : Nat → Int32) (n L : Nat) : Nat → Nat → Nat
  | 0, _ => 0
  | f + 1, p => if pk T n L p = nI 45 then mnC T n L f (p + 1) + 1 else 0
def pSg (T : Nat → Int32) (n L : Nat) (inn : Option (Nat → PRs)) (p : Nat) : PRs := ((pTh T n L inn (p + mnC T n L 40 p)).1, (pTh T n L inn (p + mnC T n L 40 p)).2.map (fun c => if mnC T n L 40 p % 2 = 1 then c ++ [-(nI 126)] else c))
def pOp (T : Nat → Int32) (n L : Nat) (sub : Nat → PRs) (lv : Nat) : Nat → Nat → List Int32 → PRs
  | 0, p, c => (p, some c)
  | f + 1, p, c => if lvO (pk T n L p) = nI lv then (match (sub (p + 1)).2 with
    | none => ((sub (p + 1)).1, none)
    | some c2 => pOp T n L sub lv f (sub (p + 1)).1 (c ++ c2 ++ [-(pk T n L p)])) else (p, some c)
def pLv (T : Nat → Int32) (n L : Nat) (inn : Option (Nat → PRs)) : Nat → Nat → PRs
  | 0, p => pSg T n L inn p
  | u + 1, p => match (pLv T n L inn u p).2 with
    | none => ((pLv T n L inn u p).1, none)
    | some c => pOp T n L (pLv T n L inn u) (2 - u) (if u = 2 then 1 else 40) (pLv T n L inn u p).1 c
def pRl (T : Nat → Int32) (n L : Nat) : Nat → Nat → PRs
  | 0 => pLv T n L none 3
  | r + 1 => pLv T n L (some (pRl T n L r)) 3
def inn (T : Nat → Int32) (n L : Nat) : Nat → Option (Nat → PRs)
  | 0 => none
  | r + 1 => some (pRl T n L r)
theorem pRl_eq {T : Nat → Int32} {n L : Nat} : ∀ (r : Nat), pRl T n L r = pLv T n L (inn T n L r) 3
  | 0 => rfl
  | _ + 1 => rfl
/-! how far it reads -/
theorem pkP {T : Nat → Int32} {n L p : Nat} (h : pk T n L p ≠ -(nI 1)) : p < n ∧ p < L := by
  unfold pk at h
  split at h
  · assumption
  · exact absurd rfl h
theorem tkD_in {T : Nat → Int32} {n L p : Nat} (h : (tkD T n L (nI 0) (nI 9) p).1 ≠ -(nI 1)) : p < L ∧ (tkD T n L (nI 0) (nI 9) p).2 = p + 1 := by
  unfold tkD at h ⊢
  split at h
  · exact absurd rfl h
  next c =>
    rw [if_neg c]
    refine ⟨(pkP (T := T) (n := n) (fun z => ?_)).2, rfl⟩
    rw [z] at c
    exact c (Or.inl (by decide))
theorem tkR_in {T : Nat → Int32} {n L m : Nat} : ∀ (f i : Nat) (x : Int32) (p : Nat), p ≤ L → p ≤ (tkR T n L m f i x p).2 ∧ (tkR T n L m f i x p).2 ≤ L
  | 0, _, _, p, h => ⟨Nat.le_refl _, h⟩
  | f + 1, i, x, p, h => by
    rw [tkR]
    split
    · exact ⟨Nat.le_refl _, h⟩
    · split
      · exact ⟨Nat.le_refl _, h⟩
      next c =>
        obtain ⟨h1, h2⟩ := tkD_in c
        have := tkR_in (T := T) (n := n) (L := L) (m := m) f (i + 1) (if i = 0 then (tkD T n L (nI 0) (nI 9) p).1 else x * nI 10 + (tkD T n L (nI 0) (nI 9) p).1) (p + 1) (by omega)
        rw [h2]
        exact ⟨by omega, this.2⟩
theorem tkN_none {T : Nat → Int32} {n L m p : Nat} (hd : (tkD T n L (nI 0) (nI 9) p).1 = -(nI 1)) : tkN T n L m p = (-(nI 1), p) := by
  unfold tkN
  rw [tkR]
  split
  · rfl
  · rfl
theorem tkN_in {T : Nat → Int32} {n L m p : Nat} (h : (tkN T n L m p).1 ≠ -(nI 1)) : p < L ∧ p + 1 ≤ (tkN T n L m p).2 ∧ (tkN T n L m p).2 ≤ L ∧ (tkD T n L (nI 0) (nI 9) p).1 ≠ -(nI 1) := by
  by_cases hd : (tkD T n L (nI 0) (nI 9) p).1 = -(nI 1)
  · rw [tkN_none hd] at h
    exact absurd rfl h
  · obtain ⟨h1, h2⟩ := tkD_in hd
    unfold tkN at h ⊢
    rw [tkR] at h ⊢
    split at h
    · exact absurd rfl h
    next hm =>
      rw [if_neg hm, if_neg hd, h2]
      have := tkR_in (T := T) (n := n) (L := L) (m := m) m 1 (if 0 = 0 then (tkD T n L (nI 0) (nI 9) p).1 else -(nI 1) * nI 10 + (tkD T n L (nI 0) (nI 9) p).1) (p + 1) (by omega)
      exact ⟨h1, this.1, this.2, hd⟩
/-- it reads on, and never behind L; a step a sign at most -/
def Ran (L p : Nat) (r : PRs) : Prop := p ≤ r.1 ∧ r.1 ≤ L ∧ ∀ c, r.2 = some c → p + c.length ≤ r.1 ∧ 1 ≤ c.length
def RanF (L : Nat) (f : Nat → PRs) : Prop := ∀ p, p ≤ L → Ran L p (f p)
theorem pk_c {T : Nat → Int32} {n L p : Nat} {x : Int32} (h : pk T n L p = x) (hx : x ≠ -(nI 1)) : p < L := (pkP (fun z => hx (h.symm.trans z))).2
theorem ran_Th {T : Nat → Int32} {n L : Nat} {inn : Option (Nat → PRs)} (hi : ∀ f, inn = some f → RanF L f) : RanF L (pTh T n L inn) := by
  intro p hp
  unfold pTh
  split
  next c =>
    have hl := pk_c c (by decide)
    cases inn with
    | none => exact ⟨Nat.le_refl _, hp, fun c h => by cases h⟩
    | some f =>
      obtain ⟨h1, h2, h3⟩ := hi f rfl (p + 1) (by omega)
      dsimp only
      cases hf : (f (p + 1)).2 with
      | none => exact ⟨by dsimp only; omega, h2, fun c h => by cases h⟩
      | some c1 =>
        obtain ⟨h4, h5⟩ := h3 c1 hf
        dsimp only
        split
        next c2 =>
          have hl2 := pk_c c2 (by decide)
          exact ⟨by dsimp only; omega, by dsimp only; omega, fun c h => by cases h; dsimp only; omega⟩
        · exact ⟨by dsimp only; omega, h2, fun c h => by cases h⟩
  next c =>
    split
    · split
      next c2 =>
        have hl : p < L := by
          refine (pkP (T := T) (n := n) (fun z => ?_)).2
          rw [z] at c2
          exact absurd c2 (by decide)
        exact ⟨by dsimp only; omega, hl, fun c h => by cases h; simp⟩
      · exact ⟨Nat.le_refl _, hp, fun c h => by cases h⟩
    next c2 =>
      obtain ⟨h1, h2, h3, -⟩ := tkN_in c2
      exact ⟨by dsimp only; omega, h3, fun c h => by cases h; simp; omega⟩
theorem mnC_in {T : Nat → Int32} {n L : Nat} : ∀ (f p : Nat), p ≤ L → p + mnC T n L f p ≤ L
  | 0, p, h => h
  | f + 1, p, h => by
    rw [mnC]
    split
    next c =>
      have hl := pk_c c (by decide)
      have := mnC_in (T := T) (n := n) (L := L) f (p + 1) hl
      omega
    · exact h
theorem ran_Sg {T : Nat → Int32} {n L : Nat} {inn : Option (Nat → PRs)} (hi : ∀ f, inn = some f → RanF L f) : RanF L (pSg T n L inn) := by
  intro p hp
  have hm := mnC_in (T := T) (n := n) (L := L) 40 p hp
  obtain ⟨h1, h2, h3⟩ := ran_Th (T := T) (n := n) hi (p + mnC T n L 40 p) hm
  unfold pSg
  refine ⟨by dsimp only; omega, h2, fun c h => ?_⟩
  obtain ⟨c0, e1, e2⟩ := Option.map_eq_some_iff.mp h
  obtain ⟨h4, h5⟩ := h3 c0 e1
  rw [← e2]
  dsimp only
  split
  · rw [List.length_append]; simp; omega
  · omega
theorem ran_Op {T : Nat → Int32} {n L : Nat} {sub : Nat → PRs} {lv : Nat} (hlv : lv < 3) (hs : RanF L sub) : ∀ (f p0 p : Nat) (c : List Int32), p ≤ L → p0 + c.length ≤ p → 1 ≤ c.length → Ran L p0 (pOp T n L sub lv f p c)
  | 0, p0, p, c, h1, h2, h3 => ⟨by show p0 ≤ p; omega, h1, fun c' h => by cases h; exact ⟨h2, h3⟩⟩
  | f + 1, p0, p, c, h1, h2, h3 => by
    rw [pOp]
    split
    next hc =>
      have hl : p < L := by
        refine (pkP (T := T) (n := n) (fun z => ?_)).2
        rw [z] at hc
        have : lv = 0 ∨ lv = 1 ∨ lv = 2 := by omega
        rcases this with rfl | rfl | rfl <;> exact absurd hc (by decide)
      obtain ⟨h4, h5, h6⟩ := hs (p + 1) hl
      cases hf : (sub (p + 1)).2 with
      | none => exact ⟨by dsimp only; omega, h5, fun c' h => by cases h⟩
      | some c2 =>
        obtain ⟨h7, h8⟩ := h6 c2 hf
        exact ran_Op hlv hs f p0 _ _ h5 (by simp; omega) (by simp; omega)
    · exact ⟨by show p0 ≤ p; omega, h1, fun c' h => by cases h; exact ⟨h2, h3⟩⟩
theorem ran_Lv {T : Nat → Int32} {n L : Nat} {inn : Option (Nat → PRs)} (hi : ∀ f, inn = some f → RanF L f) : ∀ u, RanF L (pLv T n L inn u)
  | 0 => ran_Sg hi
  | u + 1 => by
    intro p hp
    obtain ⟨h1, h2, h3⟩ := ran_Lv (T := T) (n := n) hi u p hp
    rw [pLv]
    cases hf : (pLv T n L inn u p).2 with
    | none => exact ⟨h1, h2, fun c h => by cases h⟩
    | some c =>
      obtain ⟨h4, h5⟩ := h3 c hf
      exact ran_Op (by omega) (ran_Lv hi u) _ p _ c h2 h4 h5
theorem ran_inn {T : Nat → Int32} {n L : Nat} : ∀ r, ∀ f, inn T n L r = some f → RanF L f
  | 0, f, h => by cases h
  | r + 1, f, h => by
    cases h
    rw [pRl_eq]
    exact ran_Lv (ran_inn r) 3
theorem ran_Rl {T : Nat → Int32} {n L : Nat} (r : Nat) : RanF L (pRl T n L r) := ran_inn (r + 1) _ rfl
/-! the steps say one value -/
def runL (lf : Int32 → Int32) : List Int32 → List Int32 → Option (List Int32)
  | [], st => some st
  | x :: c, st => (ev1 lf x st).bind (runL lf c)
theorem runL_app {lf : Int32 → Int32} : ∀ (a b st : List Int32), runL lf (a ++ b) st = (runL lf a st).bind (runL lf b)
  | [], b, st => rfl
  | x :: a, b, st => by
    rw [List.cons_append, runL, runL]
    cases ev1 lf x st with
    | none => rfl
    | some s1 => exact runL_app a b s1
def vl (lf : Int32 → Int32) (c : List Int32) : Int32 := match runL lf c [] with
  | some (v :: _) => v
  | _ => 0
def Good (c : List Int32) : Prop := ∀ lf, ∃ v, ∀ st, runL lf c st = some (v :: st)
theorem Good.vl {c : List Int32} (h : Good c) (lf : Int32 → Int32) (st : List Int32) : runL lf c st = some (vl lf c :: st) := by
  obtain ⟨v, hv⟩ := h lf
  have : Jvm.Pilot.@@N@@.vl lf c = v := by unfold Jvm.Pilot.@@N@@.vl; rw [hv]
  rw [this, hv]
theorem vl_of {c : List Int32} {lf : Int32 → Int32} {v : Int32} (h : ∀ st, runL lf c st = some (v :: st)) : vl lf c = v := by
  unfold vl; rw [h]
theorem run_num {x : Int32} (h : 0 ≤ x) (lf : Int32 → Int32) (st : List Int32) : runL lf [x] st = some (x :: st) := by
  show (ev1 lf x st).bind _ = _
  unfold ev1
  rw [if_pos h]; rfl
theorem isLt_neg {s : Int32} (h : isLt s = true) : ¬ 0 ≤ -s := by
  unfold isLt at h
  simp only [Bool.or_eq_true, decide_eq_true_eq] at h
  rcases h with ((((((h | h) | h) | h) | h) | h) | h) | h <;> subst h <;> decide
theorem ng_ng (s : Int32) : - -s = s := Int32.neg_neg
theorem run_let {s : Int32} (h : isLt s = true) (lf : Int32 → Int32) (st : List Int32) : runL lf [-s] st = some (lf s :: st) := by
  show (ev1 lf (-s) st).bind _ = _
  unfold ev1
  rw [if_neg (isLt_neg h), ng_ng, if_pos h]; rfl
theorem run_neg {c : List Int32} (hc : Good c) (lf : Int32 → Int32) (st : List Int32) : runL lf (c ++ [-(nI 126)]) st = some (-(vl lf c) :: st) := by
  rw [runL_app, hc.vl]
  show (ev1 lf (-(nI 126)) (vl lf c :: st)).bind (runL lf []) = _
  unfold ev1
  rw [if_neg (by decide), if_neg (by decide), if_pos rfl]
  rfl
theorem run_op {a b : List Int32} {o : Int32} (ha : Good a) (hb : Good b) (ho : lvO o = nI 0 ∨ lvO o = nI 1 ∨ lvO o = nI 2) (lf : Int32 → Int32) (st : List Int32) : runL lf (a ++ b ++ [-o]) st = some (jnF o (vl lf a) (vl lf b) :: st) := by
  rw [runL_app, runL_app, ha.vl]
  show ((runL lf b (vl lf a :: st))).bind (runL lf [-o]) = _
  rw [hb.vl]
  show (ev1 lf (-o) (vl lf b :: vl lf a :: st)).bind (runL lf []) = _
  have h7 : o = nI 60 ∨ o = nI 61 ∨ o = nI 62 ∨ o = nI 43 ∨ o = nI 45 ∨ o = nI 42 ∨ o = nI 47 := by
    unfold lvO at ho
    split at ho
    next h => rcases h with h | h | h <;> simp [h]
    · split at ho
      next h => rcases h with h | h <;> simp [h]
      · split at ho
        next h => rcases h with h | h <;> simp [h]
        · exact absurd ho (by decide)
  have h1 : ¬ 0 ≤ -o := by rcases h7 with h | h | h | h | h | h | h <;> subst h <;> decide
  have h2 : ¬ isLt (- -o) = true := by rcases h7 with h | h | h | h | h | h | h <;> subst h <;> decide
  have h3 : ¬ -o = -(nI 126) := by rcases h7 with h | h | h | h | h | h | h <;> subst h <;> decide
  unfold ev1
  rw [if_neg h1, if_neg h2, if_neg h3, ng_ng]
  rfl
def GoodR (r : PRs) : Prop := ∀ c, r.2 = some c → Good c
theorem tkD_0 {T : Nat → Int32} {n L p : Nat} (h : (tkD T n L (nI 0) (nI 9) p).1 ≠ -(nI 1)) : ∃ d, d < 10 ∧ (tkD T n L (nI 0) (nI 9) p).1 = nI d ∧ pk T n L p = nI (48 + d) := by
  unfold tkD at h ⊢
  split at h
  · exact absurd rfl h
  next c =>
    rw [if_neg c]
    have c1 : nI 0 ≤ pk T n L p - nI 48 := i_nlt (fun z => c (Or.inl z))
    have c2 : pk T n L p - nI 48 ≤ nI 9 := i_nlt (fun z => c (Or.inr z))
    obtain ⟨d, hd0, e⟩ := nI_of (x := pk T n L p - nI 48) (i_ltn c1)
    have hd : d ≤ 9 := by rw [e, nI_leI hd0 (by decide)] at c2; exact c2
    refine ⟨d, by omega, e, ?_⟩
    rw [Nat.add_comm, ← nI_add, ← e]
    exact (Int32.sub_add_cancel _ _).symm
theorem nI_mul (a b : Nat) : nI a * nI b = nI (a * b) := (Int32.ofNat_mul a b).symm
theorem tkR_0 {T : Nat → Int32} {n L m : Nat} : ∀ (f i v : Nat) (p : Nat), v < 10 ^ i → m ≤ 3 → i ≤ m → ∃ w, w < 1000 ∧ (tkR T n L m f i (nI v) p).1 = nI w := by
  have pw : ∀ i, i ≤ 3 → 10 ^ i ≤ 1000 := fun i hi => by
    have : i = 0 ∨ i = 1 ∨ i = 2 ∨ i = 3 := by omega
    rcases this with rfl | rfl | rfl | rfl <;> decide
  intro f
  induction f with
  | zero => exact fun i v p h1 h2 h3 => ⟨v, Nat.lt_of_lt_of_le h1 (pw i (by omega)), rfl⟩
  | succ f ih =>
    intro i v p h1 h2 h3
    rw [tkR]
    split
    · exact ⟨v, Nat.lt_of_lt_of_le h1 (pw i (by omega)), rfl⟩
    · split
      · exact ⟨v, Nat.lt_of_lt_of_le h1 (pw i (by omega)), rfl⟩
      next hi hd =>
        obtain ⟨d, hd1, hd2, -⟩ := tkD_0 hd
        rw [hd2]
        split
        next h0 => exact ih (i + 1) d _ (by rw [h0]; exact hd1) h2 (by omega)
        · rw [nI_mul, nI_add]
          exact ih (i + 1) (v * 10 + d) _ (by rw [Nat.pow_succ]; omega) h2 (by omega)
theorem tkN_0 {T : Nat → Int32} {n L p m : Nat} (hm : m ≤ 3) (h : (tkN T n L m p).1 ≠ -(nI 1)) : ∃ w, w < 1000 ∧ (tkN T n L m p).1 = nI w := by
  obtain ⟨-, -, -, hd⟩ := tkN_in h
  obtain ⟨d, hd1, hd2, -⟩ := tkD_0 hd
  unfold tkN at h ⊢
  rw [tkR] at h ⊢
  split
  next c => rw [if_pos c] at h; exact absurd rfl h
  · rw [hd2, if_pos rfl]
    exact tkR_0 m 1 d _ hd1 hm (by omega)
theorem nI_nn {w : Nat} (h : w < 1000) : 0 ≤ nI w := nI_le (Nat.zero_le w) (by omega)
theorem good_Th {T : Nat → Int32} {n L : Nat} {inn : Option (Nat → PRs)} (hi : ∀ f, inn = some f → ∀ p, GoodR (f p)) (p : Nat) : GoodR (pTh T n L inn p) := by
  intro c hc
  unfold pTh at hc
  split at hc
  · cases inn with
    | none => cases hc
    | some f =>
      dsimp only at hc
      cases hf : (f (p + 1)).2 with
      | none => rw [hf] at hc; cases hc
      | some c1 =>
        rw [hf] at hc
        dsimp only at hc
        split at hc
        · cases hc; exact hi f rfl _ _ hf
        · cases hc
  · split at hc
    · split at hc
      next h => cases hc; exact fun lf => ⟨_, run_let h lf⟩
      · cases hc
    next h =>
      obtain ⟨w, hw, e⟩ := tkN_0 (by omega) h
      cases hc
      rw [e]
      exact fun lf => ⟨_, run_num (nI_nn hw) lf⟩
theorem good_Sg {T : Nat → Int32} {n L : Nat} {inn : Option (Nat → PRs)} (hi : ∀ f, inn = some f → ∀ p, GoodR (f p)) (p : Nat) : GoodR (pSg T n L inn p) := by
  intro c hc
  obtain ⟨c0, e1, e2⟩ := Option.map_eq_some_iff.mp (show (pTh T n L inn (p + mnC T n L 40 p)).2.map _ = some c from hc)
  have g := good_Th hi _ c0 e1
  rw [← e2]
  split
  · exact fun lf => ⟨_, run_neg g lf⟩
  · exact g
theorem good_Op {T : Nat → Int32} {n L : Nat} {sub : Nat → PRs} {lv : Nat} (hlv : lv < 3) (hs : ∀ p, GoodR (sub p)) : ∀ (f p : Nat) (c : List Int32), Good c → GoodR (pOp T n L sub lv f p c)
  | 0, p, c, h => fun c' h' => by cases h'; exact h
  | f + 1, p, c, h => by
    rw [pOp]
    split
    next hc =>
      cases hf : (sub (p + 1)).2 with
      | none => exact fun c' h' => by cases h'
      | some c2 =>
        refine good_Op hlv hs f _ _ (fun lf => ⟨_, run_op h (hs _ c2 hf) ?_ lf⟩)
        have : lv = 0 ∨ lv = 1 ∨ lv = 2 := by omega
        rcases this with rfl | rfl | rfl <;> simp [hc]
    · exact fun c' h' => by cases h'; exact h
theorem good_Lv {T : Nat → Int32} {n L : Nat} {inn : Option (Nat → PRs)} (hi : ∀ f, inn = some f → ∀ p, GoodR (f p)) : ∀ u p, GoodR (pLv T n L inn u p)
  | 0, p => good_Sg hi p
  | u + 1, p => by
    rw [pLv]
    cases hf : (pLv T n L inn u p).2 with
    | none => exact fun c h => by cases h
    | some c => exact good_Op (by omega) (good_Lv hi u) _ _ c (good_Lv hi u p c hf)
theorem good_inn {T : Nat → Int32} {n L : Nat} : ∀ r, ∀ f, inn T n L r = some f → ∀ p, GoodR (f p)
  | 0, f, h => by cases h
  | r + 1, f, h => by
    cases h
    rw [pRl_eq]
    exact good_Lv (good_inn r) 3
theorem good_Rl {T : Nat → Int32} {n L : Nat} (r p : Nat) : GoodR (pRl T n L r p) := good_inn (r + 1) _ rfl p
/-! steps laid into an array -/
def lyS (g : Nat → Int32) : Nat → List Int32 → Nat → Int32
  | _, [] => g
  | m, x :: c => lyS (upd g m x) (m + 1) c
theorem lyS_app {g : Nat → Int32} : ∀ (a b : List Int32) (m : Nat), lyS g m (a ++ b) = lyS (lyS g m a) (m + a.length) b
  | [], b, m => rfl
  | x :: a, b, m => by
    rw [List.cons_append, lyS, lyS, lyS_app a b, List.length_cons]
    congr 1
    omega
theorem lyS_lo {g : Nat → Int32} : ∀ (c : List Int32) (m j : Nat), j < m → lyS g m c j = g j
  | [], m, j, h => rfl
  | x :: c, m, j, h => by rw [lyS, lyS_lo c _ _ (by omega), upd_n (by omega)]
theorem lyS_at {g : Nat → Int32} : ∀ (c : List Int32) (m j : Nat) (x : Int32), c[j]? = some x → lyS g m c (m + j) = x
  | y :: c, m, 0, x, h => by
    show lyS (upd g m y) (m + 1) c m = x
    rw [lyS_lo c _ _ (by omega), upd_s]
    simpa using h
  | y :: c, m, j + 1, x, h => by
    rw [lyS, show m + (j + 1) = m + 1 + j by omega]
    exact lyS_at c _ j x (by simpa using h)
theorem evN_app {lf : Int32 → Int32} {sp : Nat → Int32} : ∀ (c : List Int32) (i : Nat) (st : List Int32), (∀ j x, c[j]? = some x → sp (i + j) = x) → evN lf sp i = some st → evN lf sp (i + c.length) = runL lf c st
  | [], i, st, h, e => e
  | x :: c, i, st, h, e => by
    have h0 : sp i = x := h 0 x rfl
    rw [List.length_cons, show i + (c.length + 1) = i + 1 + c.length by omega, runL]
    cases h1 : ev1 lf x st with
    | some s1 => exact evN_app c (i + 1) s1 (fun j y hj => by rw [show i + 1 + j = i + (j + 1) by omega]; exact h (j + 1) y (by simpa using hj)) (by rw [evN, e, h0]; exact h1)
    | none =>
      have h2 : evN lf sp (i + 1) = none := by rw [evN, e, h0]; exact h1
      have h3 : ∀ d, evN lf sp (i + 1 + d) = none := by
        intro d
        induction d with
        | zero => exact h2
        | succ d ih => show (evN lf sp (i + 1 + d)).bind _ = none; rw [ih]; rfl
      exact h3 _
theorem evN_ly {lf : Int32 → Int32} {g : Nat → Int32} {c : List Int32} : evN lf (lyS g 0 c) c.length = runL lf c [] := by
  have := evN_app (lf := lf) (sp := lyS g 0 c) c 0 [] (fun j x h => lyS_at c 0 j x h) rfl
  rwa [Nat.zero_add] at this
