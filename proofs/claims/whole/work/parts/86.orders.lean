/-! orders, counted from both ends: pure -/
def upN' (f : Nat → Nat) (j x : Nat) : Nat → Nat := fun q => if q = j then x else f q
def bI (c : Nat → Nat → Bool) (g : Nat → Nat) (s : Nat) : Nat → Nat → Nat
  | 0 => g
  | i + 1 => if c i s = true then upN' (bI c g s i) s (bI c g s i s + bI c g s i (s ||| 2 ^ i)) else bI c g s i
def bO (c : Nat → Nat → Bool) (n : Nat) (g : Nat → Nat) (all : Nat) : Nat → Nat → Nat
  | 0 => g
  | d + 1 => bI c (bO c n g all d) (all - d) n
def iN (x q : Nat) : Nat := if q = x then 1 else 0
def GG (c : Nat → Nat → Bool) (n : Nat) : Nat → Nat := bO c n (iN (2 ^ n - 1)) (2 ^ n - 1) (2 ^ n)
def fI (c : Nat → Nat → Bool) (g : Nat → Nat) (s : Nat) : Nat → Nat → Nat
  | 0 => g
  | i + 1 => if c i s = true then upN' (fI c g s i) (s ||| 2 ^ i) (fI c g s i (s ||| 2 ^ i) + fI c g s i s) else fI c g s i
def fO (c : Nat → Nat → Bool) (n : Nat) (g : Nat → Nat) : Nat → Nat → Nat
  | 0 => g
  | s + 1 => fI c (fO c n g s) s n
def FF (c : Nat → Nat → Bool) (n : Nat) : Nat → Nat := fO c n (iN 0) (2 ^ n)
/-- who comes next isn't there yet -/
def Cn (c : Nat → Nat → Bool) : Prop := ∀ i q, c i q = true → q.testBit i = false
theorem or_gt {q i : Nat} (h : q.testBit i = false) : q < q ||| 2 ^ i := by
  have h1 : q ≤ q ||| 2 ^ i := Nat.left_le_or
  have h2 : q ||| 2 ^ i ≠ q := by
    intro e
    have := congrArg (fun x => x.testBit i) e
    simp [Nat.testBit_or, Nat.testBit_two_pow, h] at this
  omega
theorem bI_eq {c : Nat → Nat → Bool} {g : Nat → Nat} {s : Nat} (hc : Cn c) : ∀ i q, bI c g s i q = if q = s then g s + smN (fun j => if c j s = true then g (s ||| 2 ^ j) else 0) i else g q
  | 0, q => by
    by_cases h : q = s
    · subst h; rw [if_pos rfl]; rfl
    · rw [if_neg h]; rfl
  | i + 1, q => by
    have IH := bI_eq (g := g) (s := s) hc i
    rw [bI]
    by_cases h : c i s = true
    · rw [if_pos h]
      have gt := or_gt (hc i s h)
      unfold upN'
      by_cases hq : q = s
      · rw [if_pos hq, if_pos hq, smN, if_pos h, IH s, IH (s ||| 2 ^ i), if_pos rfl, if_neg (show ¬ s ||| 2 ^ i = s by omega)]; omega
      · rw [if_neg hq, if_neg hq, IH q, if_neg hq]
    · rw [if_neg h, IH q, smN, if_neg h]; rfl
theorem bO_lo {c : Nat → Nat → Bool} {n all : Nat} {g : Nat → Nat} (hc : Cn c) : ∀ d q, q + d ≤ all → bO c n g all d q = g q
  | 0, _, _ => rfl
  | d + 1, q, h => by rw [bO, bI_eq hc, if_neg (by omega)]; exact bO_lo hc d q (by omega)
theorem bO_hi {c : Nat → Nat → Bool} {n all : Nat} {g : Nat → Nat} (hc : Cn c) (q : Nat) (hq : q ≤ all) : ∀ d, all - q + 1 ≤ d → d ≤ all + 1 → bO c n g all d q = bO c n g all (all - q + 1) q
  | 0, h, _ => by omega
  | d + 1, h, h2 => by
    by_cases e : all - q + 1 = d + 1
    · rw [e]
    · rw [bO, bI_eq hc, if_neg (by omega)]; exact bO_hi hc q hq d (by omega) (by omega)
theorem GG_eq {c : Nat → Nat → Bool} {n : Nat} (hc : Cn c) (q : Nat) (hq : q < 2 ^ n) : GG c n q = iN (2 ^ n - 1) q + smN (fun j => if c j q = true then GG c n (q ||| 2 ^ j) else 0) n := by
  have h0 := Nat.two_pow_pos n
  unfold GG
  rw [bO_hi hc q (by omega) (2 ^ n) (by omega) (by omega)]
  show bI c _ _ n q = _
  rw [bI_eq hc, if_pos (by omega), show 2 ^ n - 1 - (2 ^ n - 1 - q) = q by omega, bO_lo hc _ _ (by omega)]
  congr 1
  refine smN_cong n (fun j hj => ?_)
  by_cases h : c j q = true
  · rw [if_pos h, if_pos h]
    have gt := or_gt (hc j q h)
    have lt := or_lt hq hj
    rw [bO_hi hc (q ||| 2 ^ j) (by omega) (2 ^ n - 1 - q) (by omega) (by omega), bO_hi hc (q ||| 2 ^ j) (by omega) (2 ^ n) (by omega) (by omega)]
  · rw [if_neg h, if_neg h]
/-- sums -/
theorem smN_add {F G : Nat → Nat} : ∀ n, smN (fun j => F j + G j) n = smN F n + smN G n
  | 0 => rfl
  | n + 1 => by rw [smN, smN, smN, smN_add n]; omega
theorem smN_0 : ∀ n, smN (fun _ => 0) n = 0
  | 0 => rfl
  | n + 1 => by rw [smN, smN_0 n]
theorem smN_z {F : Nat → Nat} (n : Nat) (h : ∀ j, j < n → F j = 0) : smN F n = 0 := by rw [smN_cong n h, smN_0]
theorem smN_swap {F : Nat → Nat → Nat} (m : Nat) : ∀ n, smN (fun i => smN (fun j => F i j) m) n = smN (fun j => smN (fun i => F i j) n) m
  | 0 => (smN_0 m).symm
  | n + 1 => by
    rw [smN, smN_swap m n, ← smN_add]
    exact smN_cong m (fun j _ => rfl)
theorem smN_one {F : Nat → Nat} {a : Nat} : ∀ n, a < n → (∀ j, j < n → j ≠ a → F j = 0) → smN F n = F a
  | 0, h, _ => by omega
  | n + 1, h, hz => by
    rw [smN]
    by_cases e : a = n
    · subst e; rw [smN_z a (fun j hj => hz j (by omega) (by omega))]; omega
    · rw [smN_one n (by omega) (fun j hj => hz j (by omega)), hz n (by omega) (fun w => e w.symm)]; omega
theorem smN_mul {F : Nat → Nat} {a : Nat} : ∀ n, smN (fun j => a * F j) n = a * smN F n
  | 0 => rfl
  | n + 1 => by rw [smN, smN, smN_mul n, Nat.mul_add]
theorem smN_upd {g h : Nat → Nat} {x y : Nat} : ∀ N, x < N → smN (fun q => upN' g x (g x + y) q * h q) N = smN (fun q => g q * h q) N + y * h x := by
  intro N hx
  rw [smN_cong N (G := fun q => g q * h q + if q = x then y * h x else 0) (fun q _ => ?_)]
  · exact smN_up N hx
  · unfold upN'
    by_cases e : q = x
    · subst e; rw [if_pos rfl, if_pos rfl, Nat.add_mul]
    · rw [if_neg e, if_neg e]; rfl
theorem fI_lo {c : Nat → Nat → Bool} {g : Nat → Nat} {s : Nat} (hc : Cn c) : ∀ i q, q ≤ s → fI c g s i q = g q
  | 0, _, _ => rfl
  | i + 1, q, h => by
    rw [fI]
    by_cases k : c i s = true
    · have gt := or_gt (hc i s k)
      rw [if_pos k]
      unfold upN'
      rw [if_neg (by omega)]
      exact fI_lo hc i q h
    · rw [if_neg k]; exact fI_lo hc i q h
theorem fI_w {c : Nat → Nat → Bool} {g h : Nat → Nat} {s n : Nat} (hc : Cn c) (hs : s < 2 ^ n) : ∀ i, i ≤ n → smN (fun q => fI c g s i q * h q) (2 ^ n) = smN (fun q => g q * h q) (2 ^ n) + smN (fun j => if c j s = true then g s * h (s ||| 2 ^ j) else 0) i
  | 0, _ => rfl
  | i + 1, hi => by
    have IH := fI_w (g := g) (h := h) hc hs i (by omega)
    rw [fI, smN]
    by_cases k : c i s = true
    · rw [if_pos k, if_pos k, smN_upd (2 ^ n) (or_lt hs (by omega)), IH, fI_lo hc i s (Nat.le_refl _)]
      omega
    · rw [if_neg k, if_neg k, IH]; rfl
theorem fO_st {c : Nat → Nat → Bool} {n : Nat} {g : Nat → Nat} (hc : Cn c) (q : Nat) : ∀ s, q ≤ s → fO c n g s q = fO c n g q q
  | 0, h => by rw [show q = 0 by omega]
  | s + 1, h => by
    by_cases e : q = s + 1
    · rw [e]
    · rw [fO, fI_lo hc n q (by omega)]; exact fO_st hc q s (by omega)
theorem fO_w {c : Nat → Nat → Bool} {n : Nat} {g h : Nat → Nat} (hc : Cn c) : ∀ s, s ≤ 2 ^ n → smN (fun q => fO c n g s q * h q) (2 ^ n) = smN (fun q => g q * h q) (2 ^ n) + smN (fun t => smN (fun j => if c j t = true then fO c n g t t * h (t ||| 2 ^ j) else 0) n) s
  | 0, _ => rfl
  | s + 1, hs => by
    rw [smN, fO, fI_w hc (by omega) n (Nat.le_refl _), fO_w hc s (by omega)]
    omega
theorem FF_w {c : Nat → Nat → Bool} {n : Nat} (hc : Cn c) (h : Nat → Nat) : smN (fun q => FF c n q * h q) (2 ^ n) = h 0 + smN (fun t => smN (fun j => if c j t = true then FF c n t * h (t ||| 2 ^ j) else 0) n) (2 ^ n) := by
  have h0 := Nat.two_pow_pos n
  have e1 : smN (fun q => iN 0 q * h q) (2 ^ n) = h 0 := by
    rw [smN_one (a := 0) (2 ^ n) h0 (fun j _ hj => by unfold iN; rw [if_neg hj, Nat.zero_mul])]
    unfold iN; rw [if_pos rfl, Nat.one_mul]
  have := fO_w (n := n) (g := iN 0) (h := h) hc (2 ^ n) (Nat.le_refl _)
  rw [e1] at this
  unfold FF
  rw [this]
  congr 1
  refine smN_cong _ (fun t ht => smN_cong n (fun j _ => ?_))
  rw [fO_st hc t (2 ^ n) (by omega)]
/-- as many from either end -/
theorem FG {c : Nat → Nat → Bool} {n : Nat} (hc : Cn c) : FF c n (2 ^ n - 1) = GG c n 0 := by
  have h0 := Nat.two_pow_pos n
  have e := FF_w (n := n) hc (GG c n)
  have e2 : smN (fun q => FF c n q * GG c n q) (2 ^ n) = FF c n (2 ^ n - 1) + smN (fun t => smN (fun j => if c j t = true then FF c n t * GG c n (t ||| 2 ^ j) else 0) n) (2 ^ n) := by
    have e3 : smN (fun q => FF c n q * iN (2 ^ n - 1) q) (2 ^ n) = FF c n (2 ^ n - 1) := by
      rw [smN_one (a := 2 ^ n - 1) (2 ^ n) (by omega) (fun j _ hj => by unfold iN; rw [if_neg hj, Nat.mul_zero])]
      unfold iN; rw [if_pos rfl, Nat.mul_one]
    rw [← e3, ← smN_add]
    refine smN_cong _ (fun q hq => ?_)
    rw [GG_eq hc q hq, Nat.mul_add, ← smN_mul]
    congr 1
    refine smN_cong n (fun j _ => ?_)
    by_cases k : c j q = true
    · rw [if_pos k, if_pos k]
    · rw [if_neg k, if_neg k, Nat.mul_zero]
  omega
/-- the sets that b isn't in, or where P holds: what comes in by a, goes out by b -/
theorem FG_cut {c : Nat → Nat → Bool} {n : Nat} (hc : Cn c) (P : Nat → Bool) (hP : P (2 ^ n - 1) = false) : smN (fun t => smN (fun j => if c j t = true ∧ P t = true ∧ P (t ||| 2 ^ j) = false then FF c n t * GG c n (t ||| 2 ^ j) else 0) n) (2 ^ n) = (if P 0 = true then GG c n 0 else 0) + smN (fun t => smN (fun j => if c j t = true ∧ P t = false ∧ P (t ||| 2 ^ j) = true then FF c n t * GG c n (t ||| 2 ^ j) else 0) n) (2 ^ n) := by
  have h0 := Nat.two_pow_pos n
  have e := FF_w (n := n) hc (fun q => if P q = true then GG c n q else 0)
  have e2 : smN (fun q => FF c n q * (if P q = true then GG c n q else 0)) (2 ^ n) = smN (fun t => smN (fun j => if c j t = true ∧ P t = true then FF c n t * GG c n (t ||| 2 ^ j) else 0) n) (2 ^ n) := by
    refine smN_cong _ (fun q hq => ?_)
    by_cases k : P q = true
    · rw [if_pos k, GG_eq hc q hq]
      have : iN (2 ^ n - 1) q = 0 := if_neg (fun w => by rw [w, hP] at k; cases k)
      rw [this, Nat.zero_add, ← smN_mul]
      refine smN_cong n (fun j _ => ?_)
      by_cases k2 : c j q = true
      · rw [if_pos k2, if_pos ⟨k2, k⟩]
      · rw [if_neg k2, if_neg (fun w => k2 w.1), Nat.mul_zero]
    · rw [if_neg k, Nat.mul_zero]
      exact (smN_z n (fun j _ => if_neg (fun w => k w.2))).symm
  rw [e2] at e
  have s1 : smN (fun t => smN (fun j => if c j t = true ∧ P t = true then FF c n t * GG c n (t ||| 2 ^ j) else 0) n) (2 ^ n) = smN (fun t => smN (fun j => if c j t = true ∧ P t = true ∧ P (t ||| 2 ^ j) = false then FF c n t * GG c n (t ||| 2 ^ j) else 0) n) (2 ^ n) + smN (fun t => smN (fun j => if c j t = true ∧ P t = true ∧ P (t ||| 2 ^ j) = true then FF c n t * GG c n (t ||| 2 ^ j) else 0) n) (2 ^ n) := by
    rw [← smN_add]
    refine smN_cong _ (fun t _ => ?_)
    rw [← smN_add]
    refine smN_cong _ (fun j _ => ?_)
    cases c j t <;> cases P t <;> cases P (t ||| 2 ^ j) <;> simp
  have s2 : smN (fun t => smN (fun j => if c j t = true then FF c n t * (if P (t ||| 2 ^ j) = true then GG c n (t ||| 2 ^ j) else 0) else 0) n) (2 ^ n) = smN (fun t => smN (fun j => if c j t = true ∧ P t = false ∧ P (t ||| 2 ^ j) = true then FF c n t * GG c n (t ||| 2 ^ j) else 0) n) (2 ^ n) + smN (fun t => smN (fun j => if c j t = true ∧ P t = true ∧ P (t ||| 2 ^ j) = true then FF c n t * GG c n (t ||| 2 ^ j) else 0) n) (2 ^ n) := by
    rw [← smN_add]
    refine smN_cong _ (fun t _ => ?_)
    rw [← smN_add]
    refine smN_cong _ (fun j _ => ?_)
    cases c j t <;> cases P t <;> cases P (t ||| 2 ^ j) <;> simp
  have e' : smN (fun t => smN (fun j => if c j t = true then FF c n t * (if P (t ||| 2 ^ j) = true then GG c n (t ||| 2 ^ j) else 0) else 0) n) (2 ^ n) = smN (fun t => smN (fun j => if c j t = true then FF c n t * (fun q => if P q = true then GG c n q else 0) (t ||| 2 ^ j) else 0) n) (2 ^ n) := rfl
  rw [← e', s1, s2] at e
  omega
