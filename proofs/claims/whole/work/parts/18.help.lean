/-! small helps -/
theorem ixN {a j : Nat} (N : Nat) (h : a + j < N) (hN : N < 2 ^ 31 := by decide) : vp_in (nI a + nI j) N := by
  rw [nI_add]; exact vp_in_nI h hN
theorem ixC {a j : Nat} (h : a + j < 2 ^ 31) : (nI a + nI j).toNatClampNeg = a + j := by
  rw [nI_add]; exact nI_clamp h
theorem ix1 {j : Nat} (N : Nat) (h : j < N) (hN : N < 2 ^ 31 := by decide) : vp_in (nI j) N := vp_in_nI h hN
/-- it answers x and leaves the heap as it was -/
abbrev Rd (h : Hp) (x : Int32) : AV → Hp → Prop := fun v h' => v = vI x ∧ h' = h
/-- it answers x, the heap is h2 -/
abbrev Rt (x : Int32) (h2 : Hp) : AV → Hp → Prop := fun v h' => v = vI x ∧ h' = h2
/-- nothing is answered, the heap is h2 -/
abbrev Rv (h2 : Hp) : AV → Hp → Prop := fun _ h' => h' = h2
def b2 (c : Bool) : Int32 := match c with
  | true => nI 1
  | false => nI 0
theorem b2_01 (c : Bool) : b2 c = 0 ∨ b2 c = 1 := by cases c <;> decide
theorem b2_0 {c : Bool} : b2 c = 0 ↔ c = false := by cases c <;> decide
theorem b2_n0 {c : Bool} : ¬ b2 c = 0 ↔ c = true := by cases c <;> decide
theorem b2_inj {a b : Bool} (h : b2 a = b2 b) : a = b := by cases a <;> cases b <;> first | rfl | (exact absurd h (by decide))
theorem bT {c : Bool} (h : c = true) : vI (nI 1) = vI (b2 c) := by rw [h]; rfl
theorem bF {c : Bool} (h : c = false) : vI (nI 0) = vI (b2 c) := by rw [h]; rfl
theorem dT {p : Prop} [Decidable p] (h : p) : decide p = true := decide_eq_true h
theorem dF {p : Prop} [Decidable p] (h : ¬ p) : decide p = false := decide_eq_false h
theorem nn {p : Prop} (h : ¬ ¬ p) : p := Classical.not_not.mp h
theorem i_nle {a b : Int32} (h : ¬ a ≤ b) : b < a := Int32.not_le.mp h
theorem i_nlt {a b : Int32} (h : ¬ a < b) : b ≤ a := Int32.not_lt.mp h
theorem i_ltn {a b : Int32} (h : b ≤ a) : ¬ a < b := Int32.not_lt.mpr h
theorem i_len {a b : Int32} (h : b < a) : ¬ a ≤ b := Int32.not_le.mpr h
theorem e01 {x : Int32} (h : x = nI 0 ∨ x = nI 1) : x = 0 ∨ x = 1 := h
/-- the bit of place j -/
def bit (j : Nat) : Int32 := nI 1 <<< (nI j &&& 31)
/-- bits gathered -/
def orF (g : Nat → Int32) : Nat → Int32
  | 0 => nI 0
  | n + 1 => orF g n ||| g n
def smF (g : Nat → Int32) : Nat → Int32
  | 0 => nI 0
  | n + 1 => smF g n + g n
theorem orF_cong {f g : Nat → Int32} : ∀ {n : Nat}, (∀ j, j < n → f j = g j) → orF f n = orF g n
  | 0, _ => rfl
  | n + 1, h => by rw [orF, orF, orF_cong (fun j hj => h j (by omega)), h n (by omega)]
theorem smF_cong {f g : Nat → Int32} : ∀ {n : Nat}, (∀ j, j < n → f j = g j) → smF f n = smF g n
  | 0, _ => rfl
  | n + 1, h => by rw [smF, smF, smF_cong (fun j hj => h j (by omega)), h n (by omega)]
def clampN (lo hi x : Int32) : Int32 := if lo < (if x < hi then x else hi) then (if x < hi then x else hi) else lo
theorem upd_s {f : Nat → Int32} {k : Nat} {x : Int32} : upd f k x k = x := if_pos rfl
theorem upd_n {f : Nat → Int32} {k j : Nat} {x : Int32} (h : j ≠ k) : upd f k x j = f j := if_neg h
theorem sX_eq {h : Hp} {k i j : Nat} {x : Int32} : sX h k i j x = sV h k i (upd (h.1 k i) j x) := rfl
theorem sV_sV {h : Hp} {k i : Nat} {f g : Nat → Int32} : sV (sV h k i f) k i g = sV h k i g := by
  unfold sV
  refine Prod.ext ?_ rfl
  funext k' i'
  dsimp only
  split <;> rfl
theorem sV_sX {h : Hp} {k i j : Nat} {f : Nat → Int32} {x : Int32} : sX (sV h k i f) k i j x = sV h k i (upd f j x) := by
  unfold sX
  rw [sV_same, sV_sV]
theorem hp_eq {h h' : Hp} (e1 : ∀ k i, h.1 k i = h'.1 k i) (e2 : h.2 = h'.2) : h = h' := Prod.ext (funext fun k => funext fun i => e1 k i) e2
theorem wp_h {al : List Ad} {M : MT} {k : Nat} {P : AV → Hp → Prop} {pc : Nat} {lv : List (Option AV)} {st : List AV} {h h' : Hp} (e : h = h') (w : WP al M k P pc lv st h') : WP al M k P pc lv st h := e ▸ w
theorem wp_lv {al : List Ad} {M : MT} {k : Nat} {P : AV → Hp → Prop} {pc : Nat} {lv lv' : List (Option AV)} {st : List AV} {h : Hp} (e : lv = lv') (w : WP al M k P pc lv' st h) : WP al M k P pc lv st h := e ▸ w
