/-! class Text: signs, size, place, limit -/
theorem sX_same {h : Hp} {k i j : Nat} {x : Int32} (e : h.1 k i j = x) : sX h k i j x = h := by
  unfold sX sV
  refine Prod.ext ?_ rfl
  funext k' i'
  dsimp only
  split
  next c =>
    obtain ⟨rfl, rfl⟩ := c
    funext j'
    by_cases cj : j' = j
    · subst cj; rw [upd_s, e]
    · rw [upd_n cj]
  next => rfl
theorem sX_sX {h : Hp} {k i j : Nat} {x y : Int32} : sX (sX h k i j x) k i j y = sX h k i j y := by
  rw [sX_eq (h := h), sV_sX]
  unfold sX
  congr 1
  funext j'
  by_cases cj : j' = j
  · subst cj; rw [upd_s, upd_s]
  · rw [upd_n cj, upd_n cj, upd_n cj]
/-- the sign at p, if there is one -/
def pk (T : Nat → Int32) (n L p : Nat) : Int32 := if p < n ∧ p < L then T p else -(nI 1)
/-- THE TEXT: n signs, read up to p, L of them at most -/
def Tx (h : Hp) (n L p : Nat) : Prop := h.1 9 0 1 = nI n ∧ h.1 9 0 2 = nI p ∧ h.1 9 0 3 = nI L ∧ n ≤ 80 ∧ L ≤ 80 ∧ p ≤ 200
abbrev sA (h : Hp) (p : Nat) : Hp := sX h 9 0 2 (nI p)
theorem Tx.at {h : Hp} {n L p q : Nat} (hx : Tx h n L p) (hq : q ≤ 200) : Tx (sA h q) n L q := by
  obtain ⟨h1, h2, h3, h4, h5, h6⟩ := hx
  refine ⟨?_, ?_, ?_, h4, h5, hq⟩ <;> rw [rdX] <;> simp [h1, h3]
theorem sA_same {h : Hp} {n L p : Nat} (hx : Tx h n L p) : sA h p = h := sX_same hx.2.1
theorem sA_T {h : Hp} {q : Nat} : (sA h q).1 34 0 = h.1 34 0 := by
  unfold sA sX; rw [rdV]; simp
def cutB (x s : Int32) : Bool := !(decide (x < 0)) && decide (x ≤ s)
theorem c_tcut {k : Nat} {h : Hp} {x : Int32} : Ct alC mX9_cut k [vR 9 0, vI x] h (Rt (b2 (cutB x (h.1 9 0 1))) (if cutB x (h.1 9 0 1) = true then sX h 9 0 1 x else h)) := by
  refine ct_vc tX9_cut [] 30 okC kX9_cut rfl ?_
  refine ⟨fun c => ⟨Or.inl rfl, ?_⟩, fun c => ⟨fun c2 => ⟨Or.inr rfl, ?_⟩, fun c2 => ⟨Or.inl rfl, ?_⟩⟩⟩
  · rw [show cutB x (h.1 9 0 1) = false by simp [cutB, c]]; exact ⟨rfl, rfl⟩
  · rw [show cutB x (h.1 9 0 1) = true by simp [cutB, c, c2]]; exact ⟨rfl, rfl⟩
  · rw [show cutB x (h.1 9 0 1) = false by simp [cutB, c2]]; exact ⟨rfl, rfl⟩
theorem c_tclear {k : Nat} {h : Hp} : Ct alC mX9_clear k [vR 9 0] h (Rv (sX h 9 0 1 (nI 0))) := ct_vc tX9_clear [] 10 okC kX9_clear rfl rfl
theorem c_tisEmpty {k : Nat} {h : Hp} : Ct alC mX9_isEmpty k [vR 9 0] h (Rd h (b2 (decide (h.1 9 0 1 = 0)))) := by
  refine ct_vc tX9_isEmpty [] 20 okC kX9_isEmpty rfl ?_
  exact ⟨fun c => ⟨Or.inl rfl, bF (dF c), rfl⟩, fun c => ⟨Or.inr rfl, bT (dT (nn c)), rfl⟩⟩
theorem c_tstart {k : Nat} {h : Hp} {x : Int32} : Ct alC mX9_start k [vR 9 0, vI x] h (Rv (sX (sX h 9 0 2 (nI 0)) 9 0 3 x)) := ct_vc tX9_start [] 20 okC kX9_start rfl rfl
theorem c_tended {k : Nat} {h : Hp} {n L p : Nat} (hx : Tx h n L p) : Ct alC mX9_ended k [vR 9 0] h (Rd h (b2 (decide (n ≤ p)))) := by
  obtain ⟨h1, h2, h3, h4, h5, h6⟩ := hx
  refine ct_vc tX9_ended [] 20 okC kX9_ended rfl ?_
  refine ⟨fun c => ⟨Or.inl rfl, bF (dF ?_), rfl⟩, fun c => ⟨Or.inr rfl, bT (dT ?_), rfl⟩⟩
  · rw [h1, h2, nI_ltI (by omega) (by omega)] at c; omega
  · rw [h1, h2, nI_ltI (by omega) (by omega)] at c; omega
theorem c_peek {k : Nat} {h : Hp} {n L p : Nat} (hx : Tx h n L p) : Ct alC mX9_peek k [vR 9 0] h (Rd h (pk (h.1 34 0) n L p)) := by
  obtain ⟨h1, h2, h3, h4, h5, h6⟩ := hx
  refine ct_vc tX9_peek [] 30 okC kX9_peek rfl ?_
  refine ⟨fun c => ⟨?_, rfl⟩, fun c => ⟨fun c2 => ⟨?_, rfl⟩, fun c2 => ⟨?_, ?_, rfl⟩⟩⟩
  · rw [h1, h2, nI_leI (by omega) (by omega)] at c
    unfold pk; rw [if_neg (by omega)]
  · rw [h3, h2, nI_leI (by omega) (by omega)] at c2
    unfold pk; rw [if_neg (by omega)]
  · rw [h1, h2, nI_leI (by omega) (by omega)] at c
    rw [h2]; exact ix1 80 (by omega)
  · rw [h1, h2, nI_leI (by omega) (by omega)] at c
    rw [h3, h2, nI_leI (by omega) (by omega)] at c2
    unfold pk; rw [if_pos (by omega), h2, nI_clamp (by omega)]
theorem c_next {k : Nat} {h : Hp} {n L p : Nat} (hx : Tx h n L p) : Ct alC mX9_next (k + 1) [vR 9 0] h (Rt (pk (h.1 34 0) n L p) (sA h (p + 1))) := by
  refine ct_vc tX9_next [] 30 okC kX9_next rfl ?_
  refine ⟨_, c_peek hx, ?_⟩
  rintro v h' ⟨rfl, rfl⟩
  refine ⟨rfl, ?_⟩
  rw [hx.2.1, nI_add]
/-- a sign is passed if it is c -/
def tkS (T : Nat → Int32) (n L : Nat) (c : Int32) (p : Nat) : Bool × Nat := if pk T n L p = c then (true, p + 1) else (false, p)
theorem c_ttake {k : Nat} {h : Hp} {n L p : Nat} {c : Int32} (hx : Tx h n L p) : Ct alC mX9_take (k + 1) [vR 9 0, vI c] h (Rt (b2 (tkS (h.1 34 0) n L c p).1) (sA h (tkS (h.1 34 0) n L c p).2)) := by
  refine ct_vc tX9_take [] 30 okC kX9_take rfl ?_
  refine ⟨_, c_peek hx, ?_⟩
  rintro v h' ⟨rfl, rfl⟩
  unfold tkS
  refine ⟨fun c => ⟨Or.inr rfl, ?_⟩, fun c => ⟨Or.inl rfl, ?_⟩⟩
  · rw [if_pos c]
    refine ⟨rfl, ?_⟩
    rw [hx.2.1, nI_add]
  · rw [if_neg c]
    exact ⟨rfl, (sA_same hx).symm⟩
/-- a digit from lo to hi -/
def tkD (T : Nat → Int32) (n L : Nat) (lo hi : Int32) (p : Nat) : Int32 × Nat := if pk T n L p - nI 48 < lo ∨ hi < pk T n L p - nI 48 then (-(nI 1), p) else (pk T n L p - nI 48, p + 1)
theorem c_takeDigit {k : Nat} {h : Hp} {n L p : Nat} {lo hi : Int32} (hx : Tx h n L p) : Ct alC mX9_takeDigit (k + 1) [vR 9 0, vI lo, vI hi] h (Rt (tkD (h.1 34 0) n L lo hi p).1 (sA h (tkD (h.1 34 0) n L lo hi p).2)) := by
  refine ct_vc tX9_takeDigit [] 30 okC kX9_takeDigit rfl ?_
  refine ⟨_, c_peek hx, ?_⟩
  rintro v h' ⟨rfl, rfl⟩
  unfold tkD
  refine ⟨fun c => ?_, fun c => ⟨fun c2 => ?_, fun c2 => ?_⟩⟩
  · rw [if_pos (Or.inl c)]; exact ⟨rfl, (sA_same hx).symm⟩
  · rw [if_neg (fun q => q.elim c (i_ltn c2))]
    refine ⟨rfl, ?_⟩
    rw [hx.2.1, nI_add]
  · rw [if_pos (Or.inr (i_nle c2))]; exact ⟨rfl, (sA_same hx).symm⟩
theorem tkD_le {T : Nat → Int32} {n L : Nat} {lo hi : Int32} {p : Nat} : (tkD T n L lo hi p).2 ≤ p + 1 := by
  unfold tkD; split <;> simp
/-- the rest of a number: i digits are read, m are allowed -/
def tkR (T : Nat → Int32) (n L m : Nat) : Nat → Nat → Int32 → Nat → Int32 × Nat
  | 0, _, x, p => (x, p)
  | f + 1, i, x, p => if m ≤ i then (x, p) else if (tkD T n L (nI 0) (nI 9) p).1 = -(nI 1) then (x, p) else tkR T n L m f (i + 1) (if i = 0 then (tkD T n L (nI 0) (nI 9) p).1 else x * nI 10 + (tkD T n L (nI 0) (nI 9) p).1) (tkD T n L (nI 0) (nI 9) p).2
def tkN (T : Nat → Int32) (n L m p : Nat) : Int32 × Nat := tkR T n L m (m + 1) 0 (-(nI 1)) p
theorem tkD_none {T : Nat → Int32} {n L : Nat} {p : Nat} (h : (tkD T n L (nI 0) (nI 9) p).1 = -(nI 1)) : (tkD T n L (nI 0) (nI 9) p).2 = p := by
  unfold tkD at h ⊢
  split
  · rfl
  next c =>
    rw [if_neg c] at h
    exfalso
    have h' : pk T n L p - nI 48 = -(nI 1) := h
    rw [h'] at c
    exact c (Or.inl (by decide))
theorem c_takeNumber {k : Nat} {h : Hp} {n L p m : Nat} (hx : Tx h n L p) (hm : m ≤ 3) (hp : p ≤ 100) : Ct alC mX9_takeNumber (k + 2) [vR 9 0, vI (nI m)] h (Rt (tkN (h.1 34 0) n L m p).1 (sA h (tkN (h.1 34 0) n L m p).2)) := by
  have Lp : ∀ (f i : Nat) (x : Int32) (q : Nat), m + 1 ≤ f + i → q ≤ p + i → i ≤ m → ∀ P : AV → Hp → Prop, P (vI (tkR (h.1 34 0) n L m f i x q).1) (sA h (tkR (h.1 34 0) n L m f i x q).2) → WP alC mX9_takeNumber (k + 2) P 4 [some (vR 9 0), some (vI (nI m)), some (vI x), some (vI (nI i)), none] [] (sA h q) := by
    intro f
    induction f with
    | zero => intro i x q h1 h2 h3 P; omega
    | succ f ih =>
      intro i x q h1 h2 h3 P hP
      refine wp_at tX9_takeNumber [(4, [true, true, true, true, false]), (43, [true, true, true, true, false])] 40 4 okC kX9_takeNumber ?_
      rw [tkR] at hP
      refine ⟨fun c => ?_, fun c => ?_⟩
      · rw [nI_leI (by omega) (by omega)] at c
        rw [if_pos c] at hP
        exact hP
      · rw [nI_leI (by omega) (by omega)] at c
        rw [if_neg c] at hP
        refine ⟨_, c_takeDigit (hx.at (q := q) (by omega)), ?_⟩
        rintro v h' ⟨rfl, rfl⟩
        rw [sA_T]
        have hle := tkD_le (T := h.1 34 0) (n := n) (L := L) (lo := nI 0) (hi := nI 9) (p := q)
        rw [show sA (sA h q) (tkD (h.1 34 0) n L (nI 0) (nI 9) q).2 = sA h (tkD (h.1 34 0) n L (nI 0) (nI 9) q).2 from sX_sX]
        refine ⟨fun c2 => ⟨fun c3 => ?_, fun c3 => ?_⟩, fun c2 => ?_⟩
        · rw [if_neg c2] at hP
          have hi : i ≠ 0 := fun z => c3 (by rw [z]; rfl)
          rw [if_neg hi] at hP
          refine wp_at tX9_takeNumber [(4, [true, true, true, true, false])] 10 43 okC kX9_takeNumber ?_
          have := ih (i + 1) (x * nI 10 + (tkD (h.1 34 0) n L (nI 0) (nI 9) q).1) (tkD (h.1 34 0) n L (nI 0) (nI 9) q).2 (by omega) (by omega) (by omega) P hP
          rw [← nI_add i 1] at this
          exact this
        · rw [if_neg c2] at hP
          have hi : i = 0 := by
            have z := nn c3
            exact (nI_eq (by omega) (by omega)).mp (show nI i = nI 0 from z)
          rw [if_pos hi] at hP
          refine wp_at tX9_takeNumber [(4, [true, true, true, true, false])] 10 43 okC kX9_takeNumber ?_
          have := ih (i + 1) (tkD (h.1 34 0) n L (nI 0) (nI 9) q).1 (tkD (h.1 34 0) n L (nI 0) (nI 9) q).2 (by omega) (by omega) (by omega) P hP
          rw [← nI_add i 1] at this
          exact this
        · have c2' := nn c2
          rw [if_pos c2'] at hP
          rw [tkD_none c2']
          exact hP
  refine ct_vc tX9_takeNumber [(4, [true, true, true, true, false])] 20 okC kX9_takeNumber rfl ?_
  have := Lp (m + 1) 0 (-(nI 1)) p (by omega) (by omega) (by omega) (Rt (tkN (h.1 34 0) n L m p).1 (sA h (tkN (h.1 34 0) n L m p).2)) ⟨rfl, rfl⟩
  rw [sA_same hx] at this
  exact this
/-- four signs, the highest byte first -/
def byt4 (v : Int32) (j : Nat) : Int32 := (v.toUInt32 >>> ((nI (24 - 8 * j)).toUInt32 &&& Int32.toUInt32 31)).toInt32 &&& nI 255
def appF (T : Nat → Int32) (n : Nat) (v : Int32) : Nat → Nat → Int32
  | 0 => T
  | j + 1 => upd (appF T n v j) (n + j) (byt4 v j)
theorem c_append {k n : Nat} {h : Hp} {v : Int32} (h1 : h.1 9 0 1 = nI n) (hn : n ≤ 80) : Ct alC mX9_append k [vR 9 0, vI v] h (Rt (b2 (decide (n + 4 ≤ 80))) (if n + 4 ≤ 80 then sX (sV h 34 0 (appF (h.1 34 0) n v 4)) 9 0 1 (nI (n + 4)) else h)) := by
  have Lp : n + 4 ≤ 80 → ∀ j, j ≤ 4 → WP alC mX9_append k (Rt (b2 (decide (n + 4 ≤ 80))) (if n + 4 ≤ 80 then sX (sV h 34 0 (appF (h.1 34 0) n v 4)) 9 0 1 (nI (n + 4)) else h)) 16 [some (vR 9 0), some (vI v), some (vI (nI 24 - nI (8 * j)))] [] (sX (sV h 34 0 (appF (h.1 34 0) n v j)) 9 0 1 (nI (n + j))) := by
    intro h4
    refine loop_up 4 ?_ (fun j hj ih => ?_)
    · refine wp_at tX9_append [(16, [true, true, true])] 40 16 okC kX9_append ⟨fun _ => ⟨Or.inr rfl, ?_⟩, fun c => absurd (by decide) c⟩
      rw [dT h4, if_pos h4]
      exact ⟨rfl, rfl⟩
    · refine wp_at tX9_append [(16, [true, true, true])] 40 16 okC kX9_append ⟨fun c => ?_, fun c => ?_⟩
      · exfalso
        rcases (by omega : j = 0 ∨ j = 1 ∨ j = 2 ∨ j = 3) with rfl | rfl | rfl | rfl <;> revert c <;> decide
      · have e1 : (sX (sV h 34 0 (appF (h.1 34 0) n v j)) 9 0 1 (nI (n + j))).1 9 0 1 = nI (n + j) := by rw [rdX]; simp
        have e3 : nI 24 - nI (8 * j) = nI (24 - 8 * j) := pk_sub (by omega)
        have ev : nI 24 - nI (8 * (j + 1)) = nI 24 - nI (8 * j) + -(nI 8) := by
          rcases (by omega : j = 0 ∨ j = 1 ∨ j = 2 ∨ j = 3) with rfl | rfl | rfl | rfl <;> decide
        refine ⟨?_, ?_⟩
        · rw [e1]; exact ix1 80 (by omega)
        · rw [ev] at ih
          refine wp_h ?_ ih
          rw [e1, nI_clamp (by omega), e3]
          refine hp_eq (fun k' i' => ?_) rfl
          by_cases c1 : k' = 34 ∧ i' = 0
          · obtain ⟨rfl, rfl⟩ := c1
            simp [sX_eq, rdV, appF, byt4]
          · by_cases c2 : k' = 9 ∧ i' = 0
            · obtain ⟨rfl, rfl⟩ := c2
              simp [sX_eq, rdV]
              funext q
              by_cases cq : q = 1
              · subst cq
                simp [upd_s, nI_add, Nat.add_assoc]
              · simp [upd_n cq]
            · simp [sX_eq, rdV, c1, c2]
  refine ct_vc tX9_append [(16, [true, true, true])] 40 okC kX9_append rfl ?_
  refine ⟨fun c => ?_, fun c => ⟨Or.inl rfl, ?_⟩⟩
  · rw [h1, nI_add, nI_leI (by omega) (by omega)] at c
    have := Lp c 0 (by omega)
    rw [show nI 24 - nI (8 * 0) = nI 24 by decide] at this
    refine wp_h ?_ this
    refine hp_eq (fun k' i' => ?_) rfl
    by_cases c1 : k' = 34 ∧ i' = 0
    · obtain ⟨rfl, rfl⟩ := c1
      simp [sX_eq, rdV, appF]
    · by_cases c2 : k' = 9 ∧ i' = 0
      · obtain ⟨rfl, rfl⟩ := c2
        simp [sX_eq, rdV]
        funext q
        by_cases cq : q = 1
        · subst cq
          simp [upd_s, h1]
        · simp [upd_n cq]
      · simp [sX_eq, rdV, c1, c2]
  · rw [h1, nI_add, nI_leI (by omega) (by omega)] at c
    rw [dF c, if_neg c]
    exact ⟨rfl, rfl⟩
