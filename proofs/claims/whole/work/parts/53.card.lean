/-! the best card: pure -/
theorem lpF_eq {F G : Nat → Qs → Qs} : ∀ (f a : Nat) (q : Qs), (∀ i q, a ≤ i → i < a + f → F i q = G i q) → lpF F f a q = lpF G f a q
  | 0, _, _, _ => rfl
  | f + 1, a, q, h => by
    rw [lpF, lpF, h a q (Nat.le_refl _) (by omega)]
    exact lpF_eq f (a + 1) _ (fun i q h1 h2 => h i q (by omega) (by omega))
def rmB (free : Nat → Bool) (a b : Nat) : Nat → Bool := fun j => free j && !decide (j = a) && !decide (j = b)
def cdN (dd gg : Nat → Nat → Int32) : Nat → Nat → (Nat → Bool) → Int32 → Int32 → List Int32 → Qs → Qs
  | 0, _, _, dead, gain, p, q => cmpQ q (-dead) gain p
  | r + 1, frm, free, dead, gain, p, q => lpF (fun one q => lpF (fun oth q => if free one = true ∧ free oth = true then cdN dd gg r (one + 1) (rmB free one oth) (dead + dd one oth) (gain + gg one oth) (p ++ [nI (one * 8 + oth)]) q else q) (7 - one) (one + 1) q) (8 - frm) frm q
theorem and_1 {x y : Int32} : (x &&& y) &&& nI 1 = (x &&& nI 1) &&& (y &&& nI 1) := by
  apply Int32.toBitVec_inj.1
  simp only [Int32.toBitVec_and]
  apply BitVec.eq_of_getLsbD_eq
  intro i hi
  simp only [BitVec.getLsbD_and]
  cases x.toBitVec.getLsbD i <;> cases y.toBitVec.getLsbD i <;> simp
theorem frB_tb {m a b : Nat} (hm : m < 256) (ha : a < 8) (hb : b < 8) : frB (nI m) a b = (m.testBit a && m.testBit b) := by
  unfold frB
  rw [and_1, sh_tb m hm a ha, sh_tb m hm b hb]
  cases m.testBit a <;> cases m.testBit b <;> decide
theorem frN_nI {m a b : Nat} (ha : a < 8) (hb : b < 8) : frN (nI m) a b = nI (m &&& ((2 ^ a ||| 2 ^ b) ^^^ 4294967295)) := by
  unfold frN
  rw [bit_nI a (by omega), bit_nI b (by omega), nI_or, nI_not, nI_and]
theorem tb_hi {m j : Nat} (hm : m < 256) (hj : 8 ≤ j) : m.testBit j = false := Nat.testBit_lt_two_pow (Nat.lt_of_lt_of_le hm (Nat.pow_le_pow_right (by decide) hj : 2 ^ 8 ≤ 2 ^ j))
theorem frN_tb {m a b : Nat} (hm : m < 256) : (fun j => (m &&& ((2 ^ a ||| 2 ^ b) ^^^ 4294967295)).testBit j) = rmB (fun j => m.testBit j) a b := by
  funext j
  unfold rmB
  rw [Nat.testBit_and, Nat.testBit_xor, Nat.testBit_or, Nat.testBit_two_pow, Nat.testBit_two_pow]
  by_cases c : j < 32
  · rw [tb_M j c]
    by_cases c1 : j = a
    · subst c1; simp
    · by_cases c2 : j = b
      · subst c2; simp
      · have : ¬ a = j := fun w => c1 w.symm
        have : ¬ b = j := fun w => c2 w.symm
        simp [*]
  · have e := tb_hi hm (show 8 ≤ j by omega)
    simp [e]
theorem adP_cd {dd gg : Nat → Int32} {D G : Nat → Nat → Int32} : ∀ (r frm m : Nat) (d gn : Int32) (p : List Int32) (q : Qs), m < 256 → (∀ a b, a < b → b < 8 → m.testBit a = true → m.testBit b = true → dd (a * 8 + b) = D a b ∧ gg (a * 8 + b) = G a b) → frm ≤ 8 → adP dd gg r frm (nI m) d gn p q = cdN D G r frm (fun j => m.testBit j) d gn p q
  | 0, _, _, _, _, _, _, _, _, _ => rfl
  | r + 1, frm, m, d, gn, p, q, hm, hD, hf => by
    rw [adP, cdN]
    refine lpF_eq _ _ _ (fun one q h1 h2 => ?_)
    refine lpF_eq _ _ _ (fun oth q h3 h4 => ?_)
    rw [frB_tb hm (by omega) (by omega)]
    by_cases c : m.testBit one = true ∧ m.testBit oth = true
    · have hm2 : m &&& ((2 ^ one ||| 2 ^ oth) ^^^ 4294967295) < 256 := Nat.lt_of_le_of_lt Nat.and_le_left hm
      rw [if_pos (by rw [c.1, c.2]; rfl), if_pos c, frN_nI (by omega) (by omega), (hD one oth (by omega) (by omega) c.1 c.2).1, (hD one oth (by omega) (by omega) c.1 c.2).2]
      rw [adP_cd r (one + 1) _ _ _ _ q hm2 (fun a b hab hb x y => ?_) (by omega), frN_tb hm]
      rw [Nat.testBit_and] at x y
      exact hD a b hab hb (and3 x).1 (and3 y).1
    · rw [if_neg (fun w => c (and3 w)), if_neg c]
/-- how many are free from frm on -/
def cnF (free : Nat → Bool) (frm : Nat) : Nat → Nat
  | 0 => 0
  | n + 1 => cnF free frm n + (if frm ≤ n ∧ free n = true then 1 else 0)
theorem cnF_rm1 {free : Nat → Bool} {frm x : Nat} (hx : frm ≤ x) (hf : free x = true) : ∀ n, x < n → cnF (fun j => free j && !decide (j = x)) frm n + 1 = cnF free frm n
  | 0, h => by omega
  | n + 1, h => by
    rw [cnF, cnF]
    by_cases c : x = n
    · subst c
      have : ∀ m, m ≤ x → cnF (fun j => free j && !decide (j = x)) frm m = cnF free frm m := by
        intro m
        induction m with
        | zero => intro _; rfl
        | succ m ih =>
          intro hm
          rw [cnF, cnF, ih (by omega)]
          have : ¬ m = x := by omega
          simp [this]
      rw [this x (Nat.le_refl _), if_neg (by simp), if_pos ⟨hx, hf⟩]
    · rw [← cnF_rm1 hx hf n (by omega)]
      have : ¬ n = x := by omega
      simp [this]
      omega
theorem cnF_mo {free : Nat → Bool} {a b : Nat} (h : a ≤ b) : ∀ n, cnF free b n ≤ cnF free a n
  | 0 => Nat.le_refl _
  | n + 1 => by
    rw [cnF, cnF]
    have := cnF_mo (free := free) h n
    by_cases c : b ≤ n ∧ free n = true
    · rw [if_pos c, if_pos ⟨by omega, c.2⟩]; omega
    · rw [if_neg c]; omega
theorem cnF_rm2 {free : Nat → Bool} {frm a b n : Nat} (ha : frm ≤ a) (hab : a < b) (hb : b < n) (h1 : free a = true) (h2 : free b = true) : cnF (rmB free a b) (a + 1) n + 2 ≤ cnF free frm n := by
  have e1 := cnF_rm1 (free := free) ha h1 n (by omega)
  have e2 := cnF_rm1 (free := fun j => free j && !decide (j = a)) (frm := frm) (x := b) (by omega) (by simp [h2]; omega) n hb
  have e3 : cnF (rmB free a b) (a + 1) n ≤ cnF (rmB free a b) frm n := cnF_mo (by omega) n
  have e4 : rmB free a b = fun j => (free j && !decide (j = a)) && !decide (j = b) := rfl
  rw [e4] at e3 ⊢
  omega
theorem cmpQ_some {q : Qs} {v g : Int32} {p : List Int32} : cmpQ q v g p ≠ none := by
  unfold cmpQ
  split
  · split <;> simp
  · simp
theorem lpF_some {F : Nat → Qs → Qs} (hF : ∀ i q, q ≠ none → F i q ≠ none) : ∀ (f a : Nat) (q : Qs), q ≠ none → lpF F f a q ≠ none
  | 0, _, _, h => h
  | f + 1, a, q, h => lpF_some hF f (a + 1) _ (hF a q h)
theorem lpF_none {F : Nat → Qs → Qs} : ∀ (f a : Nat), (∀ i, a ≤ i → i < a + f → F i none = none) → lpF F f a none = none
  | 0, _, _ => rfl
  | f + 1, a, h => by rw [lpF, h a (Nat.le_refl _) (by omega)]; exact lpF_none f (a + 1) (fun i h1 h2 => h i (by omega) (by omega))
theorem lpF_hit {F : Nat → Qs → Qs} (hF : ∀ i q, q ≠ none → F i q ≠ none) {x : Nat} (hx : F x none ≠ none) : ∀ (f a : Nat), a ≤ x → x < a + f → ∀ q, lpF F f a q ≠ none
  | 0, a, h1, h2, q => by omega
  | f + 1, a, h1, h2, q => by
    rw [lpF]
    by_cases c : a = x
    · subst c
      refine lpF_some hF f _ _ ?_
      cases q with
      | none => exact hx
      | some w => exact hF _ _ (by simp)
    · exact lpF_hit hF hx f (a + 1) (by omega) (by omega) _
theorem cdN_some {dd gg : Nat → Nat → Int32} : ∀ (r frm : Nat) (free : Nat → Bool) (d gn : Int32) (p : List Int32) (q : Qs), q ≠ none → cdN dd gg r frm free d gn p q ≠ none
  | 0, _, _, _, _, _, _, _ => cmpQ_some
  | r + 1, frm, free, d, gn, p, q, h => by
    rw [cdN]
    refine lpF_some (fun i q hq => lpF_some (fun j q hq => ?_) _ _ _ hq) _ _ _ h
    split
    · exact cdN_some r _ _ _ _ _ _ hq
    · exact hq
theorem cdN_no {dd gg : Nat → Nat → Int32} : ∀ (r frm : Nat) (free : Nat → Bool) (d gn : Int32) (p : List Int32), cnF free frm 8 < 2 * r → frm ≤ 8 → cdN dd gg r frm free d gn p none = none
  | 0, _, _, _, _, _, h, _ => by omega
  | r + 1, frm, free, d, gn, p, h, hf => by
    rw [cdN]
    refine lpF_none _ _ (fun i h1 h2 => lpF_none _ _ (fun j h3 h4 => ?_))
    split
    next c =>
      have := cnF_rm2 (n := 8) h1 (show i < j by omega) (by omega) c.1 c.2
      exact cdN_no r _ _ _ _ _ (by omega) (by omega)
    next => rfl
theorem cnF_hi {free : Nat → Bool} : ∀ n frm, n ≤ frm → cnF free frm n = 0
  | 0, _, _ => rfl
  | n + 1, frm, h => by rw [cnF, cnF_hi n frm (by omega), if_neg (by omega)]
theorem cnF_1 {free : Nat → Bool} {frm : Nat} : ∀ n, 0 < cnF free frm n → ∃ x, frm ≤ x ∧ x < n ∧ free x = true ∧ ∀ y, frm ≤ y → y < x → free y = false := by
  intro n
  induction n with
  | zero => intro h; exact absurd h (Nat.lt_irrefl 0)
  | succ n ih =>
    intro h
    by_cases c : 0 < cnF free frm n
    · obtain ⟨x, h1, h2, h3, h4⟩ := ih c
      exact ⟨x, h1, by omega, h3, h4⟩
    · rw [cnF] at h
      by_cases c2 : frm ≤ n ∧ free n = true
      · refine ⟨n, c2.1, by omega, c2.2, fun y h1 h2 => ?_⟩
        cases hy : free y with
        | false => rfl
        | true =>
          have := cnF_rm1 (frm := frm) h1 hy n h2
          omega
      · rw [if_neg c2] at h; omega
theorem cnF_st {free : Nat → Bool} {frm x : Nat} (hx : frm ≤ x) (hy : ∀ y, frm ≤ y → y < x → free y = false) : ∀ n, cnF free frm n = cnF free x n
  | 0 => rfl
  | n + 1 => by
    rw [cnF, cnF, cnF_st hx hy n]
    by_cases c : x ≤ n
    · by_cases c2 : free n = true
      · rw [if_pos ⟨by omega, c2⟩, if_pos ⟨c, c2⟩]
      · rw [if_neg (fun w => c2 w.2), if_neg (fun w => c2 w.2)]
    · have e1 : ¬ (x ≤ n ∧ free n = true) := fun w => c w.1
      have e2 : ¬ (frm ≤ n ∧ free n = true) := by
        intro w
        have := hy n w.1 (by omega)
        rw [this] at w
        exact absurd w.2 (by decide)
      rw [if_neg e1, if_neg e2]
theorem cnF_up {free : Nat → Bool} {x : Nat} (hx : free x = true) : ∀ n, x < n → cnF free x n = cnF free (x + 1) n + 1
  | 0, h => by omega
  | n + 1, h => by
    rw [cnF, cnF]
    by_cases c : x = n
    · subst c
      rw [if_pos ⟨Nat.le_refl _, hx⟩, if_neg (fun w => by omega), cnF_hi x x (Nat.le_refl _), cnF_hi x (x + 1) (by omega)]
    · rw [cnF_up hx n (by omega)]
      by_cases c2 : free n = true
      · rw [if_pos ⟨by omega, c2⟩, if_pos ⟨by omega, c2⟩]
      · rw [if_neg (fun w => c2 w.2), if_neg (fun w => c2 w.2)]
theorem cdN_yes {dd gg : Nat → Nat → Int32} : ∀ (r frm : Nat) (free : Nat → Bool) (d gn : Int32) (p : List Int32) (q : Qs), 2 * r ≤ cnF free frm 8 → frm ≤ 8 → cdN dd gg r frm free d gn p q ≠ none
  | 0, _, _, _, _, _, _, _, _ => cmpQ_some
  | r + 1, frm, free, d, gn, p, q, h, hf => by
    obtain ⟨x, h1, h2, h3, h4⟩ := cnF_1 (free := free) (frm := frm) 8 (by omega)
    have e1 := cnF_st h1 h4 8
    have e2 := cnF_up h3 8 h2
    obtain ⟨y, h5, h6, h7, h8⟩ := cnF_1 (free := free) (frm := x + 1) 8 (by omega)
    have e3 := cnF_rm1 (free := free) (frm := x + 1) h5 h7 8 h6
    rw [cdN]
    have mono : ∀ i (q : Qs), q ≠ none → lpF (fun oth q => if free i = true ∧ free oth = true then cdN dd gg r (i + 1) (rmB free i oth) (d + dd i oth) (gn + gg i oth) (p ++ [nI (i * 8 + oth)]) q else q) (7 - i) (i + 1) q ≠ none := by
      intro i q hq
      refine lpF_some (fun j q hq => ?_) _ _ _ hq
      split
      · exact cdN_some r _ _ _ _ _ _ hq
      · exact hq
    refine lpF_hit mono (x := x) ?_ _ _ h1 (by omega) q
    refine lpF_hit (fun j q hq => ?_) (x := y) ?_ _ _ h5 (by omega) none
    · split
      · exact cdN_some r _ _ _ _ _ _ hq
      · exact hq
    · rw [if_pos ⟨h3, h7⟩]
      refine cdN_yes r _ _ _ _ _ _ ?_ (by omega)
      have e5 : cnF (rmB free x y) (x + 1) 8 = cnF (fun j => free j && !decide (j = y)) (x + 1) 8 := by
        have : ∀ n, cnF (rmB free x y) (x + 1) n = cnF (fun j => free j && !decide (j = y)) (x + 1) n := by
          intro n
          induction n with
          | zero => rfl
          | succ n ih =>
            rw [cnF, cnF, ih]
            by_cases c : x + 1 ≤ n
            · have : ¬ n = x := by omega
              unfold rmB
              simp [this]
            · rw [if_neg (fun w => c w.1), if_neg (fun w => c w.1)]
        exact this 8
      omega
theorem cnF_pc {m : Nat} : ∀ n, cnF (fun j => m.testBit j) 0 n = pcN n m
  | 0 => rfl
  | n + 1 => by
    rw [cnF, pcN, cnF_pc n]
    by_cases c : m.testBit n = true
    · rw [if_pos ⟨by omega, c⟩, if_pos c]; omega
    · rw [if_neg (fun w => c w.2), if_neg c]; omega
