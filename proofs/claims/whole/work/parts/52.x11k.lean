/-! the class's calls: even, card -/
theorem lg_ge {x y : Int64} : 0 ≤ lg_cmp x y ↔ ¬ x < y := by
  unfold lg_cmp
  rw [Int64.lt_iff_toInt_lt]
  split
  next c =>
    have c := Int64.lt_iff_toInt_lt.mp c
    exact ⟨fun _ => by omega, fun _ => by decide⟩
  next c =>
    have c : ¬ y < x := c
    rw [Int64.lt_iff_toInt_lt] at c
    split
    next e => subst e; exact ⟨fun _ => by omega, fun _ => by decide⟩
    next e =>
      have : x.toInt ≠ y.toInt := fun w => e (Int64.toInt_inj.mp w)
      exact ⟨fun w => absurd w (by decide), fun w => by omega⟩
abbrev Es : Type := Option (Nat × Nat × Int64)
def abL (x : Int64) : Int64 := if 0 < x then x else -x
def evG (g : GS) (one oth : Nat) : Int64 := abL ((stF (gC g) (gR g) (gS g) one oth).toInt64 - (stF (gC g) (gR g) (gS g) oth one).toInt64)
def ev2 (g : GS) (one oth : Nat) (q : Es) : Es := if frB (nI (abN g)) one oth = true then (match q with
  | none => some (one, oth, evG g one oth)
  | some (a, b, l) => if evG g one oth < l then some (one, oth, evG g one oth) else some (a, b, l)) else q
def evO (g : GS) (one : Nat) (q : Es) : Es := lpG (ev2 g one) (gN g - 1 - one) (one + 1) q
def evR (g : GS) : Es := lpG (evO g) (gN g) 0 none
def evp (q : Es) : Int32 := match q with
  | none => -(nI 1)
  | some (a, b, _) => nI (a * 8 + b)
def evl (q : Es) : Int64 := match q with
  | none => lN 0
  | some (_, _, l) => l
def evK (q : Es) : Prop := ∀ a b l, q = some (a, b, l) → a < 8 ∧ b < 8
def aEven (g : GS) : Int32 := match evR g with
  | none => -(nI 2)
  | some (_, _, l) => (if l < lN 9999 then l else lN 9999).toInt32
def nEven (g : GS) : GS := match evR g with
  | none => g
  | some (a, b, _) => uL g [(nI a).toInt64, (nI b).toInt64]
theorem CI.ru {h : Hp} {g : GS} (a : CI h g) (z : Sz g) : RuK h (h.2.2 0) (gC g) := (a.wd z).2.2.2.2.2.1
theorem fr1 {h h' : Hp} {g : GS} {b : Nat} (a : CI h g) (hb : b < 2) (f : Fr [(27, b)] h h') : CI h' g := by
  refine a.scr f ?_
  intro q hq
  have hb2 : b = 0 ∨ b = 1 := by omega
  rcases hb2 with e | e <;> rw [e] at hq <;> simp at hq <;> subst hq <;> simp [scrL]
theorem pn1 : ∀ a, a < 8 → ∀ b, b < 8 → ¬ nI (a * 8 + b) = -(nI 1) := by decide
theorem c_valG {k one oth : Nat} {h : Hp} {g : GS} (a : CI h g) (z : Sz g) (h1 : one < 8) (h2 : oth < 8) : Ct alC mX6_value (k + 2) [vR 6 (h.2.2 0), vR 3 0, vR 8 0, vI (nI one), vI (nI oth)] h (fun x h' => x = vI (stF (gC g) (gR g) (gS g) one oth) ∧ CI h' g) := by
  refine ct_post (c_val h1 h2 (a.ru z)) ?_
  rintro v h' ⟨rfl, f⟩
  rw [a.r, a.1.1]
  exact ⟨rfl, fr1 a a.2.2.2.2.2.1.1 f⟩
theorem c_Even {k : Nat} {h : Hp} {g : GS} (a : CI h g) (z : Sz g) : Ct alC mX11_even (k + 4) [vR 11 0] h (fun v h' => v = vI (aEven g) ∧ CI h' (nEven g)) := by
  have hn := z.1
  refine ct_vc tX11_even [(19, [true, true, true, true, false, true, false, false, false, false, false])] 40 okC kX11_even rfl ?_
  refine ⟨_, c_ableBits a.n hn, ?_⟩
  rintro v h1 ⟨rfl, rfl⟩
  rw [a.1.1, abF_bs hn]
  have OU : ∀ f i (q : Es) h1, CI h1 g → i + f = gN g → evR g = lpG (evO g) f i q → evK q → WP alC mX11_even (k + 4) (fun v h' => v = vI (aEven g) ∧ CI h' (nEven g)) 19 [some (vR 11 0), some (vI (nI (abN g))), some (vI (evp q)), some (vL (evl q)), none, some (vI (nI i)), none, none, none, none, none] [] h1 := by
    intro f
    induction f with
    | zero =>
      intro i q h1 a1 hi e hk
      unfold aEven nEven
      rw [e]
      refine wp_at tX11_even [] 60 19 okC kX11_even ⟨fun _ => ?_, fun c => absurd (by rw [a1.n]; exact nI_le (show gN g ≤ i by omega) (by omega)) c⟩
      match q, hk with
      | none, hk => exact ⟨fun c => absurd rfl c, fun _ => ⟨rfl, a1⟩⟩
      | some (x, y, l), hk =>
        obtain ⟨b1, b2⟩ := hk x y l rfl
        have p8 := pair8 _ b1 _ b2
        refine ⟨fun _ => ⟨_, c_clrG a1, ?_⟩, fun c => absurd (nn c) (pn1 _ b1 _ b2)⟩
        rintro v h2 ⟨a2, -⟩
        refine ⟨by decide, _, c_addG a2 (by show (0 : Nat) < 8; decide), ?_⟩
        rintro v h3 ⟨a3, -⟩
        refine ⟨by decide, _, c_addG a3 (by show (1 : Nat) < 8; decide), ?_⟩
        rintro v h4 ⟨a4, -⟩
        have e8 : evp (some (x, y, l)) = nI (x * 8 + y) := rfl
        rw [e8, p8.2, p8.1] at a4
        exact ⟨rfl, a4⟩
    | succ f IH =>
      intro i q h1 a1 hi e hk
      have IN : ∀ f' j (q : Es) h1, CI h1 g → j + f' = gN g → evR g = lpG (evO g) f (i + 1) (lpG (ev2 g i) f' j q) → evK q → WP alC mX11_even (k + 4) (fun v h' => v = vI (aEven g) ∧ CI h' (nEven g)) 37 [some (vR 11 0), some (vI (nI (abN g))), some (vI (evp q)), some (vL (evl q)), none, some (vI (nI i)), some (vI (nI j)), none, none, none, none] [] h1 := by
        intro f'
        induction f' with
        | zero =>
          intro j q h1 a1 hj e hk
          have := IH (i + 1) q h1 a1 (by omega) e hk
          rw [← nI_add i 1] at this
          exact wp_at tX11_even [(19, [true, true, true, true, false, true, false, false, false, false, false])] 20 37 okC kX11_even ⟨fun _ => this, fun c => absurd (by rw [a1.n]; exact nI_le (show gN g ≤ j by omega) (by omega)) c⟩
        | succ f' IH2 =>
          intro j q h1 a1 hj e hk
          rw [lpG_s] at e
          refine wp_at tX11_even [(37, [true, true, true, true, false, true, true, false, false, false, false]), (122, [true, true, true, true, false, true, true, false, false, true, false])] 80 37 okC kX11_even ⟨fun c => absurd c (by rw [a1.n]; exact nI_ge (by omega) (by omega)), fun _ => ⟨fun c => ⟨_, c_valG a1 z (by omega) (by omega), ?_⟩, fun c => ?_⟩⟩
          · have cf : frB (nI (abN g)) i j = true := dT c
            rintro v h2 ⟨rfl, a2⟩
            refine ⟨_, c_valG a2 z (by omega) (by omega), ?_⟩
            rintro v h3 ⟨rfl, a3⟩
            have NEW : ev2 g i j q = some (i, j, evG g i j) → WP alC mX11_even (k + 4) (fun v h' => v = vI (aEven g) ∧ CI h' (nEven g)) 37 [some (vR 11 0), some (vI (nI (abN g))), some (vI (nI i * nI 8 + nI j)), some (vL (evG g i j)), none, some (vI (nI i)), some (vI (nI j + nI 1)), none, none, none, none] [] h3 := by
              intro es
              rw [es] at e
              have := IH2 (j + 1) _ h3 a3 (by omega) e (fun x y l w => by cases w; exact ⟨by omega, by omega⟩)
              rw [← nI_add j 1] at this
              rw [pair_nI]
              exact this
            show WP alC mX11_even (k + 4) (fun v h' => v = vI (aEven g) ∧ CI h' (nEven g)) 122 [some (vR 11 0), some (vI (nI (abN g))), some (vI (evp q)), some (vL (evl q)), none, some (vI (nI i)), some (vI (nI j)), none, none, some (vL (evG g i j)), none] [] h3
            match q, hk, e, NEW with
            | none, hk, e, NEW =>
              refine wp_at tX11_even [(37, [true, true, true, true, false, true, true, false, false, false, false])] 60 122 okC kX11_even ⟨fun _ => ?_, fun c => absurd rfl c⟩
              exact NEW (by unfold ev2; rw [if_pos cf])
            | some (x, y, l), hk, e, NEW =>
              obtain ⟨b1, b2⟩ := hk x y l rfl
              refine wp_at tX11_even [(37, [true, true, true, true, false, true, true, false, false, false, false])] 60 122 okC kX11_even ⟨fun c2 => absurd c2 (pn1 _ b1 _ b2), fun _ => ⟨fun c2 => ?_, fun c2 => ?_⟩⟩
              · have c3 : ¬ evG g i j < l := lg_ge.mp c2
                have es : ev2 g i j (some (x, y, l)) = some (x, y, l) := by unfold ev2; rw [if_pos cf]; dsimp only; rw [if_neg c3]
                rw [es] at e
                have := IH2 (j + 1) _ h3 a3 (by omega) e hk
                rw [← nI_add j 1] at this
                exact this
              · have c3 : evG g i j < l := Classical.byContradiction fun w => c2 (lg_ge.mpr w)
                exact NEW (by unfold ev2; rw [if_pos cf]; dsimp only; rw [if_pos c3])
          · have cf : ¬ frB (nI (abN g)) i j = true := fun w => absurd (nn c) (of_decide_eq_true w)
            have es : ev2 g i j q = q := if_neg cf
            rw [es] at e
            have := IH2 (j + 1) q h1 a1 (by omega) e hk
            rw [← nI_add j 1] at this
            exact this
      have := IN (gN g - 1 - i) (i + 1) q h1 a1 (by omega) e hk
      rw [← nI_add i 1] at this
      exact wp_at tX11_even [(37, [true, true, true, true, false, true, true, false, false, false, false])] 20 19 okC kX11_even ⟨fun c => absurd c (by rw [a1.n]; exact nI_ge (by omega) (by omega)), fun _ => this⟩
  exact OU (gN g) 0 none h1 a (by omega) rfl (fun _ _ _ w => by cases w)
