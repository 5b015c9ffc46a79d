/-! the reference: even -/
def mxL : Int64 := 9223372036854775807
def mvl (q : Es) : Int64 := match q with
  | none => mxL
  | some (_, _, l) => l
def mva (q : Es) : Int32 := match q with
  | none => -(nI 1)
  | some (a, _, _) => nI a
def mvb (q : Es) : Int32 := match q with
  | none => -(nI 1)
  | some (_, b, _) => nI b
theorem evG_lt (x y : Int32) : abL (x.toInt64 - y.toInt64) < mxL := by
  have hx := Int32.le_toInt x
  have hx' := Int32.toInt_lt x
  have hy := Int32.le_toInt y
  have hy' := Int32.toInt_lt y
  have e1 : (x.toInt64 - y.toInt64).toInt = x.toInt - y.toInt := by
    rw [Int64.toInt_sub, Int32.toInt_toInt64, Int32.toInt_toInt64]
    exact Int.bmod_eq_of_le (by omega) (by omega)
  have e2 : (-(x.toInt64 - y.toInt64)).toInt = y.toInt - x.toInt := by
    rw [Int64.toInt_neg, e1]
    rw [Int.bmod_eq_of_le (by omega) (by omega)]
    omega
  have em : mxL.toInt = 9223372036854775807 := by decide
  unfold abL
  rw [Int64.lt_iff_toInt_lt, em]
  split
  · rw [e1]; omega
  · rw [e2]; omega
theorem n1ne {a : Nat} (h : a < 8) : ¬ nI a = -(nI 1) := by
  intro w
  have := congrArg Int32.toInt w
  rw [nI_toInt (by omega), show (-(nI 1)).toInt = -1 by decide] at this
  omega
theorem m_Even {B D k : Nat} {h : Hp} {g : GS} (a : MI B h g) (z : Sz g) (iv : Inv D g) : Ct alM mX12_even (k + 311) [vR 12 0] h (fun v h' => v = vI (aEven g) ∧ MI B h' (nEven g)) := by
  have hn := z.1
  have a0 := a.fld (j := 10) (x := nI 0) (by decide)
  let P : AV → Hp → Prop := fun v h' => v = vI (aEven g) ∧ MI B h' (nEven g)
  have scr : ∀ {h1 h2 : Hp}, MI B h1 g → Fm stS stI h1 h2 → MI B h2 g := fun a f => a.scr f (by simp [stS, scA]) (by simp [stI, scI])
  have OU : ∀ f i (q : Es) h1, MI B h1 g → i + f = gN g → evR g = lpG (evO g) f i q → evK q → WP alM mX12_even (k + 311) P 17 [some (vR 12 0), some (vL (mvl q)), none, some (vI (mva q)), some (vI (mvb q)), some (vI (nI i)), none, none, none] [] h1 := by
    intro f
    induction f with
    | zero =>
      intro i q h1 a1 hi e hk
      show WP alM mX12_even (k + 311) (fun v h' => v = vI (aEven g) ∧ MI B h' (nEven g)) _ _ _ _
      unfold aEven nEven
      rw [e]
      refine wp_at tX12_even [] 60 17 okM kX12_even ⟨fun _ => ?_, fun c => absurd (by rw [a1.n1]; exact nI_le (show gN g ≤ i by omega) (by omega)) c⟩
      match q, hk with
      | none, hk => exact ⟨fun c => absurd rfl c, fun _ => ⟨rfl, a1⟩⟩
      | some (x, y, l), hk =>
        obtain ⟨b1, b2⟩ := hk x y l rfl
        refine ⟨fun _ => ⟨_, c_tellR a1.clr (by show (0 : Nat) < 16; decide), ?_⟩, fun c => absurd (nn c) (n1ne b1)⟩
        rintro v h2 ⟨a2, -⟩
        refine ⟨_, c_tellR a2 (by show (1 : Nat) < 16; decide), ?_⟩
        rintro v h3 ⟨a3, -⟩
        exact ⟨rfl, a3⟩
    | succ f IH =>
      intro i q h1 a1 hi e hk
      have IN : ∀ f' j (q : Es) h1, MI B h1 g → i < j → j + f' = gN g → evR g = lpG (evO g) f (i + 1) (lpG (ev2 g i) f' j q) → evK q → WP alM mX12_even (k + 311) P 32 [some (vR 12 0), some (vL (mvl q)), none, some (vI (mva q)), some (vI (mvb q)), some (vI (nI i)), some (vI (nI j)), none, none] [] h1 := by
        intro f'
        induction f' with
        | zero =>
          intro j q h1 a1 hij hj e hk
          have := IH (i + 1) q h1 a1 (by omega) e hk
          rw [← nI_add i 1] at this
          exact wp_at tX12_even [(17, [true, true, false, true, true, true, false, false, false])] 20 32 okM kX12_even ⟨fun _ => this, fun c => absurd (by rw [a1.n1]; exact nI_le (show gN g ≤ j by omega) (by omega)) c⟩
        | succ f' IH2 =>
          intro j q h1 a1 hij hj e hk
          rw [lpG_s] at e
          have cf0 : frB (nI (abN g)) i j = (canF (gS g) i && canF (gS g) j) := by
            rw [frB_tb (abN_lt z) (by omega) (by omega), congrFun (abN_tb (g := g)) i, congrFun (abN_tb (g := g)) j, dT (show i < gN g by omega), dT (show j < gN g by omega)]
            rfl
          have SK : ∀ H, MI B H g → ev2 g i j q = q → WP alM mX12_even (k + 311) P 122 [some (vR 12 0), some (vL (mvl q)), none, some (vI (mva q)), some (vI (mvb q)), some (vI (nI i)), some (vI (nI j)), none, none] [] H := by
            intro H aH es
            rw [es] at e
            have := IH2 (j + 1) q H aH (by omega) (by omega) e hk
            rw [← nI_add j 1] at this
            exact wp_at tX12_even [(32, [true, true, false, true, true, true, true, false, false])] 20 122 okM kX12_even this
          refine wp_at tX12_even [(122, [true, true, false, true, true, true, true, false, false])] 80 32 okM kX12_even ⟨fun c => absurd c (by rw [a1.n1]; exact nI_ge (by omega) (by omega)), fun _ => ⟨_, c_mcan a1.1.1 (by omega), ?_⟩⟩
          rintro v H ⟨rfl, rfl⟩
          refine ⟨fun c2 => SK H a1 (if_neg (by rw [cf0, b2_0.mp c2]; simp)), fun c2 => ⟨_, c_mcan a1.1.1 (by omega), ?_⟩⟩
          rintro v H ⟨rfl, rfl⟩
          refine ⟨fun c3 => ?_, fun c3 => SK H a1 (if_neg (by rw [cf0, b2_0.mp (nn c3), Bool.and_false]; decide))⟩
          have cf : frB (nI (abN g)) i j = true := by rw [cf0, b2_n0.mp c2, b2_n0.mp c3]; rfl
          refine ⟨_, c_mstr (a1.ww z iv) a1.1.1 (by omega) (by omega), ?_⟩
          rintro v h2 ⟨rfl, f2⟩
          have a2 := scr a1 f2
          refine ⟨_, c_mstr (a2.ww z iv) a2.1.1 (by omega) (by omega), ?_⟩
          rintro v h3 ⟨rfl, f3⟩
          have a3 := scr a2 f3
          have NEW : ev2 g i j q = some (i, j, evG g i j) → WP alM mX12_even (k + 311) P 122 [some (vR 12 0), some (vL (evG g i j)), none, some (vI (nI i)), some (vI (nI j)), some (vI (nI i)), some (vI (nI j)), none, none] [] h3 := by
            intro es
            rw [es] at e
            have := IH2 (j + 1) _ h3 a3 (by omega) (by omega) e (fun x y l w => by cases w; exact ⟨by omega, by omega⟩)
            rw [← nI_add j 1] at this
            exact wp_at tX12_even [(32, [true, true, false, true, true, true, true, false, false])] 20 122 okM kX12_even this
          match q, hk, e, NEW, SK with
          | none, hk, e, NEW, SK =>
            refine ⟨fun _ => ?_, fun c5 => absurd (evG_lt _ _) (lg_ge.mp (Int32.not_lt.mp c5))⟩
            exact NEW (by unfold ev2; rw [if_pos cf])
          | some (x, y, l), hk, e, NEW, SK =>
            refine ⟨fun c5 => ?_, fun c5 => ?_⟩
            rotate_left
            · have c6 : ¬ evG g i j < l := lg_ge.mp (Int32.not_lt.mp c5)
              exact SK h3 a3 (by unfold ev2; rw [if_pos cf]; dsimp only; rw [if_neg c6])
            · have c6 : evG g i j < l := Classical.byContradiction fun w => Int32.not_le.mpr c5 (lg_ge.mpr w)
              exact NEW (by unfold ev2; rw [if_pos cf]; dsimp only; rw [if_pos c6])
      have := IN (gN g - 1 - i) (i + 1) q h1 a1 (by omega) (by omega) e hk
      rw [← nI_add i 1] at this
      exact wp_at tX12_even [(32, [true, true, false, true, true, true, true, false, false])] 20 17 okM kX12_even ⟨fun c => absurd c (by rw [a1.n1]; exact nI_ge (by omega) (by omega)), fun _ => this⟩
  refine ct_vc tX12_even [(17, [true, true, false, true, true, true, false, false, false])] 60 okM kX12_even rfl ?_
  exact OU (gN g) 0 none _ a0 (by omega) rfl (fun _ _ _ w => by cases w)
