/-! class Crowd -/
def orG (a : Int32) (g : Nat → Int32) : Nat → Int32
  | 0 => a
  | n + 1 => orG a g n ||| g n
/-- the seats that are up by themselves -/
def u0F (PK : Nat → Int32) (fav won home : Int32) (n : Nat) : Int32 := orG (won &&& (home ^^^ -(nI 1))) (fun j => if PK j ≤ fav then nI 1 <<< (nI j &&& 31) &&& (home ^^^ -(nI 1)) else nI 0) n
theorem u0F_s (PK : Nat → Int32) (fav won home : Int32) (t : Nat) : u0F PK fav won home (t + 1) = u0F PK fav won home t ||| (if PK t ≤ fav then nI 1 <<< (nI t &&& 31) &&& (home ^^^ -(nI 1)) else nI 0) := rfl
/-- those that follow -/
def usF (FL : Nat → Int32) (home u : Int32) (n : Nat) : Int32 := orG u (fun j => if ¬ FL j = 0 ∧ FL j ≤ bcF u then nI 1 <<< (nI j &&& 31) &&& (home ^^^ -(nI 1)) else nI 0) n
theorem usF_s (FL : Nat → Int32) (home u : Int32) (t : Nat) : usF FL home u (t + 1) = usF FL home u t ||| (if ¬ FL t = 0 ∧ FL t ≤ bcF u then nI 1 <<< (nI t &&& 31) &&& (home ^^^ -(nI 1)) else nI 0) := rfl
def urF (FL : Nat → Int32) (home : Int32) (n : Nat) : Nat → Int32 → Int32
  | 0, u => u
  | f + 1, u => if usF FL home u n = u then u else urF FL home n f (usF FL home u n)
def upF (PK FL : Nat → Int32) (n : Nat) (fav won home : Int32) : Int32 := urF FL home n 8 (u0F PK fav won home n)
theorem c_up {k n : Nat} {h : Hp} {fav won home : Int32} (hc : h.1 3 1 3 = nI n) (hn : n ≤ 8) : Ct alC mX1_up (k + 1) [vR 1 0, vI fav, vI won, vI home] h (Rd h (upF (ro h 1 2) (ro h 1 4) n fav won home)) := by
  have L2 : ∀ (f r : Nat) (u : Int32), r + f = 8 → urF (ro h 1 4) home n f u = upF (ro h 1 2) (ro h 1 4) n fav won home → WP alC mX1_up (k + 1) (Rd h (upF (ro h 1 2) (ro h 1 4) n fav won home)) 62 [some (vR 1 0), none, none, some (vI home), some (vI u), some (vI (nI r)), none, none, none, none] [] h := by
    intro f
    induction f with
    | zero =>
      intro r u hr e
      refine wp_at tX1_up [] 20 62 okC kX1_up ⟨fun _ => ?_, fun c => absurd (nI_le (by omega) (by omega)) c⟩
      rw [← e]
      exact ⟨rfl, rfl⟩
    | succ f ih =>
      intro r u hr e
      rw [urF] at e
      have LI : ∀ t, t ≤ n → WP alC mX1_up (k + 1) (Rd h (upF (ro h 1 2) (ro h 1 4) n fav won home)) 83 [some (vR 1 0), none, none, some (vI home), some (vI u), some (vI (nI r)), some (vI (bcF u)), some (vI (usF (ro h 1 4) home u t)), some (vI (nI t)), none] [] h := by
        refine loop_up n ?_ (fun t ht ih2 => ?_)
        · refine wp_at tX1_up [(62, [true, false, false, true, true, true, false, false, false, false])] 40 83 okC kX1_up ⟨fun _ => ⟨fun c => ?_, fun c => ?_⟩, fun c => absurd (by rw [hc]; exact nI_le (Nat.le_refl _) (by omega)) c⟩
          · rw [if_neg c] at e
            have := ih (r + 1) (usF (ro h 1 4) home u n) (by omega) e
            rw [← nI_add r 1] at this
            exact this
          · rw [if_pos (nn c)] at e
            rw [← e]
            exact ⟨rfl, rfl⟩
        · refine wp_at tX1_up [(83, [true, false, false, true, true, true, true, true, true, false])] 60 83 okC kX1_up ⟨fun c => absurd c (by rw [hc]; exact nI_ge ht (by omega)), fun _ => ⟨_, c_of (by omega) (by omega), ?_⟩⟩
          rintro v h' ⟨rfl, rfl⟩
          rw [usF_s, ← nI_add t 1] at ih2
          refine ⟨fun c => ?_, fun c => ⟨fun c2 => ?_, fun c2 => ?_⟩⟩
          · rw [if_neg (fun z => z.1 c)] at ih2; exact ih2
          · rw [if_neg (fun z => (i_len c2) z.2)] at ih2; exact ih2
          · rw [if_pos ⟨c, i_nlt c2⟩] at ih2; exact ih2
      refine wp_at tX1_up [(83, [true, false, false, true, true, true, true, true, true, false])] 40 62 okC kX1_up ⟨fun c => absurd c (nI_ge (by omega) (by omega)), fun _ => ⟨_, c_bitCount okC, ?_⟩⟩
      rintro v h' ⟨rfl, rfl⟩
      exact LI 0 (Nat.zero_le n)
  have L1 : ∀ t, t ≤ n → WP alC mX1_up (k + 1) (Rd h (upF (ro h 1 2) (ro h 1 4) n fav won home)) 10 [some (vR 1 0), some (vI fav), none, some (vI home), some (vI (u0F (ro h 1 2) fav won home t)), some (vI (nI t)), none, none, none, none] [] h := by
    refine loop_up n ?_ (fun t ht ih => ?_)
    · exact wp_at tX1_up [(62, [true, false, false, true, true, true, false, false, false, false])] 40 10 okC kX1_up ⟨fun _ => L2 8 0 _ rfl rfl, fun c => absurd (by rw [hc]; exact nI_le (Nat.le_refl _) (by omega)) c⟩
    · refine wp_at tX1_up [(10, [true, true, false, true, true, true, false, false, false, false])] 60 10 okC kX1_up ⟨fun c => absurd c (by rw [hc]; exact nI_ge ht (by omega)), fun _ => ⟨_, c_of (by omega) (by omega), ?_⟩⟩
      rintro v h' ⟨rfl, rfl⟩
      rw [u0F_s, ← nI_add t 1] at ih
      refine ⟨fun c => ?_, fun c => ?_⟩
      · rw [if_neg (i_len c)] at ih; exact ih
      · rw [if_pos (i_nlt c)] at ih; exact ih
  exact ct_vc tX1_up [(10, [true, true, false, true, true, true, false, false, false, false])] 40 okC kX1_up rfl (L1 0 (Nat.zero_le n))
def spB (PE PK FL : Nat → Int32) (n : Nat) (fav won home : Int32) : Bool := decide (csF PE (home ^^^ -(nI 1)) n ≤ nI 2 * csF PE (upF PK FL n fav won home) n)
theorem c_sparesIf {k n : Nat} {h : Hp} {fav won home : Int32} (hc : h.1 3 1 3 = nI n) (hn : n ≤ 8) : Ct alC mX1_sparesIf (k + 2) [vR 1 0, vI fav, vI won, vI home] h (Rd h (b2 (spB (ro h 1 0) (ro h 1 2) (ro h 1 4) n fav won home))) := by
  refine ct_vc tX1_sparesIf [] 60 okC kX1_sparesIf rfl ?_
  refine ⟨_, c_up hc hn, ?_⟩
  rintro v h' ⟨rfl, rfl⟩
  refine ⟨_, c_lsum hc hn (by omega), ?_⟩
  rintro v h' ⟨rfl, rfl⟩
  refine ⟨_, c_lsum hc hn (by omega), ?_⟩
  rintro v h' ⟨rfl, rfl⟩
  exact ⟨fun c => ⟨Or.inl rfl, bF (dF (i_len c)), rfl⟩, fun c => ⟨Or.inr rfl, bT (dT (i_nlt c)), rfl⟩⟩
theorem c_spares {k : Nat} {h : Hp} {fav : Int32} : Ct alC mX1_spares k [vR 1 0, vI fav] h (Rd h (b2 (decide (h.1 1 0 1 ≤ fav)))) := by
  refine ct_vc tX1_spares [] 20 okC kX1_spares rfl ?_
  exact ⟨fun c => ⟨Or.inl rfl, bF (dF (i_len c)), rfl⟩, fun c => ⟨Or.inr rfl, bT (dT (i_nlt c)), rfl⟩⟩
/-- the least of 0 .. 99 for which g, else 100 -/
def lsF (g : Nat → Bool) : Nat → Nat → Nat
  | 0, i => i
  | f + 1, i => if g i = true then i else lsF g f (i + 1)
/-- SEATS come: their count, the least spared FAVOUR -/
theorem c_centerX {k n m : Nat} {h h1 : Hp} (hc : h.1 3 1 3 = nI n) (hf : h.1 3 1 4 = nI m) (hn : n + m ≤ 8) (e1 : h1 = sX h 3 1 3 (nI (n + m))) : Ct alC mX1_enter (k + 3) [vR 1 0] h (Rt (nI m) (sX h1 1 0 1 (nI (lsF (fun v => spB (ro h 1 0) (ro h 1 2) (ro h 1 4) (n + m) (nI v) (nI 0) (nI 0)) 100 0)))) := by
  have hr : ∀ x p, ro (sX h1 1 0 1 x) 1 p = ro h 1 p := fun x p => by rw [e1]; show (sX (sX h 3 1 3 (nI (n + m))) 1 0 1 x).1 38 (5 * 1 + p) = _; unfold sX; simp [rdV]
  have hc1 : ∀ x, (sX h1 1 0 1 x).1 3 1 3 = nI (n + m) := fun x => by rw [e1, rdX, rdX]; simp
  have L : ∀ f i, i + f = 100 → lsF (fun v => spB (ro h 1 0) (ro h 1 2) (ro h 1 4) (n + m) (nI v) (nI 0) (nI 0)) f i = lsF (fun v => spB (ro h 1 0) (ro h 1 2) (ro h 1 4) (n + m) (nI v) (nI 0) (nI 0)) 100 0 → WP alC mX1_enter (k + 3) (Rt (nI m) (sX h1 1 0 1 (nI (lsF (fun v => spB (ro h 1 0) (ro h 1 2) (ro h 1 4) (n + m) (nI v) (nI 0) (nI 0)) 100 0)))) 15 [some (vR 1 0), some (vI (nI m)), some (vI (nI i))] [] (sX h1 1 0 1 (nI i)) := by
    intro f
    induction f with
    | zero =>
      intro i hi e
      refine wp_at tX1_enter [] 20 15 okC kX1_enter ⟨fun _ => ?_, fun c => absurd (nI_lt (by omega) (by omega)) c⟩
      rw [← e]
      exact ⟨rfl, rfl⟩
    | succ f ih =>
      intro i hi e
      refine wp_at tX1_enter [(15, [true, true, true])] 40 15 okC kX1_enter ⟨fun c => ?_, fun _ => ⟨_, c_sparesIf (hc1 _) hn, ?_⟩⟩
      · exfalso
        rw [nI_ltI (by omega) (by omega)] at c
        omega
      · rintro v h' ⟨rfl, rfl⟩
        rw [hr, hr, hr]
        rw [lsF] at e
        refine ⟨fun c => ?_, fun c => ?_⟩
        · rw [if_pos (b2_n0.mp c)] at e
          rw [← e]
          exact ⟨rfl, rfl⟩
        · rw [if_neg (by rw [b2_0.mp (nn c)]; decide)] at e
          have := ih (i + 1) (by omega) e
          rw [← nI_add i 1] at this
          exact wp_h sX_sX this
  refine ct_vc tX1_enter [(15, [true, true, true])] 40 okC kX1_enter rfl ?_
  refine ⟨_, c_lenter, ?_⟩
  rintro v h' ⟨rfl, rfl⟩
  rw [hc, hf, nI_add, ← e1]
  exact L 100 0 rfl rfl
def fwF (all : Nat) (g : Nat → Bool) : Nat → Int32
  | 0 => nI all
  | s + 1 => if bcF (nI s) < bcF (fwF all g s) ∧ g s = true then nI s else fwF all g s
theorem c_fewestToWin {k n : Nat} {h : Hp} {fav : Int32} (hc : h.1 3 1 3 = nI n) (hn : n ≤ 8) : Ct alC mX1_fewestToWin (k + 3) [vR 1 0, vI fav] h (Rd h (fwF (2 ^ n - 1) (fun s => spB (ro h 1 0) (ro h 1 2) (ro h 1 4) n fav (nI s) (nI 0)) (2 ^ n - 1))) := by
  have hp := p2_le hn
  have hp0 : 0 < 2 ^ n := Nat.two_pow_pos n
  have L : ∀ t, t ≤ 2 ^ n - 1 → WP alC mX1_fewestToWin (k + 3) (Rd h (fwF (2 ^ n - 1) (fun s => spB (ro h 1 0) (ro h 1 2) (ro h 1 4) n fav (nI s) (nI 0)) (2 ^ n - 1))) 17 [some (vR 1 0), some (vI fav), some (vI (nI (2 ^ n - 1))), some (vI (fwF (2 ^ n - 1) (fun s => spB (ro h 1 0) (ro h 1 2) (ro h 1 4) n fav (nI s) (nI 0)) t)), some (vI (nI t))] [] h := by
    refine loop_up (2 ^ n - 1) ?_ (fun t ht ih => ?_)
    · exact wp_at tX1_fewestToWin [] 20 17 okC kX1_fewestToWin ⟨fun _ => ⟨rfl, rfl⟩, fun c => absurd (nI_le (Nat.le_refl _) (by omega)) c⟩
    · rw [← nI_add t 1, fwF] at ih
      refine wp_at tX1_fewestToWin [(17, [true, true, true, true, true])] 60 17 okC kX1_fewestToWin ⟨fun c => absurd c (nI_ge ht (by omega)), fun _ => ⟨_, c_bitCount okC, ?_⟩⟩
      rintro v h' ⟨rfl, rfl⟩
      refine ⟨_, c_bitCount okC, ?_⟩
      rintro v h' ⟨rfl, rfl⟩
      refine ⟨fun c => ?_, fun c => ⟨_, c_sparesIf hc hn, ?_⟩⟩
      · rw [if_neg (fun z => (i_ltn c) z.1)] at ih; exact ih
      · rintro v h' ⟨rfl, rfl⟩
        refine ⟨fun c2 => ?_, fun c2 => ?_⟩
        · rw [if_neg (fun z => by have := z.2; rw [b2_0.mp c2] at this; cases this)] at ih; exact ih
        · rw [if_pos ⟨i_nle c, b2_n0.mp c2⟩] at ih; exact ih
  refine ct_vc tX1_fewestToWin [(17, [true, true, true, true, true])] 40 okC kX1_fewestToWin rfl ?_
  have := L 0 (by omega)
  rw [fwF, ← all_nI hn, ← hc] at this
  exact this
def tpF (g : Nat → Bool) (b : Bool) (n : Nat) : Int32 := orF (fun j => if g j = b then nI 0 else bit j) n
theorem tpF_s (g : Nat → Bool) (b : Bool) (t : Nat) : tpF g b (t + 1) = tpF g b t ||| (if g t = b then nI 0 else bit t) := rfl
theorem c_tipping {k n : Nat} {h : Hp} {fav : Int32} (hc : h.1 3 1 3 = nI n) (hn : n ≤ 8) : Ct alC mX1_tipping (k + 3) [vR 1 0, vI fav] h (Rd h (tpF (fun j => spB (ro h 1 0) (ro h 1 2) (ro h 1 4) n fav (nI 0) (bit j)) (decide (h.1 1 0 1 ≤ fav)) n)) := by
  have L : ∀ t, t ≤ n → WP alC mX1_tipping (k + 3) (Rd h (tpF (fun j => spB (ro h 1 0) (ro h 1 2) (ro h 1 4) n fav (nI 0) (bit j)) (decide (h.1 1 0 1 ≤ fav)) n)) 11 [some (vR 1 0), some (vI fav), some (vI (b2 (decide (h.1 1 0 1 ≤ fav)))), some (vI (tpF (fun j => spB (ro h 1 0) (ro h 1 2) (ro h 1 4) n fav (nI 0) (bit j)) (decide (h.1 1 0 1 ≤ fav)) t)), some (vI (nI t))] [] h := by
    refine loop_up n ?_ (fun t ht ih => ?_)
    · exact wp_at tX1_tipping [] 20 11 okC kX1_tipping ⟨fun _ => ⟨rfl, rfl⟩, fun c => absurd (by rw [hc]; exact nI_le (Nat.le_refl _) (by omega)) c⟩
    · rw [tpF_s, ← nI_add t 1] at ih
      refine wp_at tX1_tipping [(11, [true, true, true, true, true])] 60 11 okC kX1_tipping ⟨fun c => absurd c (by rw [hc]; exact nI_ge ht (by omega)), fun _ => ⟨_, c_sparesIf hc hn, ?_⟩⟩
      rintro v h' ⟨rfl, rfl⟩
      refine ⟨fun c => ?_, fun c => ?_⟩
      · have c' : spB (ro h' 1 0) (ro h' 1 2) (ro h' 1 4) n fav (nI 0) (bit t) = decide (h'.1 1 0 1 ≤ fav) := b2_inj c
        rw [if_pos c'] at ih; exact ih
      · have c' : ¬ spB (ro h' 1 0) (ro h' 1 2) (ro h' 1 4) n fav (nI 0) (bit t) = decide (h'.1 1 0 1 ≤ fav) := fun z => c (congrArg b2 z)
        rw [if_neg c'] at ih; exact ih
  refine ct_vc tX1_tipping [(11, [true, true, true, true, true])] 40 okC kX1_tipping rfl ?_
  refine ⟨_, c_spares, ?_⟩
  rintro v h' ⟨rfl, rfl⟩
  exact L 0 (Nat.zero_le n)
