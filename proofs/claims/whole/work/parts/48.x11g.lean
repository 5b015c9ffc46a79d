/-! the class's calls: the wall's scores, what was heard -/
theorem CI.n {h : Hp} {g : GS} (a : CI h g) : h.1 3 0 3 = nI (gN g) := a.2.1.2.1
theorem CI.v {h : Hp} {g : GS} (a : CI h g) : h.1 10 0 4 = nI (gV g) := a.2.2.2.2.2.2.2.2.1.1
theorem CI.ab {h : Hp} {g : GS} (a : CI h g) : h.1 35 0 = gA g := a.2.2.2.2.2.2.2.2.1.2
theorem CI.hm {h : Hp} {g : GS} (a : CI h g) : h.1 2 0 2 = nI (gH g) := a.2.2.2.2.2.2.2.2.2.1
theorem CI.hk {h : Hp} {g : GS} (a : CI h g) : h.1 20 0 = gHk g := a.2.2.2.2.2.2.2.2.2.2.1
theorem CI.hv {h : Hp} {g : GS} (a : CI h g) : h.1 21 0 = gHv g := a.2.2.2.2.2.2.2.2.2.2.2
theorem CI.r {h : Hp} {g : GS} (a : CI h g) : ro h 0 = gR g := a.2.1.2.2
theorem CI.tn {h : Hp} {g : GS} (a : CI h g) : h.1 9 0 1 = nI (gTn g) := a.2.2.2.1.1
theorem CI.tt {h : Hp} {g : GS} (a : CI h g) : h.1 34 0 = gT g := a.2.2.2.1.2
theorem Sz.m {g : GS} (z : Sz g) : gH g ≤ 12 := z.2.2.2.2.2.2.1
theorem Sz.v {g : GS} (z : Sz g) : gV g ≤ 20 := z.2.2.2.2.2.1
theorem Sz.r {g : GS} (z : Sz g) : RoK (gR g) (gN g) := z.2.2.2.2.2.2.2.1
def aScore (g : GS) (x y : Int32) : Int32 := if hasN x (gN g) = true ∧ hasN y (gN g) = true ∧ x ≠ y ∧ gV g ≠ 20 then (if hsB (gA g x.toNatClampNeg) y.toNatClampNeg = true then -(nI 2) else nI (gV g + 1)) else -(nI 1)
def nScore (g : GS) (x y : Int32) : GS := if hasN x (gN g) = true ∧ hasN y (gN g) = true ∧ x ≠ y ∧ gV g ≠ 20 then (if hsB (gA g x.toNatClampNeg) y.toNatClampNeg = true then g else uA g (gV g + 1, scF (gA g) x.toNatClampNeg y.toNatClampNeg 8)) else g
theorem c_Score {k : Nat} {h : Hp} {g : GS} {x y : Int32} (a : CI h g) (z : Sz g) : Ct alC mX11_score (k + 2) [vR 11 0, vI x, vI y] h (fun v h' => v = vI (aScore g x y) ∧ CI h' (nScore g x y)) := by
  have hn := z.1
  have hv := z.v
  have E : ¬ (hasN x (gN g) = true ∧ hasN y (gN g) = true ∧ x ≠ y ∧ gV g ≠ 20) → WP alC mX11_score (k + 2) (fun v h' => v = vI (aScore g x y) ∧ CI h' (nScore g x y)) 39 [none, none, none] [] h := by
    intro hno
    refine wp_at tX11_score [] 10 39 okC kX11_score ?_
    unfold aScore nScore
    rw [if_neg hno, if_neg hno]
    exact ⟨rfl, a⟩
  refine ct_vc tX11_score [(39, [false, false, false])] 60 okC kX11_score rfl ?_
  refine ⟨_, c_has a.n, ?_⟩
  rintro v h' ⟨rfl, rfl⟩
  refine ⟨fun c => E (fun z => by rw [z.1] at c; exact absurd c (by decide)), fun c => ⟨_, c_has a.n, ?_⟩⟩
  rintro v h' ⟨rfl, rfl⟩
  refine ⟨fun c2 => E (fun z => by rw [z.2.1] at c2; exact absurd c2 (by decide)), fun c2 => ⟨fun c3 => E (fun z => z.2.2.1 c3), fun c3 => ⟨fun c4 => ?_, fun c4 => E (fun z => z.2.2.2 (nI_inj (by omega) (by omega) (a.v.symm.trans (nn c4))))⟩⟩⟩
  have hall : hasN x (gN g) = true ∧ hasN y (gN g) = true ∧ x ≠ y ∧ gV g ≠ 20 := ⟨b2_n0.mp c, b2_n0.mp c2, c3, fun e => c4 (a.v.trans (by rw [e]))⟩
  unfold aScore nScore
  simp only [if_pos hall]
  obtain ⟨p, hp, rfl⟩ := hasN_get hall.1 (by omega)
  obtain ⟨q, hq, rfl⟩ := hasN_get hall.2.1 (by omega)
  rw [nI_clamp (show p < 2 ^ 31 by omega), nI_clamp (show q < 2 ^ 31 by omega)]
  refine ⟨_, c_wisAbove (by omega), ?_⟩
  rintro v h' ⟨rfl, rfl⟩
  rw [a.ab]
  refine ⟨fun c5 => ⟨_, c_scratch (by omega) (by omega), ?_⟩, fun c5 => ?_⟩
  · rintro v h2 rfl
    rw [a.ab, a.v, nI_add]
    have c6 : ¬ hsB (gA g p) q = true := by rw [b2_0.mp c5]; decide
    simp only [if_neg c6]
    refine ⟨?_, a.wal (Fr.sX (Fr.sV Fr.rf (by simp)) (by simp)) ?_ ?_⟩
    · show vI ((sX _ 10 0 4 _).1 10 0 4) = _
      rw [rdX, if_pos (by simp)]
    · rw [rdX, if_pos (by simp)]
    · rw [sX_row, if_neg (by simp), sV_same]
  · simp only [if_pos (b2_n0.mp c5)]
    exact ⟨rfl, a⟩
def nWash (g : GS) : GS := uA g (0, fun _ => nI 0)
theorem c_Wash {k : Nat} {h : Hp} {g : GS} (a : CI h g) : Ct alC mX11_wash (k + 1) [vR 11 0] h (fun v h' => v = vI (nI (gV g)) ∧ CI h' (nWash g)) := by
  refine ct_vc tX11_wash [] 30 okC kX11_wash rfl ?_
  refine ⟨_, c_wclear, ?_⟩
  rintro v h2 rfl
  refine ⟨by rw [← a.v], a.wal (Fr.sV (Fr.sX Fr.rf (by simp)) (by simp)) ?_ sV_same⟩
  rw [rdV, if_neg (by simp), rdX, if_pos (by simp)]
def aPlaces (g : GS) (x : Int32) : Int32 := if hasN x (gN g) = true then nI 10 * bcF (gA g x.toNatClampNeg) + (nI (gN g) - nI 1 - cbF (gA g) x.toNatClampNeg 8) else -(nI 1)
theorem c_Places {k : Nat} {h : Hp} {g : GS} {x : Int32} (a : CI h g) (z : Sz g) : Ct alC mX11_places (k + 2) [vR 11 0, vI x] h (Rd h (aPlaces g x)) := by
  have hn := z.1
  refine ct_vc tX11_places [] 50 okC kX11_places rfl ?_
  refine ⟨_, c_has a.n, ?_⟩
  rintro v h' ⟨rfl, rfl⟩
  unfold aPlaces
  refine ⟨fun c => ?_, fun c => ?_⟩
  · have c' := b2_n0.mp c
    simp only [if_pos c']
    obtain ⟨p, hp, rfl⟩ := hasN_get c' (by omega)
    rw [nI_clamp (show p < 2 ^ 31 by omega)]
    refine ⟨ix1 8 (by omega), _, c_bitCount okC, ?_⟩
    rintro v h' ⟨rfl, rfl⟩
    refine ⟨_, c_countBelow, ?_⟩
    rintro v h' ⟨rfl, rfl⟩
    rw [a.ab, a.n, nI_clamp (show p < 2 ^ 31 by omega)]
    exact ⟨rfl, rfl⟩
  · simp only [if_neg (show ¬ hasN x (gN g) = true by rw [b2_0.mp (nn c)]; decide)]
    exact ⟨rfl, rfl⟩
def heB (g : GS) (kd v : Int32) : Bool := decide (gH g < 12) && hcB kd v
def aHeard (g : GS) (kd v : Int32) : Int32 := if heB g kd v = true then nI (gH g + 1) else -(nI 1)
def nHeard (g : GS) (kd v : Int32) : GS := if heB g kd v = true then uH g (gH g + 1, upd (gHk g) (gH g) kd, upd (gHv g) (gH g) v) else g
theorem c_Heard {k : Nat} {h : Hp} {g : GS} {x y : Int32} (a : CI h g) (z : Sz g) : Ct alC mX11_heard (k + 2) [vR 11 0, vI x, vI y] h (fun v h' => v = vI (aHeard g x y) ∧ CI h' (nHeard g x y)) := by
  refine ct_vc tX11_heard [] 50 okC kX11_heard rfl ?_
  refine ⟨_, c_hadd a.hm z.m, ?_⟩
  rintro v h' ⟨rfl, rfl⟩
  unfold aHeard nHeard
  refine ⟨fun c => ?_, fun c => ?_⟩
  · have c' : ¬ heB g x y = true := by rw [show heB g x y = false from b2_0.mp c]; decide
    have c2 : ¬ (decide (gH g < 12) && hcB x y) = true := c'
    rw [if_neg c', if_neg c', if_neg c2]
    exact ⟨rfl, a⟩
  · have c' : heB g x y = true := b2_n0.mp c
    have c2 : (decide (gH g < 12) && hcB x y) = true := c'
    rw [if_pos c', if_pos c', if_pos c2]
    unfold hAdd
    refine ⟨?_, a.hea (Fr.sX (Fr.sX (Fr.sX Fr.rf (by simp)) (by simp)) (by simp)) ?_ ?_ ?_⟩
    · show vI ((sX _ 2 0 2 _).1 2 0 2) = _
      rw [rdX, if_pos (by simp)]
    · rw [rdX, if_pos (by simp)]
    · rw [sX_row, if_neg (by simp), sX_row, if_neg (by simp), sX_row, if_pos (by simp), a.hk]
    · rw [sX_row, if_neg (by simp), sX_row, if_pos (by simp), sX_row, if_neg (by simp), a.hv]
def nForget (g : GS) : GS := uH g (0, gHk g, gHv g)
theorem c_Forget {k : Nat} {h : Hp} {g : GS} (a : CI h g) : Ct alC mX11_forget (k + 1) [vR 11 0] h (fun v h' => v = vI (nI (gH g)) ∧ CI h' (nForget g)) := by
  refine ct_vc tX11_forget [] 30 okC kX11_forget rfl ?_
  refine ⟨by rw [← a.hm], a.hea (Fr.sX Fr.rf (by simp)) ?_ ?_ ?_⟩
  · rw [rdX, if_pos (by simp)]
  · rw [sX_row, if_neg (by simp), a.hk]
  · rw [sX_row, if_neg (by simp), a.hv]
def aFits (g : GS) : Int32 := ftF (gHk g) (gHv g) (gR g) (gS g) (gH g) (gN g)
def nFits (g : GS) : GS := uL g [(bcF (aFits g)).toInt64]
theorem c_fitG {k : Nat} {h : Hp} {g : GS} (a : CI h g) (z : Sz g) : Ct alC mX2_fitting (k + 4) [vR 2 0, vR 3 0, vR 8 0] h (Rd h (aFits g)) := by
  refine ct_post (c_fitting a.hm z.m a.n z.1) ?_
  rintro v h' ⟨rfl, rfl⟩
  rw [a.hk, a.hv, a.r, a.1.1]
  exact ⟨rfl, rfl⟩
theorem c_Fits {k : Nat} {h : Hp} {g : GS} (a : CI h g) (z : Sz g) : Ct alC mX11_fits (k + 5) [vR 11 0] h (fun v h' => v = vI (aFits g) ∧ CI h' (nFits g)) := by
  refine ct_vc tX11_fits [] 40 okC kX11_fits rfl ?_
  refine ⟨_, c_fitG a z, ?_⟩
  rintro v h1 ⟨rfl, rfl⟩
  refine ⟨_, c_clrG a, ?_⟩
  rintro v h2 ⟨a2, -⟩
  refine ⟨_, c_bitCount okC, ?_⟩
  rintro v h3 ⟨rfl, rfl⟩
  refine ⟨_, c_addG a2 (by show (0 : Nat) < 8; decide), ?_⟩
  rintro v h4 ⟨a4, -⟩
  exact ⟨rfl, a4⟩
/-- ask: the best HIRE of those up to t, and how many are left at most -/
def akL (g : GS) (v : Nat) : Int32 := mxI (chF (gR g) (nI v) (aFits g) (gN g)) (bcF (aFits g) - chF (gR g) (nI v) (aFits g) (gN g))
def akS (g : GS) : Nat → Int32 × Int32
  | 0 => (nI 0, bcF (aFits g) + nI 1)
  | t + 1 => if akL g (t + 1) < (akS g t).2 then (nI (t + 1), akL g (t + 1)) else akS g t
def aAsk (g : GS) : Int32 := if aFits g = 0 then -(nI 2) else (akS g 9).1
def nAsk (g : GS) : GS := if aFits g = 0 then g else uL g [(akS g 9).2.toInt64]
theorem c_Ask {k : Nat} {h : Hp} {g : GS} (a : CI h g) (z : Sz g) : Ct alC mX11_ask (k + 5) [vR 11 0] h (fun v h' => v = vI (aAsk g) ∧ CI h' (nAsk g)) := by
  have L : ¬ aFits g = 0 → ∀ t, t ≤ 9 → WP alC mX11_ask (k + 5) (fun v h' => v = vI (aAsk g) ∧ CI h' (nAsk g)) 38 [some (vR 11 0), some (vI (aFits g)), some (vI (bcF (aFits g))), some (vI (akS g t).1), some (vI (akS g t).2), some (vI (nI (t + 1))), none, none] [] h := by
    intro hno
    unfold aAsk nAsk
    rw [if_neg hno, if_neg hno]
    refine loop_up 9 ?_ (fun t ht ih => ?_)
    · refine wp_at tX11_ask [] 40 38 okC kX11_ask ⟨fun _ => ⟨_, c_clrG a, ?_⟩, fun c => absurd (nI_lt (show 9 < 9 + 1 by omega) (by omega)) c⟩
      rintro v h2 ⟨a2, -⟩
      refine ⟨_, c_addG a2 (by show (0 : Nat) < 8; decide), ?_⟩
      rintro v h3 ⟨a3, -⟩
      exact ⟨rfl, a3⟩
    · have es : akS g (t + 1) = if akL g (t + 1) < (akS g t).2 then (nI (t + 1), akL g (t + 1)) else akS g t := rfl
      rw [es, ← nI_add (t + 1) 1] at ih
      refine wp_at tX11_ask [(38, [true, true, true, true, true, true, false, false])] 60 38 okC kX11_ask ⟨fun c => absurd c (i_ltn (nI_le (by omega) (by omega))), fun _ => ⟨_, c_countHiredFor a.n z.1, ?_⟩⟩
      rintro v h2 ⟨rfl, rfl⟩
      rw [a.r]
      refine ⟨fun c => ?_, fun c => ?_⟩
      · rw [if_neg (show ¬ akL g (t + 1) < (akS g t).2 from i_ltn c)] at ih; exact ih
      · rw [if_pos (show akL g (t + 1) < (akS g t).2 from i_nle c)] at ih; exact ih
  refine ct_vc tX11_ask [(38, [true, true, true, true, true, true, false, false])] 40 okC kX11_ask rfl ?_
  refine ⟨_, c_fitG a z, ?_⟩
  rintro v h1 ⟨rfl, rfl⟩
  refine ⟨fun c => ⟨_, c_bitCount okC, ?_⟩, fun c => ?_⟩
  · rintro v h1 ⟨rfl, rfl⟩
    exact L c 0 (Nat.zero_le _)
  · unfold aAsk nAsk
    rw [if_pos (nn c), if_pos (nn c)]
    exact ⟨rfl, a⟩
