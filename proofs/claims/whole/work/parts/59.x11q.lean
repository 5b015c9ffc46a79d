/-! the class's calls that may throw: where they don't -/
def okFi (g : GS) (x w : Int32) : Bool := hasN x (gN g) && inB (nI 0) (nI 8) w
def aFighter (g : GS) (x w : Int32) : Int32 := if w.toNatClampNeg < 4 then gR g w.toNatClampNeg x.toNatClampNeg else gS g (8 * (w.toNatClampNeg - 4) + x.toNatClampNeg)
theorem c_FighterY {k : Nat} {h : Hp} {g : GS} {x w : Int32} (a : CI h g) (z : Sz g) (hok : okFi g x w = true) : Ct alC mX11_fighter (k + 1) [vR 11 0, vI x, vI w] h (Rd h (aFighter g x w)) := by
  have hn := z.1
  obtain ⟨q1, q2⟩ := and3 hok
  obtain ⟨j, hj, rfl⟩ := hasN_get q1 (by omega)
  obtain ⟨t, -, ht, rfl⟩ := inB_get q2 (by omega) (by omega)
  refine ct_vc tX11_fighter [] 40 okC kX11_fighter rfl ?_
  refine ⟨_, c_has a.n, ?_⟩
  rintro v h1 ⟨rfl, rfl⟩
  rw [q1]
  refine ⟨fun c => absurd c (by decide), fun _ => ⟨fun c => absurd c (nI_pos (by omega)), fun _ => ⟨fun _ => ?_, fun c => absurd (nI_le ht (by omega)) c⟩⟩⟩
  unfold aFighter
  rw [nI_clamp (show j < 2 ^ 31 by omega), nI_clamp (show t < 2 ^ 31 by omega)]
  have er : ∀ p, h1.1 38 (5 * 0 + p) j = gR g p j := fun p => congrFun (congrFun a.r p) j
  have es : h1.1 33 0 = gS g := a.1.1
  refine swP_of _ (fun q hq e => ?_) (fun hne => ?_)
  · simp only [prs, List.tail_cons, List.mem_cons, List.not_mem_nil, or_false] at hq
    rcases hq with rfl | rfl | rfl | rfl | rfl | rfl | rfl | rfl <;> (have e2 := nI_inj (by omega) (by decide) e; dsimp only at e2; subst e2)
    · refine ⟨_, c_of (by omega) (by omega), ?_⟩; rintro v h2 ⟨rfl, rfl⟩; rw [er]; exact ⟨rfl, rfl⟩
    · refine ⟨_, c_of (by omega) (by omega), ?_⟩; rintro v h2 ⟨rfl, rfl⟩; rw [er]; exact ⟨rfl, rfl⟩
    · refine ⟨_, c_of (by omega) (by omega), ?_⟩; rintro v h2 ⟨rfl, rfl⟩; rw [er]; exact ⟨rfl, rfl⟩
    · refine ⟨_, c_of (by omega) (by omega), ?_⟩; rintro v h2 ⟨rfl, rfl⟩; rw [er]; exact ⟨rfl, rfl⟩
    · refine ⟨_, c_favour (by omega), ?_⟩; rintro v h2 ⟨rfl, rfl⟩; rw [es, if_neg (by omega)]; exact ⟨by rw [show 8 * (4 - 4) + j = j by omega], rfl⟩
    · refine ⟨_, c_hurt (by omega), ?_⟩; rintro v h2 ⟨rfl, rfl⟩; rw [es, if_neg (by omega)]; exact ⟨rfl, rfl⟩
    · refine ⟨_, c_fought (by omega), ?_⟩; rintro v h2 ⟨rfl, rfl⟩; rw [es, if_neg (by omega)]; exact ⟨rfl, rfl⟩
    · refine ⟨_, c_won (by omega), ?_⟩; rintro v h2 ⟨rfl, rfl⟩; rw [es, if_neg (by omega)]; exact ⟨rfl, rfl⟩
  · have : t = 8 := by
      refine Classical.byContradiction fun w => ?_
      have : t = 0 ∨ t = 1 ∨ t = 2 ∨ t = 3 ∨ t = 4 ∨ t = 5 ∨ t = 6 ∨ t = 7 := by omega
      rcases this with rfl | rfl | rfl | rfl | rfl | rfl | rfl | rfl
      · exact hne (0, 76) (by decide) rfl
      · exact hne (1, 86) (by decide) rfl
      · exact hne (2, 96) (by decide) rfl
      · exact hne (3, 106) (by decide) rfl
      · exact hne (4, 116) (by decide) rfl
      · exact hne (5, 125) (by decide) rfl
      · exact hne (6, 134) (by decide) rfl
      · exact hne (7, 143) (by decide) rfl
    subst this
    refine ⟨_, c_fate (by omega), ?_⟩; rintro v h2 ⟨rfl, rfl⟩; rw [es, if_neg (by omega)]; exact ⟨rfl, rfl⟩
def okSe (g : GS) (x w : Int32) : Bool := hasN x (gM g) && inB (nI 0) (nI 2) w
def aSeat (g : GS) (x w : Int32) : Int32 := gE g (2 * w.toNatClampNeg) x.toNatClampNeg
theorem c_SeatY {k : Nat} {h : Hp} {g : GS} {x w : Int32} (a : CI h g) (z : Sz g) (hok : okSe g x w = true) : Ct alC mX11_seat (k + 1) [vR 11 0, vI x, vI w] h (Rd h (aSeat g x w)) := by
  have hn := z.2.1
  obtain ⟨q1, q2⟩ := and3 hok
  obtain ⟨j, hj, rfl⟩ := hasN_get q1 (by omega)
  obtain ⟨t, -, ht, rfl⟩ := inB_get q2 (by omega) (by omega)
  refine ct_vc tX11_seat [] 40 okC kX11_seat rfl ?_
  refine ⟨_, c_has a.2.2.1.2.1, ?_⟩
  rintro v h1 ⟨rfl, rfl⟩
  rw [q1]
  refine ⟨fun c => absurd c (by decide), fun _ => ⟨fun c => absurd c (nI_pos (by omega)), fun _ => ⟨fun _ => ?_, fun c => absurd (nI_le ht (by omega)) c⟩⟩⟩
  unfold aSeat
  rw [nI_clamp (show j < 2 ^ 31 by omega), nI_clamp (show t < 2 ^ 31 by omega)]
  have er : ∀ p, h1.1 38 (5 * 1 + p) j = gE g p j := fun p => congrFun (a.e p) j
  refine ⟨fun c => ?_, fun c => ⟨fun c2 => ?_, fun c2 => ?_⟩⟩
  · have e2 : t = 0 := nI_inj (by omega) (by decide) c
    subst e2
    refine ⟨_, c_of (by omega) (by omega), ?_⟩; rintro v h2 ⟨rfl, rfl⟩; rw [er]; exact ⟨rfl, rfl⟩
  · have e2 : t = 1 := nI_inj (by omega) (by decide) c2
    subst e2
    refine ⟨_, c_of (by omega) (by omega), ?_⟩; rintro v h2 ⟨rfl, rfl⟩; rw [er]; exact ⟨rfl, rfl⟩
  · have e0 : ¬ t = 0 := fun w => c (by rw [w])
    have e1 : ¬ t = 1 := fun w => c2 (by rw [w])
    have e2 : t = 2 := by omega
    subst e2
    refine ⟨_, c_of (by omega) (by omega), ?_⟩; rintro v h2 ⟨rfl, rfl⟩; rw [er]; exact ⟨rfl, rfl⟩
def okTw (g : GS) (x y : Int32) : Bool := hasN x (gN g) && hasN y (gN g) && !decide (x = y)
def aStrength (g : GS) (x y : Int32) : Int32 := stF (gC g) (gR g) (gS g) x.toNatClampNeg y.toNatClampNeg
theorem c_StrengthY {k : Nat} {h : Hp} {g : GS} {x y : Int32} (a : CI h g) (z : Sz g) (hok : okTw g x y = true) : Ct alC mX11_strength (k + 3) [vR 11 0, vI x, vI y] h (fun v h' => v = vI (aStrength g x y) ∧ CI h' g) := by
  have hn := z.1
  obtain ⟨q0, q3⟩ := and3 hok
  obtain ⟨q1, q2⟩ := and3 q0
  have q3' : ¬ x = y := by simpa using q3
  obtain ⟨i, hi, rfl⟩ := hasN_get q1 (by omega)
  obtain ⟨j, hj, rfl⟩ := hasN_get q2 (by omega)
  refine ct_vc tX11_strength [] 40 okC kX11_strength rfl ?_
  refine ⟨_, c_has a.n, ?_⟩
  rintro v h1 ⟨rfl, rfl⟩
  rw [q1]
  refine ⟨fun c => absurd c (by decide), fun _ => ⟨_, c_has a.n, ?_⟩⟩
  rintro v h1 ⟨rfl, rfl⟩
  rw [q2]
  refine ⟨fun c => absurd c (by decide), fun _ => ⟨fun _ => ⟨_, c_valG a z (by omega) (by omega), ?_⟩, fun c => absurd q3' c⟩⟩
  rintro v h2 ⟨rfl, a2⟩
  unfold aStrength
  rw [nI_clamp (show i < 2 ^ 31 by omega), nI_clamp (show j < 2 ^ 31 by omega)]
  exact ⟨rfl, a2⟩
def okRo (g : GS) (x : Int32) : Bool := hasN x (gL g).length
def aRow (g : GS) (x : Int32) : Int64 := (gL g).getD x.toNatClampNeg 0
theorem c_RowY {k : Nat} {h : Hp} {g : GS} {x : Int32} (a : CI h g) (z : Sz g) (hok : okRo g x = true) : Ct alC mX11_row (k + 1) [vR 11 0, vI x] h (fun v h' => v = vL (aRow g x) ∧ h' = h) := by
  have hn := z.2.2.2.1
  obtain ⟨j, hj, rfl⟩ := hasN_get hok (by omega)
  refine ct_vc tX11_row [] 40 okC kX11_row rfl ?_
  have a5 := a.2.2.2.2.1
  refine ⟨fun c => absurd c (nI_pos (by omega)), fun _ => ⟨fun _ => ⟨ix1 8 (by omega), ?_, rfl⟩, fun c => ?_⟩⟩
  · unfold aRow
    rw [nI_clamp (show j < 2 ^ 31 by omega), List.getD_eq_getElem?_getD, List.getElem?_eq_getElem hj]
    exact congrArg vL (a5.2 j _ (List.getElem?_eq_getElem hj))
  · exact absurd (by rw [a5.1]; exact nI_lt hj (by omega)) c
