/-! the class's calls: rule, fighters, seats -/
theorem CI.rul {h h' : Hp} {g : GS} {b n : Nat} {T : Nat → Int32} (a : CI h g) (hb : b = h.2.2 1) (f : Fr [(9, 0), (34, 0), (6, b), (26, b)] h h') (e1 : h'.1 9 0 1 = nI n) (e2 : h'.1 34 0 = T) : CI h' (uT g (n, T)) := by
  obtain ⟨b0, b1, b2, b3⟩ := a.2.2.2.2.2.1
  have hne : h.2.2 0 ≠ b := by omega
  refine a.with f.2 f.1 (Or.inl ⟨by simp, by simp, rfl, rfl⟩) (Or.inl ⟨by simp, by simp, rfl⟩) (Or.inl ⟨by simp, by simp, by simp, rfl⟩) (Or.inr ⟨e1, e2⟩) (Or.inl ⟨by simp, rfl⟩) (Or.inr ?_) (Or.inl ⟨by simp, fun j _ _ => by simp, rfl⟩) (Or.inl ⟨by simp, fun j _ _ => by simp, rfl⟩) (Or.inl ⟨by simp, by simp, rfl⟩) (Or.inl ⟨by simp, by simp, by simp, rfl⟩)
  unfold c6
  rw [f.1, f.2 6 _ (by simp [hne]), f.2 26 _ (by simp [hne])]
  exact ⟨b0, b1, b2, b3⟩
theorem CI.swp {h : Hp} {g : GS} {c : List Int32} (a : CI h g) (e1 : h.1 6 (h.2.2 1) 2 = nI c.length) (e2 : ∃ q, h.1 26 (h.2.2 1) = lyS q 0 c) : CI (sD (sD h 0 (h.2.2 1)) 1 (h.2.2 0)) (uC g c) := by
  obtain ⟨b0, b1, b2, b3⟩ := a.2.2.2.2.2.1
  obtain ⟨a1, a2, a3, a4, a5, a6, a7, a8, a9, a10⟩ := a
  refine ⟨a1, a2, a3, a4, a5, ?_, a7, a8, a9, a10⟩
  have s0 : (sD (sD h 0 (h.2.2 1)) 1 (h.2.2 0)).2.2 0 = h.2.2 1 := rfl
  have s1 : (sD (sD h 0 (h.2.2 1)) 1 (h.2.2 0)).2.2 1 = h.2.2 0 := rfl
  unfold c6
  rw [s0, s1]
  exact ⟨by omega, by omega, e1, e2⟩
theorem fr_clr {S : List Ad} {h h1 : Hp} {j : Nat} {x : Int32} (f : Fr S h h1) (e : (9, 0) ∈ S) : Fr S h (sX h1 9 0 j x) := f.sX e
def aRule (g : GS) : Int32 := match rdO (gT g) (gTn g) with
  | some _ => nI 0
  | none => -(nI 1) - nI (rdR (gT g) (gTn g)).1
def nRule (g : GS) : GS := match rdO (gT g) (gTn g) with
  | some c => uC (uT g (0, rdT (gT g) (gTn g))) c
  | none => uT g (0, rdT (gT g) (gTn g))
theorem rdR_40 {T : Nat → Int32} {n : Nat} : (rdR T n).1 ≤ 40 := (ran_Rl (T := rdT T n) (n := rdn n) (L := 40) 4 0 (by omega)).2.1
theorem rdA_n1 {T : Nat → Int32} {n : Nat} (h : rdO T n = none) : rdA T n = nI (rdR T n).1 ∧ ¬ rdA T n = -(nI 1) := by
  have e : rdA T n = nI (rdR T n).1 := by unfold rdA; rw [h]
  refine ⟨e, ?_⟩
  rw [e, m1_nI]
  intro w
  have := rdR_40 (T := T) (n := n)
  have hn : nI (rdR T n).1 < 0 := by rw [w]; decide
  exact nI_pos (by omega) hn
theorem c_Rule {k : Nat} {h : Hp} {g : GS} (a : CI h g) (z : Sz g) : Ct alC mX11_rule (k + 34) [vR 11 0] h (fun v h' => v = vI (aRule g) ∧ CI h' (nRule g)) := by
  refine ct_vc tX11_rule [] 40 okC kX11_rule rfl ?_
  refine ⟨_, c_rread a.tn z.2.2.1, ?_⟩
  rintro v h1 ⟨rfl, f1, e1, e2⟩
  rw [a.tt] at e1 e2 ⊢
  refine ⟨_, c_tclear, ?_⟩
  rintro v h2 rfl
  have a2 : CI (sX h1 9 0 1 (nI 0)) (uT g (0, rdT (gT g) (gTn g))) := a.rul rfl (f1.sX (by simp)) (by rw [rdX, if_pos (by simp)]) (by rw [sX_row, if_neg (by simp), e1])
  have hD : (sX h1 9 0 1 (nI 0)).2.2 = h.2.2 := by show h1.2.2 = h.2.2; rw [f1.1]
  unfold aRule nRule
  cases hO : rdO (gT g) (gTn g) with
  | none =>
    obtain ⟨r1, r2⟩ := rdA_n1 hO
    refine ⟨fun c => absurd c r2, fun c => ?_⟩
    rw [r1]
    exact ⟨rfl, a2⟩
  | some c =>
    obtain ⟨q1, q2⟩ := e2 c hO
    have r1 : rdA (gT g) (gTn g) = -(nI 1) := by unfold rdA; rw [hO]
    refine ⟨fun _ => ⟨_, c_swapRules, ?_⟩, fun c => absurd r1 c⟩
    rintro v h3 rfl
    refine ⟨rfl, a2.swp ?_ ?_⟩
    · rw [hD, rdX, if_neg (by simp), q1]
    · rw [hD]
      obtain ⟨q, hq⟩ := q2
      exact ⟨q, by rw [sX_row, if_neg (by simp), hq]⟩
/-- the LINES that are read: FIGHTERS (0), SEATS (1) -/
def lnG (g : GS) (q : Nat) : Nat × Option (List (List Int32)) := rdLs (gT g) (gTn g) (if q = 0 then 62 else 76) q (8 - (if q = 0 then gN g else gM g)) 0
/-- columns as they were, and with what came -/
def RAg (R R' : Nat → Nat → Int32) (n : Nat) (o : Option (List (List Int32))) : Prop := (∀ p, p < 5 → ∀ j, j < n → R' p j = R p j) ∧ ∀ ls, o = some ls → ∀ p, p < 5 → ∀ j l, ls[j]? = some l → R' p (n + j) = l.getD p 0
/-- those that come stand in the state -/
def ntS (s : Sta) (R : Nat → Nat → Int32) (n : Nat) : Nat → Sta
  | 0 => s
  | t + 1 => entF (ntS s R n t) (n + t) (R 4 (n + t))
def aFighters (g : GS) : Int32 := if gTn g = 0 then nI 0 else (match (lnG g 0).2 with
  | some ls => nI ls.length
  | none => -(nI 1) - nI (lnG g 0).1)
def noK : Nat → Option Sta := fun _ => none
def nFighters (g : GS) (R' : Nat → Nat → Int32) : GS := if gTn g = 0 then g else (match (lnG g 0).2 with
  | some ls => uK (uP (uT (uR (uS g (ntS (gS g) R' (gN g) ls.length)) (gN g + ls.length, R')) (0, gT g)) []) noK
  | none => uT (uR g (gN g, R')) (0, gT g))
theorem rlA_n {r : Nat × Option (List (List Int32))} (h : r.2 = none) : rlA r = nI r.1 := by unfold rlA; rw [h]
theorem rlA_s {r : Nat × Option (List (List Int32))} {ls : List (List Int32)} (h : r.2 = some ls) : rlA r = -(nI 1) := by unfold rlA; rw [h]
theorem rdLs_in {T : Nat → Int32} {n L fm : Nat} (hf : fm < 3) : ∀ (r p : Nat), p ≤ L → (rdLs T n L fm r p).1 ≤ L
  | 0, p, h => h
  | r + 1, p, h => by
    have h1 := rdLn_in (T := T) (n := n) hf 5 0 p (by omega) h
    cases hl : (rdLn T n L fm 5 0 p).2 with
    | none => rw [rdLs_N hl]; exact h1
    | some l =>
      by_cases c : n ≤ (rdLn T n L fm 5 0 p).1
      · rw [rdLs_E hl c]; exact h1
      · by_cases c2 : pk T n L (rdLn T n L fm 5 0 p).1 = nI 59
        · rw [rdLs_M hl c c2]
          exact rdLs_in hf r _ (pk_c c2 (by decide))
        · rw [rdLs_X hl c c2]; exact h1
theorem nI_nm1 {j : Nat} (h : j ≤ 100) : ¬ nI j = -(nI 1) := by
  rw [m1_nI]
  intro w
  have hn : nI j < 0 := by rw [w]; decide
  exact nI_pos (by omega) hn
/-- what a reading leaves: the roster's columns, the text -/
theorem CI.ros {h h' : Hp} {g : GS} {n : Nat} {m : Nat} {T : Nat → Int32} (a : CI h g) (f : Fr (loS 0) h h') (e0 : h'.1 3 0 1 = h.1 3 0 1) (e1 : h'.1 3 0 3 = nI m) (e2 : h'.1 9 0 1 = nI n) (e3 : T = gT g) : CI h' (uT (uR g (m, ro h' 0)) (n, T)) := by
  refine a.with (S := loS 0) f.2 f.1 (Or.inl ⟨by simp [loS, coS], by simp [loS, coS], rfl, rfl⟩) (Or.inr ⟨by rw [e0]; exact a.2.1.1, e1, rfl⟩) (Or.inl ⟨by simp [loS, coS], fun p => by simp [loS, coS]; omega, by simp [loS, coS], rfl⟩) (Or.inr ⟨e2, by rw [f.2 34 0 (by simp [loS, coS]), e3]; exact a.tt⟩) (Or.inl ⟨by simp [loS, coS], rfl⟩) (Or.inl ⟨by simp [loS, coS], by simp [loS, coS], rfl⟩) (Or.inl ⟨by simp [loS, coS], fun j _ _ => by simp [loS, coS], rfl⟩) (Or.inl ⟨by simp [loS, coS], fun j _ _ => by simp [loS, coS], rfl⟩) (Or.inl ⟨by simp [loS, coS], by simp [loS, coS], rfl⟩) (Or.inl ⟨by simp [loS, coS], by simp [loS, coS], by simp [loS, coS], rfl⟩)
theorem CI.pcl {h : Hp} {g : GS} (a : CI h g) : CI (sX (sX h 4 0 3 (nI 0)) 4 0 4 (nI 0)) (uK (uP g []) noK) := by
  obtain ⟨f, hf, k2, k3, k4⟩ := a.2.2.2.2.2.2.1
  refine a.with (S := [(4, 0)]) (fun k i n => by rw [sX_row, if_neg (fun z => n (by rw [z.1, z.2]; simp)), sX_row, if_neg (fun z => n (by rw [z.1, z.2]; simp))]) rfl (Or.inl ⟨by simp, by simp, rfl, rfl⟩) (Or.inl ⟨by simp, by simp, rfl⟩) (Or.inl ⟨by simp, by simp, by simp, rfl⟩) (Or.inl ⟨by simp, by simp, rfl⟩) (Or.inl ⟨by simp, rfl⟩) (Or.inl ⟨by simp, by simp, rfl⟩) (Or.inr ⟨f, hf, ?_, ?_, fun j st hj => ?_⟩) (Or.inr ⟨?_, fun j hj st e => ?_⟩) (Or.inl ⟨by simp, by simp, rfl⟩) (Or.inl ⟨by simp, by simp, by simp, rfl⟩)
  · rw [rdX, if_neg (by simp), rdX, if_neg (by simp), k2]
  · rw [rdX, if_neg (by simp), rdX, if_pos (by simp)]; rfl
  · have hj' : ([] : List Sta)[j]? = some st := hj
    simp at hj'
  · rw [rdX, if_pos (by simp)]; rfl
  · cases e
theorem c_Fighters {k : Nat} {h : Hp} {g : GS} (a : CI h g) (z : Sz g) : Ct alC mX11_fighters (k + 7) [vR 11 0] h (fun v h' => v = vI (aFighters g) ∧ ∃ R', RAg (gR g) R' (gN g) (lnG g 0).2 ∧ CI h' (nFighters g R')) := by
  have hn := z.1
  have ht := z.2.2.1
  refine ct_vc tX11_fighters [(59, [true, false, false, true, true])] 60 okC kX11_fighters rfl ?_
  refine ⟨_, c_tisEmpty, ?_⟩
  rintro v h1 ⟨rfl, rfl⟩
  rw [a.tn]
  unfold aFighters nFighters
  refine ⟨fun c => ?_, fun c => ?_⟩
  · have c' : ¬ gTn g = 0 := fun w => of_decide_eq_false (b2_0.mp c) (by rw [w]; rfl)
    simp only [if_neg c']
    refine ⟨_, c_lread a.tn ht a.2.1.1 (by omega) a.n hn (by omega), ?_⟩
    rw [a.tt, show rdLs (gT g) (gTn g) 62 0 (8 - gN g) 0 = lnG g 0 from rfl]
    rintro v h2 ⟨rfl, f2, e1, e2, e3, e4, e5⟩
    refine ⟨_, c_tclear, ?_⟩
    rintro v h3 rfl
    have f3 : Fr (loS 0) h1 (sX h2 9 0 1 (nI 0)) := f2.sX (by simp [loS, coS])
    have roE : ro (sX h2 9 0 1 (nI 0)) 0 = ro h2 0 := funext fun p => by show (sX h2 9 0 1 (nI 0)).1 38 (5 * 0 + p) = _; rw [sX_row, if_neg (by simp)]
    have ra : RAg (gR g) (ro h2 0) (gN g) (lnG g 0).2 := by
      rw [← a.r]
      exact ⟨fun p hp j hj => e4 p hp j hj, fun ls hl p hp j l hj => (e5 ls hl).2 p hp j l hj⟩
    cases hl : (lnG g 0).2 with
    | none =>
      have r1 := rlA_n hl
      have hL : (lnG g 0).1 ≤ 62 := rdLs_in (by omega) _ _ (by omega)
      rw [r1]
      refine ⟨fun c => absurd c (nI_nm1 (by omega)), fun _ => ⟨rfl, ro h2 0, ?_, ?_⟩⟩
      · rw [hl] at ra; exact ra
      · rw [← roE]
        exact a.ros f3 (by rw [rdX, if_neg (by simp), e2]) (by rw [rdX, if_neg (by simp), e3]; exact a.n) (by rw [rdX, if_pos (by simp)]) rfl
    | some ls =>
      have r1 := rlA_s hl
      obtain ⟨hl1, hl2⟩ := rdLs_len _ _ ls hl
      have hl2' : ls.length ≤ 8 - gN g := hl2
      obtain ⟨e6, e7⟩ := e5 ls hl
      rw [r1]
      refine ⟨fun _ => ⟨_, c_lenter, ?_⟩, fun c => absurd rfl c⟩
      rintro v h4 ⟨rfl, rfl⟩
      have q4 : (sX h2 9 0 1 (nI 0)).1 3 0 4 = nI ls.length := by rw [rdX, if_neg (by simp), e6]
      have q3 : (sX h2 9 0 1 (nI 0)).1 3 0 3 = nI (gN g) := by rw [rdX, if_neg (by simp), e3]; exact a.n
      rw [q4, q3, nI_add]
      have a4 : CI (sX (sX h2 9 0 1 (nI 0)) 3 0 3 (nI (gN g + ls.length))) (uT (uR g (gN g + ls.length, ro h2 0)) (0, gT g)) := by
        have := a.ros (h' := sX (sX h2 9 0 1 (nI 0)) 3 0 3 (nI (gN g + ls.length))) (n := 0) (m := gN g + ls.length) (T := gT g) (f3.sX (by simp [loS, coS])) (by rw [rdX, if_neg (by simp), rdX, if_neg (by simp), e2]) (by rw [rdX, if_pos (by simp)]) (by rw [rdX, if_neg (by simp), rdX, if_pos (by simp)]) rfl
        have roE2 : ro (sX (sX h2 9 0 1 (nI 0)) 3 0 3 (nI (gN g + ls.length))) 0 = ro h2 0 := funext fun p => by show (sX (sX h2 9 0 1 (nI 0)) 3 0 3 (nI (gN g + ls.length))).1 38 (5 * 0 + p) = _; rw [sX_row, if_neg (by simp), sX_row, if_neg (by simp)]
        rw [roE2] at this
        exact this
      have L : ∀ t, t ≤ ls.length → ∀ h5, CI h5 (uS (uT (uR g (gN g + ls.length, ro h2 0)) (0, gT g)) (ntS (gS g) (ro h2 0) (gN g) t)) → WP alC mX11_fighters (k + 7) (fun v h' => v = vI (nI ls.length) ∧ ∃ R', RAg (gR g) R' (gN g) (some ls) ∧ CI h' (uK (uP (uT (uR (uS g (ntS (gS g) R' (gN g) ls.length)) (gN g + ls.length, R')) (0, gT g)) []) noK)) 59 [some (vR 11 0), none, none, some (vI (nI ls.length)), some (vI (nI (gN g + t)))] [] h5 := by
        refine loop_up ls.length ?_ (fun t ht ih => ?_)
        · intro h5 a5
          refine wp_at tX11_fighters [] 30 59 okC kX11_fighters ⟨fun _ => ⟨_, c_pclear, ?_⟩, fun c => absurd (by rw [a5.n]; exact nI_le (Nat.le_refl (gN g + ls.length)) (by omega)) c⟩
          rintro v h6 rfl
          refine ⟨rfl, ro h2 0, ?_, a5.pcl⟩
          rw [hl] at ra; exact ra
        · intro h5 a5
          rw [← Nat.add_assoc, ← nI_add (gN g + t) 1, ntS] at ih
          refine wp_at tX11_fighters [(59, [true, false, false, true, true])] 60 59 okC kX11_fighters ⟨fun c => absurd c (by rw [a5.n]; exact nI_ge (show gN g + t < gN g + ls.length by omega) (show gN g + ls.length < 2 ^ 31 by omega)), fun _ => ⟨_, c_of (by omega) (by omega), ?_⟩⟩
          rintro v h6 ⟨rfl, rfl⟩
          refine ⟨_, c_enter (by omega), ?_⟩
          rintro v h7 rfl
          have er : h6.1 38 (5 * 0 + 4) = ro h2 0 4 := congrFun a5.r 4
          have es : h6.1 33 0 = ntS (gS g) (ro h2 0) (gN g) t := a5.1.1
          rw [er, es]
          exact ih _ a5.now
      exact L 0 (Nat.zero_le _) _ a4
  · have c' : gTn g = 0 := nI_inj (by omega) (by omega) (of_decide_eq_true (b2_n0.mp c))
    simp only [if_pos c']
    refine ⟨rfl, gR g, ?_, a⟩
    refine ⟨fun _ _ _ _ => rfl, fun ls hl => ?_⟩
    exfalso
    have : (lnG g 0).2 = none := by
      unfold lnG
      rw [c']
      have : ∀ r, (rdLs (gT g) 0 62 0 r 0).2 = none := by
        intro r
        cases r with
        | zero => rfl
        | succ r =>
          have hk : pk (gT g) 0 62 0 = -(nI 1) := by unfold pk; rw [if_neg (by omega)]
          have : (rdLn (gT g) 0 62 0 5 0 0).2 = none := by
            rw [rdLn_s, if_pos]
            have : chS 0 0 = nI 97 := rfl
            rw [this, rdP_a]
            unfold raF
            rw [hk, if_pos (by decide)]
          rw [rdLs_N this]
      exact this _
    rw [this] at hl
    cases hl
theorem orG_cong {a : Int32} {f g : Nat → Int32} : ∀ {n : Nat}, (∀ j, j < n → f j = g j) → orG a f n = orG a g n
  | 0, _ => rfl
  | n + 1, h => by rw [orG, orG, orG_cong (fun j hj => h j (by omega)), h n (by omega)]
theorem usF_cong {F F' : Nat → Int32} {home u : Int32} {n : Nat} (h : ∀ j, j < n → F j = F' j) : usF F home u n = usF F' home u n := orG_cong (fun j hj => by rw [h j hj])
theorem urF_cong {F F' : Nat → Int32} {home : Int32} {n : Nat} (h : ∀ j, j < n → F j = F' j) : ∀ f u, urF F home n f u = urF F' home n f u
  | 0, _ => rfl
  | f + 1, u => by rw [urF, urF, usF_cong h, urF_cong h f]
theorem upF_cong {P P' F F' : Nat → Int32} {n : Nat} {fav won home : Int32} (h1 : ∀ j, j < n → P j = P' j) (h2 : ∀ j, j < n → F j = F' j) : upF P F n fav won home = upF P' F' n fav won home := by
  unfold upF
  rw [urF_cong h2]
  congr 1
  exact orG_cong (fun j hj => by rw [h1 j hj])
theorem csF_cong {f f' : Nat → Int32} {set : Int32} {n : Nat} (h : ∀ j, j < n → f j = f' j) : csF f set n = csF f' set n := smF_cong (fun j hj => by rw [h j hj])
theorem spB_cong {E E' : Nat → Nat → Int32} {n : Nat} {fav won home : Int32} (h : ∀ p, p < 5 → ∀ j, j < n → E p j = E' p j) : spB (E 0) (E 2) (E 4) n fav won home = spB (E' 0) (E' 2) (E' 4) n fav won home := by
  unfold spB
  rw [upF_cong (h 2 (by omega)) (h 4 (by omega)), csF_cong (h 0 (by omega)), csF_cong (h 0 (by omega))]
theorem lsF_cong {f g : Nat → Bool} (h : ∀ i, f i = g i) : ∀ n i, lsF f n i = lsF g n i
  | 0, _ => rfl
  | n + 1, i => by rw [lsF, lsF, h i, lsF_cong h n]
theorem lsG_cong {g g' : GS} (hm : gM g' = gM g) (h : ∀ p, p < 5 → ∀ j, j < gM g → gE g' p j = gE g p j) : lsG g' = lsG g := by
  unfold lsG
  refine lsF_cong (fun i => ?_) _ _
  unfold spG
  rw [hm]
  exact spB_cong h
def aSeats (g : GS) : Int32 := if gTn g = 0 then nI 0 else (match (lnG g 1).2 with
  | some ls => nI ls.length
  | none => -(nI 1) - nI (lnG g 1).1)
def nSeats (g : GS) (R' E' : Nat → Nat → Int32) : GS := if gTn g = 0 then g else (match (lnG g 1).2 with
  | some ls => uK (uP (uT (uE (uR g (gN g, R')) (gM g + ls.length, E')) (0, gT g)) []) noK
  | none => uT (uE (uR g (gN g, R')) (gM g, E')) (0, gT g))
theorem CI.set {h h' : Hp} {g : GS} {n m : Nat} {T : Nat → Int32} (a : CI h g) (f : Fr ((1, 0) :: loS 1) h h') (e0 : h'.1 3 1 1 = h.1 3 1 1) (e1 : h'.1 3 1 3 = nI m) (e2 : h'.1 9 0 1 = nI n) (e3 : T = gT g) (e4 : h'.1 1 0 1 = nI (lsG (uE (uR g (gN g, ro h' 0)) (m, ro h' 1)))) : CI h' (uT (uE (uR g (gN g, ro h' 0)) (m, ro h' 1)) (n, T)) := by
  refine a.with (S := (1, 0) :: loS 1) f.2 f.1 (Or.inl ⟨by simp [loS, coS], by simp [loS, coS], rfl, rfl⟩) (Or.inr ⟨?_, ?_, rfl⟩) (Or.inr ⟨by rw [e0]; exact a.2.2.1.1, e1, rfl, e4⟩) (Or.inr ⟨e2, by rw [f.2 34 0 (by simp [loS, coS]), e3]; exact a.tt⟩) (Or.inl ⟨by simp [loS, coS], rfl⟩) (Or.inl ⟨by simp [loS, coS], by simp [loS, coS], rfl⟩) (Or.inl ⟨by simp [loS, coS], fun j _ _ => by simp [loS, coS], rfl⟩) (Or.inl ⟨by simp [loS, coS], fun j _ _ => by simp [loS, coS], rfl⟩) (Or.inl ⟨by simp [loS, coS], by simp [loS, coS], rfl⟩) (Or.inl ⟨by simp [loS, coS], by simp [loS, coS], by simp [loS, coS], rfl⟩)
  · rw [f.2 3 0 (by simp [loS, coS])]; exact a.2.1.1
  · rw [f.2 3 0 (by simp [loS, coS])]; exact a.n
theorem c_Seats {k : Nat} {h : Hp} {g : GS} (a : CI h g) (z : Sz g) : Ct alC mX11_seats (k + 7) [vR 11 0] h (fun v h' => v = vI (aSeats g) ∧ ∃ R' E', (∀ p, p < 5 → R' p = gR g p) ∧ RAg (gE g) E' (gM g) (lnG g 1).2 ∧ CI h' (nSeats g R' E')) := by
  have hn := z.2.1
  have ht := z.2.2.1
  have am : h.1 3 1 3 = nI (gM g) := a.2.2.1.2.1
  have ar : ro h 1 = gE g := a.2.2.1.2.2.1
  refine ct_vc tX11_seats [] 60 okC kX11_seats rfl ?_
  refine ⟨_, c_tisEmpty, ?_⟩
  rintro v h1 ⟨rfl, rfl⟩
  rw [a.tn]
  unfold aSeats nSeats
  refine ⟨fun c => ?_, fun c => ?_⟩
  · have c' : ¬ gTn g = 0 := fun w => of_decide_eq_false (b2_0.mp c) (by rw [w]; rfl)
    simp only [if_neg c']
    refine ⟨_, c_lread a.tn ht a.2.2.1.1 (by omega) am hn (by omega), ?_⟩
    rw [a.tt, show rdLs (gT g) (gTn g) 76 1 (8 - gM g) 0 = lnG g 1 from rfl]
    rintro v h2 ⟨rfl, f2, e1, e2, e3, e4, e5⟩
    refine ⟨_, c_tclear, ?_⟩
    rintro v h3 rfl
    have f3 : Fr ((1, 0) :: loS 1) h1 (sX h2 9 0 1 (nI 0)) := (f2.mo (fun x hx => List.mem_cons_of_mem _ hx)).sX (by simp [loS, coS])
    have roE : ∀ q, ro (sX h2 9 0 1 (nI 0)) q = ro h2 q := fun q => funext fun p => by show (sX h2 9 0 1 (nI 0)).1 38 (5 * q + p) = _; rw [sX_row, if_neg (by simp)]
    have ra : RAg (gE g) (ro h2 1) (gM g) (lnG g 1).2 := by
      rw [← ar]
      exact ⟨fun p hp j hj => e4 p hp j hj, fun ls hl p hp j l hj => (e5 ls hl).2 p hp j l hj⟩
    have rr : ∀ p, p < 5 → ro h2 0 p = gR g p := by
      intro p hp
      rw [← a.r]
      exact f2.2 38 (5 * 0 + p) (by simp [loS, coS]; omega)
    cases hl : (lnG g 1).2 with
    | none =>
      have r1 := rlA_n hl
      have hL : (lnG g 1).1 ≤ 76 := rdLs_in (by omega) _ _ (by omega)
      rw [r1]
      refine ⟨fun c => absurd c (nI_nm1 (by omega)), fun _ => ⟨rfl, ro h2 0, ro h2 1, rr, ?_, ?_⟩⟩
      · rw [hl] at ra; exact ra
      · rw [← roE 0, ← roE 1]
        refine a.set f3 (by rw [rdX, if_neg (by simp), e2]) (by rw [rdX, if_neg (by simp), e3]; exact am) (by rw [rdX, if_pos (by simp)]) rfl ?_
        rw [rdX, if_neg (by simp), f2.2 1 0 (by simp [loS, coS]), a.2.2.1.2.2.2]
        congr 1
        exact (lsG_cong (g := g) (g' := uE (uR g (gN g, ro (sX h2 9 0 1 (nI 0)) 0)) (gM g, ro (sX h2 9 0 1 (nI 0)) 1)) rfl (fun p hp j hj => by show ro (sX h2 9 0 1 (nI 0)) 1 p j = _; rw [roE 1]; exact ra.1 p hp j hj)).symm
    | some ls =>
      have r1 := rlA_s hl
      obtain ⟨hl1, hl2⟩ := rdLs_len _ _ ls hl
      have hl2' : ls.length ≤ 8 - gM g := hl2
      obtain ⟨e6, e7⟩ := e5 ls hl
      rw [r1]
      refine ⟨fun _ => ⟨_, c_pclear, ?_⟩, fun c => absurd rfl c⟩
      rintro v h4 rfl
      have q4 : (sX (sX (sX h2 9 0 1 (nI 0)) 4 0 3 (nI 0)) 4 0 4 (nI 0)).1 3 1 4 = nI ls.length := by rw [rdX, if_neg (by simp), rdX, if_neg (by simp), rdX, if_neg (by simp), e6]
      have q3 : (sX (sX (sX h2 9 0 1 (nI 0)) 4 0 3 (nI 0)) 4 0 4 (nI 0)).1 3 1 3 = nI (gM g) := by rw [rdX, if_neg (by simp), rdX, if_neg (by simp), rdX, if_neg (by simp), e3]; exact am
      refine ⟨_, c_centerX q3 q4 (by omega) rfl, ?_⟩
      rintro v h5 ⟨rfl, rfl⟩
      refine ⟨rfl, ro h2 0, ro h2 1, rr, ?_, ?_⟩
      · rw [hl] at ra; exact ra
      · have roX : ∀ q, ro (sX (sX (sX h2 9 0 1 (nI 0)) 4 0 3 (nI 0)) 4 0 4 (nI 0)) q = ro h2 q := fun q => funext fun p => by show (sX (sX (sX h2 9 0 1 (nI 0)) 4 0 3 (nI 0)) 4 0 4 (nI 0)).1 38 (5 * q + p) = _; rw [sX_row, if_neg (by simp), sX_row, if_neg (by simp), sX_row, if_neg (by simp)]
        rw [roX 1]
        have A : ∀ y, y = nI (lsG (uE (uR g (gN g, ro h2 0)) (gM g + ls.length, ro h2 1))) → CI (sX (sX (sX h2 9 0 1 (nI 0)) 3 1 3 (nI (gM g + ls.length))) 1 0 1 y) (uT (uE (uR g (gN g, ro h2 0)) (gM g + ls.length, ro h2 1)) (0, gT g)) := by
          intro y hy
          have roY : ∀ q, ro (sX (sX (sX h2 9 0 1 (nI 0)) 3 1 3 (nI (gM g + ls.length))) 1 0 1 y) q = ro h2 q := fun q => funext fun p => by show (sX (sX (sX h2 9 0 1 (nI 0)) 3 1 3 (nI (gM g + ls.length))) 1 0 1 y).1 38 (5 * q + p) = _; rw [sX_row, if_neg (by simp), sX_row, if_neg (by simp), sX_row, if_neg (by simp)]
          have := a.set (h' := sX (sX (sX h2 9 0 1 (nI 0)) 3 1 3 (nI (gM g + ls.length))) 1 0 1 y) (n := 0) (m := gM g + ls.length) (T := gT g) ((f3.sX (by simp [loS, coS])).sX (by simp [loS, coS])) (by rw [rdX, if_neg (by simp), rdX, if_neg (by simp), rdX, if_neg (by simp), e2]) (by rw [rdX, if_neg (by simp), rdX, if_pos (by simp)]) (by rw [rdX, if_neg (by simp), rdX, if_neg (by simp), rdX, if_pos (by simp)]) rfl (by rw [rdX, if_pos (by simp), roY 0, roY 1, hy])
          rw [roY 0, roY 1] at this
          exact this
        have B := (A _ rfl).pcl
        have hh : ∀ y, sX (sX (sX (sX (sX h2 9 0 1 (nI 0)) 3 1 3 (nI (gM g + ls.length))) 1 0 1 y) 4 0 3 (nI 0)) 4 0 4 (nI 0) = sX (sX (sX (sX (sX h2 9 0 1 (nI 0)) 4 0 3 (nI 0)) 4 0 4 (nI 0)) 3 1 3 (nI (gM g + ls.length))) 1 0 1 y := by
          intro y
          refine hp_eq (fun k i => ?_) rfl
          simp only [sX_row]
          by_cases c1 : k = 4 ∧ i = 0
          · obtain ⟨rfl, rfl⟩ := c1; simp
          · by_cases c2 : k = 1 ∧ i = 0
            · obtain ⟨rfl, rfl⟩ := c2; simp
            · by_cases c3 : k = 3 ∧ i = 1
              · obtain ⟨rfl, rfl⟩ := c3; simp
              · simp [c1, c2, c3]
        rw [hh] at B
        exact B
  · have c' : gTn g = 0 := nI_inj (by omega) (by omega) (of_decide_eq_true (b2_n0.mp c))
    simp only [if_pos c']
    refine ⟨rfl, gR g, gE g, fun _ _ => rfl, ?_, a⟩
    refine ⟨fun _ _ _ _ => rfl, fun ls hl => ?_⟩
    exfalso
    have : (lnG g 1).2 = none := by
      unfold lnG
      rw [c']
      have : ∀ r, (rdLs (gT g) 0 76 1 r 0).2 = none := by
        intro r
        cases r with
        | zero => rfl
        | succ r =>
          have hk : pk (gT g) 0 76 0 = -(nI 1) := by unfold pk; rw [if_neg (by omega)]
          have : (rdLn (gT g) 0 76 1 5 0 0).2 = none := by
            rw [rdLn_s, if_pos]
            have : chS 1 0 = nI 112 := rfl
            rw [this, rdP_p]
            have hd : (tkD (gT g) 0 76 (nI 0) (nI 9) 0).1 = -(nI 1) := by unfold tkD; rw [hk, if_pos (by decide)]
            unfold rnF
            rw [tkN_none hd, if_neg (by decide)]
          rw [rdLs_N this]
      exact this _
    rw [this] at hl
    cases hl
