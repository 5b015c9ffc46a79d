/-! the class's calls: career, years, even -/
def cqG (g : GS) (f w : Nat) : Qs := adC (gC g) (gR g) (nI (lsG g)) (gW g) (gN g) f w (gS g) [] none
def lsQ (q : Qs) : List Int32 := match q with
  | some (_, _, p) => p
  | none => []
def okCa (g : GS) (x n : Int32) : Bool := hasN x (gN g) && inB (nI 1) (nI 4) n
def aCareer (g : GS) (x n : Int32) : Int32 := if okCa g x n = true then (if resC (cqG g x.toNatClampNeg n.toNatClampNeg) = -(nI 1) then -(nI 2) else resC (cqG g x.toNatClampNeg n.toNatClampNeg)) else -(nI 1)
def nCareer (g : GS) (x n : Int32) : GS := if okCa g x n = true then (if resC (cqG g x.toNatClampNeg n.toNatClampNeg) = -(nI 1) then g else uL g ((lsQ (cqG g x.toNatClampNeg n.toNatClampNeg)).map Int32.toInt64)) else g
theorem smS_scr {b : Nat} (hb : b < 2) : ∀ x, x ∈ smS b → x ∈ scrL := by
  intro q hq
  have hb2 : b = 0 ∨ b = 1 := by omega
  rcases hb2 with e | e <;> rw [e] at hq <;> simp [smS, sfS] at hq <;> rcases hq with rfl | rfl | rfl | rfl | rfl | rfl | rfl | rfl | rfl <;> simp [scrL]
theorem take_s {l : List Int32} {t : Nat} {x : Int32} (h : l[t]? = some x) : (l.take (t + 1)).map Int32.toInt64 = (l.take t).map Int32.toInt64 ++ [x.toInt64] := by
  rw [List.take_add_one, h]
  simp
theorem c_addG3 {k : Nat} {h : Hp} {g : GS} {x : Int64} (a : CI h g) (hl : (gL g).length < 8) : Ct alC mX5_add k [vR 5 0, vL x] h (fun _ h' => CI h' (uL g (gL g ++ [x])) ∧ h'.1 32 = h.1 32) := by
  refine ct_post (c_radd a.2.2.2.2.1.1 hl) ?_
  rintro v h' rfl
  refine ⟨a.add, ?_⟩
  funext i
  unfold rAdd
  rw [sX_row, if_neg (by simp)]
  rfl
theorem c_clrG3 {k : Nat} {h : Hp} {g : GS} (a : CI h g) : Ct alC mX5_clear k [vR 5 0] h (fun _ h' => CI h' (uL g []) ∧ h'.1 32 = h.1 32) := by
  refine ct_post c_rclear ?_
  rintro v h' rfl
  refine ⟨a.clr, ?_⟩
  funext i
  rw [sX_row, if_neg (by simp)]
theorem c_Career {k : Nat} {h : Hp} {g : GS} {x n : Int32} (a : CI h g) (z : Sz g) : Ct alC mX11_career (k + 11) [vR 11 0, vI x, vI n] h (fun v h' => v = vI (aCareer g x n) ∧ CI h' (nCareer g x n)) := by
  have hn := z.1
  have NO : ¬ okCa g x n = true → WP alC mX11_career (k + 11) (fun v h' => v = vI (aCareer g x n) ∧ CI h' (nCareer g x n)) 21 [none, none, none, none, none] [] h := by
    intro hno
    refine wp_at tX11_career [] 10 21 okC kX11_career ?_
    unfold aCareer nCareer
    rw [if_neg hno, if_neg hno]
    exact ⟨rfl, a⟩
  refine ct_vc tX11_career [(21, [false, false, false, false, false]), (55, [true, false, true, true, true])] 60 okC kX11_career rfl ?_
  refine ⟨_, c_has a.n, ?_⟩
  rintro v h' ⟨rfl, rfl⟩
  refine ⟨fun c => NO (fun w => by rw [(and3 w).1] at c; exact absurd c (by decide)), fun c => ⟨fun c2 => NO (fun w => inB_1 c2 (and3 w).2), fun c2 => ⟨fun c3 => ?_, fun c3 => NO (fun w => inB_2 (i_nle c3) (and3 w).2)⟩⟩⟩
  have q1 := b2_n0.mp c
  have q2 : inB (nI 1) (nI 4) n = true := inB_y c2 (i_ltn c3)
  have hok : okCa g x n = true := by unfold okCa; rw [q1, q2]; rfl
  unfold aCareer nCareer
  simp only [if_pos hok]
  obtain ⟨p, hp, rfl⟩ := hasN_get q1 (by omega)
  obtain ⟨w, hw1, hw2, rfl⟩ := inB_get q2 (by omega) (by omega)
  rw [nI_clamp (show p < 2 ^ 31 by omega), nI_clamp (show w < 2 ^ 31 by omega)]
  refine ⟨_, c_mostFavour hw2 hp (a.wd z), ?_⟩
  rintro v h1 ⟨rfl, f1, sq⟩
  have a1 : CI h1 g := a.scr f1 (smS_scr a.2.2.2.2.2.1.1)
  rw [a.1.1] at sq
  rw [a.1.1]
  have eq : adC (gC g) (gR g) (nI (lsG g)) (gW g) (gN g) p w (gS g) [] none = cqG g p w := rfl
  rw [eq] at sq ⊢
  refine ⟨fun c4 => ?_, fun c4 => ?_⟩
  · have c4' : ¬ resC (cqG g p w) = -(nI 1) := c4
    simp only [if_neg c4']
    cases hq : cqG g p w with
    | none => rw [hq] at c4'; exact absurd rfl c4'
    | some bp =>
      obtain ⟨bb, bg, bl⟩ := bp
      rw [hq] at sq
      obtain ⟨-, -, -, -, -, hlen, hpin⟩ := sq
      show ∃ P', _ ∧ _
      refine ⟨_, c_clrG3 a1, ?_⟩
      rintro v h2 ⟨a2, e2⟩
      have L : ∀ t, t ≤ w → ∀ h3, CI h3 (uL g ((bl.take t).map Int32.toInt64)) → h3.1 32 = h1.1 32 → WP alC mX11_career (k + 11) (fun v h' => v = vI bb ∧ CI h' (uL g (bl.map Int32.toInt64))) 55 [some (vR 11 0), none, some (vI (nI w)), some (vI bb), some (vI (nI t))] [] h3 := by
        refine loop_up w ?_ (fun t ht ih => ?_)
        · intro h3 a3 e3
          refine wp_at tX11_career [] 20 55 okC kX11_career ⟨fun _ => ⟨rfl, ?_⟩, fun c => absurd (nI_le (Nat.le_refl _) (by omega)) c⟩
          rw [← hlen, List.take_length] at a3
          exact a3
        · intro h3 a3 e3
          rw [← nI_add t 1] at ih
          have hbt : bl[t]? = some bl[t] := List.getElem?_eq_getElem (by omega)
          refine wp_at tX11_career [(55, [true, false, true, true, true])] 40 55 okC kX11_career ⟨fun c => absurd c (nI_ge ht (by omega)), fun _ => ⟨ix1 4 (by omega), _, c_addG3 a3 ?_, ?_⟩⟩
          · show ((bl.take t).map Int32.toInt64).length < 8
            rw [List.length_map, List.length_take]; omega
          · rintro v h4 ⟨a4, e4⟩
            refine ih h4 ?_ (e4.trans e3)
            rw [take_s hbt]
            rw [nI_clamp (by omega), e3, hpin t _ hbt] at a4
            exact a4
      exact L 0 (Nat.zero_le _) h2 a2 e2
  · have c4' : resC (cqG g p w) = -(nI 1) := nn c4
    simp only [if_pos c4']
    exact ⟨rfl, a1⟩
/-- draws -/
def nxD (r : Int32) : Int32 := r * nI 1103515245 + nI 12345
theorem c_nextDraw {k : Nat} {h : Hp} {x : Int32} : Ct alC mX11_nextDraw k [vI x] h (Rd h (nxD x)) := by
  refine ct_vc tX11_nextDraw [] 20 okC kX11_nextDraw rfl ?_
  exact ⟨rfl, rfl⟩
/-- how many more have a fate -/
def mrF (s t : Sta) (ft : Int32) (n : Nat) : Int32 := bcF (btF t ft n) - bcF (btF s ft n)
theorem c_moreSince {k i j : Nat} {h : Hp} {g : GS} {ft : Int32} (a : CI h g) (z : gN g ≤ 8) : Ct alC mX11_moreSince (k + 2) [vR 11 0, vR 8 i, vR 8 j, vI ft] h (Rd h (mrF (h.1 33 i) (h.1 33 j) ft (gN g))) := by
  refine ct_vc tX11_moreSince [] 30 okC kX11_moreSince rfl ?_
  refine ⟨_, ct_cv (c_bits z) (congrArg (fun x => [vR 8 j, vI ft, vI x]) a.n) rfl, ?_⟩
  rintro v h1 ⟨rfl, rfl⟩
  refine ⟨_, c_bitCount okC, ?_⟩
  rintro v h1 ⟨rfl, rfl⟩
  refine ⟨_, ct_cv (c_bits z) (congrArg (fun x => [vR 8 i, vI ft, vI x]) a.n) rfl, ?_⟩
  rintro v h1 ⟨rfl, rfl⟩
  refine ⟨_, c_bitCount okC, ?_⟩
  rintro v h1 ⟨rfl, rfl⟩
  exact ⟨rfl, rfl⟩
def drF (r : Int32) (n : Nat) : Int32 := ush r 16 - ush r 16 / nI n * nI n
def meS (g : GS) (s : Sta) (x y : Int32) : Sta := if hnF (gN g) s x y = 0 then mtG g s x.toNatClampNeg y.toNatClampNeg else s
/-- a time of years: the draw, how many fought, the state -/
abbrev Ys : Type := Int32 × Int32 × Sta
def yr1 (g : GS) (t : Nat) (q : Ys) : Ys := (nxD (nxD q.1), q.2.1 + (if hnF (gN g) q.2.2 (drF (nxD q.1) (gN g)) (drF (nxD (nxD q.1)) (gN g)) = 0 then nI 1 else nI 0), if nI t - nI t / nI 3 * nI 3 = 0 then psF (gN g) (meS g q.2.2 (drF (nxD q.1) (gN g)) (drF (nxD (nxD q.1)) (gN g))) (nI 1) else meS g q.2.2 (drF (nxD q.1) (gN g)) (drF (nxD (nxD q.1)) (gN g)))
def yrR (g : GS) (seed : Int32) (n : Nat) : Ys := lpG (yr1 g) n 1 (seed, nI 0, gS g)
def aYears (g : GS) (x n : Int32) : Int32 := if gN g = 0 then -(nI 2) else if inB (nI 1) (nI 60) n = true then (yrR g x n.toNatClampNeg).2.1 else -(nI 1)
def rYears (g : GS) (s : Sta) : List Int64 := [(mrF (gS g) s (nI 1) (gN g)).toInt64, (mrF (gS g) s (nI 2) (gN g)).toInt64, (s 45).toInt64]
def nYears (g : GS) (x n : Int32) : GS := if gN g = 0 then g else if inB (nI 1) (nI 60) n = true then uL g (rYears g (yrR g x n.toNatClampNeg).2.2) else g
theorem c_Years {k : Nat} {h : Hp} {g : GS} {x n : Int32} (a : CI h g) (z : Sz g) : Ct alC mX11_years (k + 6) [vR 11 0, vI x, vI n] h (fun v h' => v = vI (aYears g x n) ∧ CI h' (nYears g x n)) := by
  have hn := z.1
  have NO : ¬ gN g = 0 → ¬ inB (nI 1) (nI 60) n = true → WP alC mX11_years (k + 6) (fun v h' => v = vI (aYears g x n) ∧ CI h' (nYears g x n)) 24 [none, none, none, none, none, none, none, none] [] h := by
    intro h0 hno
    refine wp_at tX11_years [] 10 24 okC kX11_years ?_
    unfold aYears nYears
    rw [if_neg h0, if_neg h0, if_neg hno, if_neg hno]
    exact ⟨rfl, a⟩
  refine ct_vc tX11_years [(24, [false, false, false, false, false, false, false, false]), (45, [true, true, true, true, true, true, false, false])] 60 okC kX11_years rfl ?_
  refine ⟨fun c => ?_, fun c => ?_⟩
  · have h0 : ¬ gN g = 0 := fun w => c (by rw [a.n, w]; rfl)
    refine ⟨fun c2 => NO h0 (inB_1 c2), fun c2 => ⟨fun c3 => ?_, fun c3 => NO h0 (inB_2 (i_nle c3))⟩⟩
    have q2 : inB (nI 1) (nI 60) n = true := inB_y c2 (i_ltn c3)
    unfold aYears nYears
    simp only [if_neg h0, if_pos q2]
    obtain ⟨w, hw1, hw2, rfl⟩ := inB_get q2 (by omega) (by omega)
    rw [nI_clamp (show w < 2 ^ 31 by omega)]
    refine ⟨_, c_take, ?_⟩
    rintro v h1 rfl
    have L : ∀ f i (q : Ys) h1, i + f = w + 1 → yrR g x w = lpG (yr1 g) f i q → CI h1 g → h1.1 33 2 = q.2.2 → WP alC mX11_years (k + 6) (fun v h' => v = vI (yrR g x w).2.1 ∧ CI h' (uL g (rYears g (yrR g x w).2.2))) 45 [some (vR 11 0), some (vI x), some (vI (nI w)), some (vI q.1), some (vI q.2.1), some (vI (nI i)), none, none] [] h1 := by
      intro f
      induction f with
      | zero =>
        intro i q h1 hi e a1 es
        rw [e]
        refine wp_at tX11_years [] 60 45 okC kX11_years ⟨fun _ => ⟨_, c_clrG a1, ?_⟩, fun c => absurd (nI_lt (show w < i by omega) (by omega)) c⟩
        rintro v h2 ⟨a2, e2⟩
        refine ⟨_, c_moreSince a2 hn, ?_⟩
        rintro v h3 ⟨rfl, rfl⟩
        refine ⟨_, c_addG a2 (by show (0 : Nat) < 8; decide), ?_⟩
        rintro v h4 ⟨a4, e4⟩
        refine ⟨_, c_moreSince a4 hn, ?_⟩
        rintro v h5 ⟨rfl, rfl⟩
        refine ⟨_, c_addG a4 (by show (1 : Nat) < 8; decide), ?_⟩
        rintro v h6 ⟨a6, e6⟩
        refine ⟨_, c_means, ?_⟩
        rintro v h7 ⟨rfl, rfl⟩
        refine ⟨_, c_addG a6 (by show (2 : Nat) < 8; decide), ?_⟩
        rintro v h8 ⟨a8, -⟩
        have x3 : h3.1 33 2 = q.2.2 := by rw [e2, es]
        have x3' : h3.1 33 0 = gS g := a2.1.1
        have x5 : h5.1 33 2 = q.2.2 := by rw [e4, x3]
        have x5' : h5.1 33 0 = gS g := a4.1.1
        have x7 : h7.1 33 2 = q.2.2 := by rw [e6, x5]
        rw [x3, x3', x5, x5', x7] at a8
        exact ⟨rfl, a8⟩
      | succ f IH =>
        intro i q h1 hi e a1 es
        rw [lpG_s] at e
        have nz : ¬ nI (gN g) = 0 := nI_ne0 (by omega) (by omega)
        refine wp_at tX11_years [(114, [true, true, true, true, true, true, false, false])] 80 45 okC kX11_years ⟨fun c => absurd c (nI_nlt (by omega) (by omega)), fun _ => ⟨_, c_nextDraw, ?_⟩⟩
        rintro v h2 ⟨rfl, rfl⟩
        refine ⟨by rw [a1.n]; exact nz, _, c_nextDraw, ?_⟩
        rintro v h2 ⟨rfl, rfl⟩
        refine ⟨by rw [a1.n]; exact nz, _, c_meetW (a1.wd z), ?_⟩
        rw [es, a1.n]
        rintro v h3 ⟨rfl, f3, g3⟩
        have a3 := fr2 a1 a1.2.2.2.2.2.1.1 f3
        have es3 : h3.1 33 2 = meS g q.2.2 (drF (nxD q.1) (gN g)) (drF (nxD (nxD q.1)) (gN g)) := g3
        have hsg := meet_sg (n := gN g) (s := q.2.2) (x := drF (nxD q.1) (gN g)) (y := drF (nxD (nxD q.1)) (gN g)) (c := gC g) (R := gR g) z.1
        have F : ∀ m, (if hnF (gN g) q.2.2 (drF (nxD q.1) (gN g)) (drF (nxD (nxD q.1)) (gN g)) = 0 then nI 1 else nI 0) = m → WP alC mX11_years (k + 6) (fun v h' => v = vI (yrR g x w).2.1 ∧ CI h' (uL g (rYears g (yrR g x w).2.2))) 114 [some (vR 11 0), some (vI x), some (vI (nI w)), some (vI (nxD (nxD q.1))), some (vI q.2.1), some (vI (nI i)), none, none] [vI m, vI q.2.1] h3 := by
          intro m hm
          have e3 : ¬ nI 3 = (0 : Int32) := by decide
          refine wp_at tX11_years [(137, [true, true, true, true, true, true, false, false])] 40 114 okC kX11_years ⟨e3, ?_⟩
          refine ⟨fun c4 => ?_, fun c4 => ?_⟩
          · have e5 : yr1 g i q = (nxD (nxD q.1), q.2.1 + m, meS g q.2.2 (drF (nxD q.1) (gN g)) (drF (nxD (nxD q.1)) (gN g))) := by
              unfold yr1; rw [if_neg c4, hm]
            rw [e5] at e
            have := IH (i + 1) _ h3 (by omega) e a3 es3
            rw [← nI_add i 1] at this
            exact wp_at tX11_years [(45, [true, true, true, true, true, true, false, false])] 20 137 okC kX11_years this
          · refine ⟨_, c_pass a3.n z.1, ?_⟩
            rw [if_pos (show okD (nI 1) = true by decide), if_pos (show okD (nI 1) = true by decide), es3]
            rintro v h4 ⟨rfl, rfl⟩
            have e5 : yr1 g i q = (nxD (nxD q.1), q.2.1 + m, psF (gN g) (meS g q.2.2 (drF (nxD q.1) (gN g)) (drF (nxD (nxD q.1)) (gN g))) (nI 1)) := by
              unfold yr1; rw [if_pos (nn c4), hm]
            rw [e5] at e
            have := IH (i + 1) _ (sV h3 33 2 (psF (gN g) (meS g q.2.2 (drF (nxD q.1) (gN g)) (drF (nxD (nxD q.1)) (gN g))) (nI 1))) (by omega) e a3.tri sV_same
            rw [← nI_add i 1] at this
            exact wp_at tX11_years [(45, [true, true, true, true, true, true, false, false])] 20 137 okC kX11_years this
        refine ⟨fun c5 => F _ ?_, fun c5 => F _ ?_⟩
        · exact if_neg (hsg.mp c5)
        · exact if_pos (Classical.byContradiction fun w2 => c5 (hsg.mpr w2))
    have a1 : CI (sV h 33 2 (h.1 33 0)) g := a.tri
    refine L w 1 (x, nI 0, gS g) _ (by omega) rfl a1 ?_
    rw [sV_same, a.1.1]
  · have h0 : gN g = 0 := nI_inj (by omega) (by omega) (a.n.symm.trans (nn c))
    unfold aYears nYears
    rw [if_pos h0, if_pos h0]
    exact ⟨rfl, a⟩
