/-! the reference: years -/
theorem btF_bs {s : Sta} {ft : Int32} {n : Nat} (hn : n ≤ 8) : btF s ft n = nI (bsN (fun j => decide (s (32 + j) = ft)) n) := orF_bs n hn (fun j _ => by
  by_cases c : s (32 + j) = ft
  · rw [if_pos c, if_pos (dT c)]
  · rw [if_neg c, if_neg (by rw [dF c]; decide)])
theorem pc_mn {a b : Nat} (h : ∀ j, a.testBit j = true → b.testBit j = true) : ∀ f, f ≤ 32 → pcN f (b &&& (a ^^^ 4294967295)) + pcN f a = pcN f b
  | 0, _ => rfl
  | f + 1, hf => by
    rw [pcN, pcN, pcN, ← pc_mn h f (by omega), Nat.testBit_and, Nat.testBit_xor, tb_M f (by omega)]
    have := h f
    cases ha : a.testBit f with
    | true => rw [this ha]; simp; omega
    | false => cases b.testBit f <;> simp <;> omega
def FK (n : Nat) (s t : Sta) : Prop := ∀ j, j < n → s (32 + j) ≠ 0 → t (32 + j) = s (32 + j)
theorem mr_eq {s t : Sta} {ft : Int32} {n : Nat} (hn : n ≤ 8) (h0 : ft ≠ 0) (k : FK n s t) : bcF (btF t ft n &&& (btF s ft n ^^^ -(nI 1))) = mrF s t ft n := by
  unfold mrF
  rw [btF_bs hn, btF_bs hn, nI_not, nI_and]
  have l1 := Nat.lt_of_lt_of_le (bsN_lt (p := fun j => decide (s (32 + j) = ft)) n) (p2_le hn)
  have l2 := Nat.lt_of_lt_of_le (bsN_lt (p := fun j => decide (t (32 + j) = ft)) n) (p2_le hn)
  rw [bc8 _ (Nat.lt_of_le_of_lt Nat.and_le_left l2), bc8 _ l1, bc8 _ l2]
  have e := pc_mn (a := bsN (fun j => decide (s (32 + j) = ft)) n) (b := bsN (fun j => decide (t (32 + j) = ft)) n) (fun j hj => by
    rw [bsN_tb] at hj ⊢
    obtain ⟨q1, q2⟩ := and3 hj
    have q2' := of_decide_eq_true q2
    rw [q1, dT (show t (32 + j) = ft by rw [k j (of_decide_eq_true q1) (by rw [q2']; exact h0)]; exact q2')]
    rfl) 8 (by omega)
  rw [← e, ← nI_add, Int32.add_sub_cancel]
theorem c_draw {k n : Nat} {h : Hp} {r : Int32} (hr : h.1 12 0 44 = r) (hn : n ≤ 8) (h0 : 0 < n) : Ct alM mX12_draw k [vR 12 0, vI (nI n)] h (fun v h' => v = vI (drF (nxD r) n) ∧ h' = sX h 12 0 44 (nxD r)) := by
  have nz : ¬ nI n = 0 := nI_ne0 h0 (by omega)
  refine ct_vc tX12_draw [] 40 okM kX12_draw rfl ⟨nz, ?_, ?_⟩
  · rw [hr, rdX, if_pos (by simp)]; rfl
  · rw [hr]; rfl
theorem m_Years {B D k : Nat} {h : Hp} {g : GS} {x n : Int32} (a : MI B h g) (z : Sz g) (iv : Inv D g) : Ct alM mX12_years (k + 321) [vR 12 0, vI x, vI n] h (fun v h' => v = vI (aYears g x n) ∧ MI B h' (nYears g x n)) := by
  have hn := z.1
  have a0 := a.fld (j := 10) (x := nI 0) (by decide)
  refine ct_vc tX12_years [(49, [true, false, true, true, true, false, false])] 80 okM kX12_years rfl ?_
  unfold aYears nYears
  refine ⟨fun c => ⟨_, c_min, ?_⟩, fun c => ?_⟩
  · have h0 : ¬ gN g = 0 := fun w => c (by rw [a0.n1, w]; rfl)
    simp only [if_neg h0]
    rintro v h1 ⟨rfl, rfl⟩
    refine ⟨fun c2 => ?_, fun c2 => ?_⟩
    · have q2 := b2_n0.mp c2
      simp only [if_pos q2]
      obtain ⟨w, hw1, hw2, rfl⟩ := inB_get q2 (by omega) (by omega)
      rw [nI_clamp (show w < 2 ^ 31 by omega)]
      have a1 := a0.fld (j := 44) (x := x) (by decide)
      refine ⟨_, c_layS (i := 0) (i2 := 2) (by omega), ?_⟩
      rintro v h2 rfl
      rw [a1.1.1]
      have a2 : MI B (sV (sX (sX h 12 0 10 (nI 0)) 12 0 44 x) 40 2 (mS (gS g))) g := a1.scr (S := [(40, 2)]) (F := []) (Fm.rf.sV (by simp) (by decide)) (by simp [scA]) (by simp)
      obtain ⟨R, hR⟩ : ∃ R, R = yrR g x w := ⟨_, rfl⟩
      rw [← hR]
      have L : ∀ f i (q : Ys) H, i + f = w + 1 → R = lpG (yr1 g) f i q → MI B H g → H.1 40 2 = mS q.2.2 → H.1 12 0 44 = q.1 → PI (gN g) q.2.2 → FK (gN g) (gS g) q.2.2 → WP alM mX12_years (k + 321) (fun v h' => v = vI R.2.1 ∧ MI B h' (uL g (rYears g R.2.2))) 49 [some (vR 12 0), none, some (vI (nI w)), some (vI q.2.1), some (vI (nI i)), none, none] [] H := by
        intro f
        induction f with
        | zero =>
          intro i q H hi e aH es ed pi fk
          have e' : R = q := e
          rw [e']
          refine wp_at tX12_years [] 80 49 okM kX12_years ⟨fun _ => ?_, fun c => absurd (nI_lt (show w < i by omega) (by omega)) c⟩
          have b1 := aH.clr
          have s1 : ∀ j, (sX H 12 0 9 (nI 0)).1 40 j = H.1 40 j := fun j => by rw [sX_row, if_neg (by simp)]
          refine ⟨_, c_those b1.n1 hn ((s1 2).trans es), ?_⟩
          rintro v H1 ⟨rfl, rfl⟩
          refine ⟨_, c_those b1.n1 hn b1.1.1, ?_⟩
          rintro v H1 ⟨rfl, rfl⟩
          refine ⟨_, c_bitCount okM, ?_⟩
          rintro v H1 ⟨rfl, rfl⟩
          rw [show btF q.2.2 (nI 1) (gN (uL g [])) &&& (btF (gS (uL g [])) (nI 1) (gN (uL g [])) ^^^ -(nI 1)) = btF q.2.2 (nI 1) (gN g) &&& (btF (gS g) (nI 1) (gN g) ^^^ -(nI 1)) from rfl, mr_eq hn (by decide) fk]
          refine ⟨_, c_tellR b1 (by show (0 : Nat) < 16; decide), ?_⟩
          rintro v H2 ⟨b2, k2, j2, -⟩
          have s2 : H2.1 40 2 = mS q.2.2 := by rw [k2 40 2 (by simp), s1 2]; exact es
          refine ⟨_, c_those b2.n1 hn s2, ?_⟩
          rintro v H3 ⟨rfl, rfl⟩
          refine ⟨_, c_those b2.n1 hn b2.1.1, ?_⟩
          rintro v H3 ⟨rfl, rfl⟩
          refine ⟨_, c_bitCount okM, ?_⟩
          rintro v H3 ⟨rfl, rfl⟩
          obtain ⟨g2, hg2⟩ : ∃ g2, g2 = uL (uL g []) (gL (uL g []) ++ [(mrF (gS g) q.2.2 (nI 1) (gN g)).toInt64]) := ⟨_, rfl⟩
          rw [← hg2] at b2 ⊢
          rw [show btF q.2.2 (nI 2) (gN g2) &&& (btF (gS g2) (nI 2) (gN g2) ^^^ -(nI 1)) = btF q.2.2 (nI 2) (gN g) &&& (btF (gS g) (nI 2) (gN g) ^^^ -(nI 1)) by rw [hg2], mr_eq hn (by decide) fk]
          refine ⟨_, c_tellR b2 (by rw [hg2]; show (1 : Nat) < 16; decide), ?_⟩
          rintro v H4 ⟨b4, k4, j4, -⟩
          have s4 : H4.1 40 2 = mS q.2.2 := by rw [k4 40 2 (by simp)]; exact s2
          refine ⟨ix1 47 (by omega), _, c_tellR b4 (by rw [hg2]; show (2 : Nat) < 16; decide), ?_⟩
          rintro v H5 ⟨b5, -⟩
          rw [s4, nI_clamp (by omega), mS_41, hg2] at b5
          exact ⟨rfl, b5⟩
        | succ f IH =>
          intro i q H hi e aH es ed pi fk
          rw [lpG_s] at e
          obtain ⟨X, hX⟩ : ∃ X, X = drF (nxD q.1) (gN g) := ⟨_, rfl⟩
          obtain ⟨Y, hY⟩ : ∃ Y, Y = drF (nxD (nxD q.1)) (gN g) := ⟨_, rfl⟩
          have e1 : yr1 g i q = (nxD (nxD q.1), q.2.1 + (if hnF (gN g) q.2.2 X Y = 0 then nI 1 else nI 0), if nI i - nI i / nI 3 * nI 3 = 0 then psF (gN g) (meS g q.2.2 X Y) (nI 1) else meS g q.2.2 X Y) := by rw [hX, hY]; rfl
          rw [e1] at e
          have C : ∀ H ct s, MI B H g → H.1 40 2 = mS s → H.1 12 0 44 = nxD (nxD q.1) → PI (gN g) s → FK (gN g) (gS g) s → ct = q.2.1 + (if hnF (gN g) q.2.2 X Y = 0 then nI 1 else nI 0) → s = meS g q.2.2 X Y → WP alM mX12_years (k + 321) (fun v h' => v = vI R.2.1 ∧ MI B h' (uL g (rYears g R.2.2))) 106 [some (vR 12 0), none, some (vI (nI w)), some (vI ct), some (vI (nI i)), none, none] [] H := by
            intro H ct s aH es ed pi fk hct hs
            rw [← hct, ← hs] at e
            have e3 : ¬ nI 3 = (0 : Int32) := by decide
            refine wp_at tX12_years [(122, [true, false, true, true, true, false, false])] 40 106 okM kX12_years ⟨e3, ?_⟩
            refine ⟨fun c4 => ?_, fun c4 => ?_⟩
            · rw [if_neg c4] at e
              have := IH (i + 1) _ H (by omega) e aH es ed pi fk
              rw [← nI_add i 1] at this
              exact wp_at tX12_years [(49, [true, false, true, true, true, false, false])] 20 122 okM kX12_years this
            · rw [if_pos (nn c4)] at e
              refine ⟨_, c_goDays aH.n1 hn es, ?_⟩
              rintro v H1 rfl
              have := IH (i + 1) _ (sV H 40 2 (mS (psF (gN g) s (nI 1)))) (by omega) e (aH.scr (S := [(40, 2)]) (F := []) (Fm.rf.sV (by simp) (by decide)) (by simp [scA]) (by simp)) sV_same (by rw [rdVj, if_neg (by simp)]; exact ed) (PI_ps hn pi) (fun j hj hs => by show psF (gN g) s (nI 1) (32 + j) = _; rw [ps_o hn (by omega)]; exact fk j hj hs)
              rw [← nI_add i 1] at this
              exact wp_at tX12_years [(49, [true, false, true, true, true, false, false])] 20 122 okM kX12_years this
          refine wp_at tX12_years [(106, [true, false, true, true, true, false, false])] 80 49 okM kX12_years ⟨fun c => absurd c (nI_nlt (by omega) (by omega)), fun _ => ⟨_, ct_cv (c_draw ed hn (by omega)) (congrArg (fun y => [vR 12 0, vI y]) aH.n1) rfl, ?_⟩⟩
          rintro v H1 ⟨rfl, rfl⟩
          have a1 := aH.fld (j := 44) (x := nxD q.1) (by decide)
          refine ⟨_, ct_cv (c_draw (r := nxD q.1) (by rw [rdX, if_pos (by simp)]) hn (show 0 < gN g by omega)) (congrArg (fun y => [vR 12 0, vI y]) a1.n1) rfl, ?_⟩
          rintro v H1 ⟨rfl, rfl⟩
          rw [← hX, ← hY]
          obtain ⟨H2, hH2⟩ : ∃ H2, H2 = sX (sX H 12 0 44 (nxD q.1)) 12 0 44 (nxD (nxD q.1)) := ⟨_, rfl⟩
          rw [← hH2]
          have a2 : MI B H2 g := by rw [hH2]; exact a1.fld (by decide)
          have es2 : H2.1 40 2 = mS q.2.2 := by rw [hH2, sX_row, if_neg (by simp), sX_row, if_neg (by simp)]; exact es
          have ed2 : H2.1 12 0 44 = nxD (nxD q.1) := by rw [hH2, rdX, if_pos (by simp)]
          refine ⟨_, c_mrefuse a2.n1 hn es2, ?_⟩
          rintro v H3 ⟨rfl, rfl⟩
          refine ⟨fun c5 => C H3 q.2.1 q.2.2 a2 es2 ed2 pi fk ?_ ?_, fun c5 => ?_⟩
          · rw [if_neg c5]; exact (Int32.add_zero _).symm
          · unfold meS; rw [if_neg c5]
          · have hz : hnF (gN g) q.2.2 X Y = 0 := nn c5
            obtain ⟨p, r, hp, hr, hpr, eX, eY⟩ := hnF_in hn hz
            have hz' := hz
            rw [eX, eY] at hz'
            obtain ⟨-, -, -, f1, f2⟩ := hnF_yes hn hz' (by omega) (by omega)
            have em : meS g q.2.2 X Y = mtG g q.2.2 p r := by unfold meS; rw [if_pos hz, eX, eY, nI_clamp (by omega), nI_clamp (by omega)]
            obtain ⟨m1, m2, m3⟩ := PI_mt hn z.r iv.sw hp hr hpr pi f1 f2
            refine ⟨_, ct_cv (c_goFight (a2.ww z iv) es2 hp hr hpr pi f1 f2) (by rw [eX, eY]) rfl, ?_⟩
            rintro v H4 ⟨rfl, fm4, e4, -⟩
            refine C H4 _ _ (a2.scr fm4 (by simp [goS, scA]) (by simp [goI, scI])) e4 (by rw [fm4.2.2.2 44 (by simp [goI])]; exact ed2) m1 (fun j hj hs => by rw [m3 j hj (by rw [fk j hj hs]; exact hs)]; exact fk j hj hs) ?_ em.symm
            rw [if_pos hz]
      exact L w 1 (x, nI 0, gS g) _ (by omega) hR a2 sV_same (by rw [rdVj, if_neg (by simp), rdX, if_pos (by simp)]) iv.pi (fun _ _ _ => rfl)
    · have c' : ¬ inB (nI 1) (nI 60) n = true := by rw [b2_0.mp (nn c2)]; decide
      simp only [if_neg c']
      exact ⟨rfl, a0⟩
  · have h0 : gN g = 0 := by
      have := nn c
      rw [a0.n1] at this
      exact nI_inj (by omega) (by omega) this
    simp only [if_pos h0]
    exact ⟨rfl, a0⟩
