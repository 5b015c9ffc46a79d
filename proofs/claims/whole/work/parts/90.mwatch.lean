/-! the reference: watch -/
theorem ow_gr {g : GS} {a b : Nat} (z : Sz g) (ha : a < gN g) (hb : b < gN g) : owG g a b = nI (owN (gA g) (gN g) a b) := ow_nI z.1 ha hb _ (Nat.le_refl _)
theorem wt_eq {g : GS} {a b : Nat} (z : Sz g) (ha : a < gN g) (hb : b < gN g) (hab : a ≠ b) : wtL g a b = mxI (nI (GG (cR (gA g) (gN g) a b) (gN g) 0)) (nI (GG (cR (gA g) (gN g) b a) (gN g) 0)) := by
  have e1 := cR_ow (A := gA g) z.1 ha hb hab
  have e2 := cR_wo (A := gA g) z.1 ha hb hab
  have bd := GG_bd (c := cN (gA g) (gN g)) z.1 (cN_Cn z.1)
  unfold wtL
  rw [ow_gr z ha hb, or_gr z, e1, pk_sub (by omega), show GG (cN (gA g) (gN g)) (gN g) 0 - owN (gA g) (gN g) a b = GG (cR (gA g) (gN g) b a) (gN g) 0 by omega]
theorem wt_bd {g : GS} {a b : Nat} (z : Sz g) (ha : a < gN g) (hb : b < gN g) (hab : a ≠ b) : ∃ m, m ≤ GG (cN (gA g) (gN g)) (gN g) 0 ∧ wtL g a b = nI m := by
  have e1 := cR_ow (A := gA g) z.1 ha hb hab
  have e2 := cR_wo (A := gA g) z.1 ha hb hab
  rw [wt_eq z ha hb hab]
  unfold mxI
  by_cases c : nI (GG (cR (gA g) (gN g) a b) (gN g) 0) < nI (GG (cR (gA g) (gN g) b a) (gN g) 0)
  · rw [if_pos c]; exact ⟨_, by omega, rfl⟩
  · rw [if_neg c]; exact ⟨_, by omega, rfl⟩
def WrI (g : GS) (q : Ws) (x1 x2 x3 : Int32) : Prop := q = ((0, 0), orG' g + nI 1) ∧ x1 = nI 1000000 ∧ x2 = -(nI 1) ∧ x3 = -(nI 1)
def WrR (q : Ws) (x1 x2 x3 : Int32) : Prop := x1 = q.2 ∧ x2 = nI q.1.1 ∧ x3 = nI q.1.2
theorem m_Watch {B D k : Nat} {h : Hp} {g : GS} (a : MI B h g) (z : Sz g) (iv : Inv D g) : Ct alM mX12_watch (k + 3) [vR 12 0] h (fun v h' => v = vI (aWatch g) ∧ MI B h' (nWatch g)) := by
  have hn := z.1
  have wk : WaK (gN g) (gA g) := iv.2.2.2.2.2
  have a0 := a.fld (j := 10) (x := nI 0) (by decide)
  have hc := cN_Cn (A := gA g) hn
  refine ct_vc tX12_watch [(29, [true, true, true, true, true, false, false])] 40 okM kX12_watch rfl ?_
  refine ⟨_, c_countOrders (a0.ov z) hc (fun i u hi hu => cc_N hn wk hi hu), ?_⟩
  rintro v h1 ⟨rfl, fm1, -⟩
  have a1 : MI B h1 g := a0.scr fm1 (by simp [scA]) (by simp)
  obtain ⟨T, hT⟩ : ∃ T, T = GG (cN (gA g) (gN g)) (gN g) 0 := ⟨_, rfl⟩
  have hT1 : 1 ≤ T := by rw [hT]; exact GG_1 hn wk (2 ^ gN g) 0 (Nat.two_pow_pos _) (Nat.sub_le _ _)
  have hT2 : T ≤ 40320 := by rw [hT]; exact GG_bd hn hc
  have eo : orG' g = nI T := by rw [hT]; exact or_gr z
  rw [← hT]
  unfold aWatch nWatch
  refine ⟨fun c => ?_, fun c => ?_⟩
  · have c' : ¬ orG' g = nI 1 := by rw [eo]; exact c
    simp only [if_neg c']
    have n2 : 2 ≤ gN g := by
      refine Classical.byContradiction fun w => c' ?_
      have b1 := GG_le (n := gN g) hc (2 ^ gN g) 0 (Nat.two_pow_pos _) (Nat.sub_le _ _)
      have b2 := ms_le (n := gN g) (q := 0)
      have b3 : ∀ m, m ≤ 1 → fc m ≤ 1 := by decide
      have b4 := b3 (msN (gN g) 0) (by omega)
      rw [eo, show T = 1 by omega]
    obtain ⟨R, hR⟩ : ∃ R, R = wtR g := ⟨_, rfl⟩
    rw [← hR]
    let P : AV → Hp → Prop := fun v h' => v = vI R.2 ∧ MI B h' (uL g [(nI R.1.1).toInt64, (nI R.1.2).toInt64])
    have OU : ∀ f i (q : Ws) x1 x2 x3 H, MI B H g → i + f = gN g → R = lpG (wtO g) f i q → ((i = 0 ∧ WrI g q x1 x2 x3) ∨ WrR q x1 x2 x3) → WP alM mX12_watch (k + 3) P 29 [some (vR 12 0), some (vI x1), some (vI x2), some (vI x3), some (vI (nI i)), none, none] [] H := by
      intro f
      induction f with
      | zero =>
        intro i q x1 x2 x3 H aH hi e hw
        rcases hw with ⟨w, -⟩ | ⟨rfl, rfl, rfl⟩
        · omega
        have e : R = q := e
        refine wp_at tX12_watch [] 40 29 okM kX12_watch ⟨fun _ => ⟨_, c_tellR aH.clr (by show (0 : Nat) < 16; decide), ?_⟩, fun c => absurd (by rw [aH.n1]; exact nI_le (show gN g ≤ i by omega) (by omega)) c⟩
        rintro v h2 ⟨a2, -⟩
        refine ⟨_, c_tellR a2 (by show (1 : Nat) < 16; decide), ?_⟩
        rintro v h3 ⟨a3, -⟩
        show _ = vI R.2 ∧ MI B h3 (uL g [(nI R.1.1).toInt64, (nI R.1.2).toInt64])
        rw [e]
        exact ⟨rfl, a3⟩
      | succ f IH =>
        intro i q x1 x2 x3 H aH hi e hw
        have IN : ∀ f' j (q : Ws) x1 x2 x3 H, MI B H g → i < j → j + f' = gN g → R = lpG (wtO g) f (i + 1) (lpG (wt1 g i) f' j q) → ((i = 0 ∧ j = 1 ∧ WrI g q x1 x2 x3) ∨ WrR q x1 x2 x3) → WP alM mX12_watch (k + 3) P 44 [some (vR 12 0), some (vI x1), some (vI x2), some (vI x3), some (vI (nI i)), some (vI (nI j)), none] [] H := by
          intro f'
          induction f' with
          | zero =>
            intro j q x1 x2 x3 H aH hij hj e hw
            rcases hw with ⟨-, w, -⟩ | hw
            · omega
            have := IH (i + 1) q x1 x2 x3 H aH (by omega) e (Or.inr hw)
            rw [← nI_add i 1] at this
            exact wp_at tX12_watch [(29, [true, true, true, true, true, false, false])] 20 44 okM kX12_watch ⟨fun _ => this, fun c => absurd (by rw [aH.n1]; exact nI_le (show gN g ≤ j by omega) (by omega)) c⟩
          | succ f' IH2 =>
            intro j q x1 x2 x3 H aH hij hj e hw
            rw [lpG_s] at e
            have hi' : i < gN g := by omega
            have hj' : j < gN g := by omega
            refine wp_at tX12_watch [(92, [true, true, true, true, true, true, false])] 60 44 okM kX12_watch ⟨fun c => absurd c (by rw [aH.n1]; exact nI_ge (by omega) (by omega)), fun _ => ⟨_, c_countOrders (aH.ov z) (cR_Cn (a := i) (b := j) hn) (fun u w hu hw => cc_R hn wk hi' hj' hu hw), ?_⟩⟩
            rintro v H1 ⟨rfl, fm1, -⟩
            have b1 : MI B H1 g := aH.scr fm1 (by simp [scA]) (by simp)
            refine ⟨_, c_countOrders (b1.ov z) (cR_Cn (a := j) (b := i) hn) (fun u w hu hw => cc_R hn wk hj' hi' hu hw), ?_⟩
            rintro v H2 ⟨rfl, fm2, -⟩
            have b2 : MI B H2 g := b1.scr fm2 (by simp [scA]) (by simp)
            have ew := wt_eq z hi' hj' (by omega)
            obtain ⟨m, hm, em⟩ := wt_bd z hi' hj' (by omega)
            have ew2 : (if nI (GG (cR (gA g) (gN g) i j) (gN g) 0) < nI (GG (cR (gA g) (gN g) j i) (gN g) 0) then nI (GG (cR (gA g) (gN g) j i) (gN g) 0) else nI (GG (cR (gA g) (gN g) i j) (gN g) 0)) = wtL g i j := ew.symm
            have NEW : wtL g i j < q.2 → WP alM mX12_watch (k + 3) P 92 [some (vR 12 0), some (vI (if nI (GG (cR (gA g) (gN g) i j) (gN g) 0) < nI (GG (cR (gA g) (gN g) j i) (gN g) 0) then nI (GG (cR (gA g) (gN g) j i) (gN g) 0) else nI (GG (cR (gA g) (gN g) i j) (gN g) 0))), some (vI (nI i)), some (vI (nI j)), some (vI (nI i)), some (vI (nI j)), none] [] H2 := by
              intro hlt
              rw [ew2]
              have es : wt1 g i j q = ((i, j), wtL g i j) := if_pos hlt
              rw [es] at e
              have := IH2 (j + 1) _ _ _ _ H2 b2 (by omega) (by omega) e (Or.inr ⟨rfl, rfl, rfl⟩)
              rw [← nI_add j 1] at this
              exact wp_at tX12_watch [(44, [true, true, true, true, true, true, false])] 20 92 okM kX12_watch this
            rcases hw with ⟨-, -, rfl, rfl, rfl, rfl⟩ | ⟨rfl, rfl, rfl⟩
            · refine ⟨fun _ => NEW ?_, fun c3 => absurd ?_ c3⟩
              · show wtL g i j < orG' g + nI 1
                rw [em, eo, nI_add]
                exact nI_lt (by omega) (by omega)
              · show (if nI (GG (cR (gA g) (gN g) i j) (gN g) 0) < nI (GG (cR (gA g) (gN g) j i) (gN g) 0) then nI (GG (cR (gA g) (gN g) j i) (gN g) 0) else nI (GG (cR (gA g) (gN g) i j) (gN g) 0)) < nI 1000000
                rw [ew2, em]; exact nI_lt (by omega) (by decide)
            · refine ⟨fun c3 => NEW (by have c4 : (if nI (GG (cR (gA g) (gN g) i j) (gN g) 0) < nI (GG (cR (gA g) (gN g) j i) (gN g) 0) then nI (GG (cR (gA g) (gN g) j i) (gN g) 0) else nI (GG (cR (gA g) (gN g) i j) (gN g) 0)) < q.2 := c3; rw [ew2] at c4; exact c4), fun c3 => ?_⟩
              have c4 : ¬ (if nI (GG (cR (gA g) (gN g) i j) (gN g) 0) < nI (GG (cR (gA g) (gN g) j i) (gN g) 0) then nI (GG (cR (gA g) (gN g) j i) (gN g) 0) else nI (GG (cR (gA g) (gN g) i j) (gN g) 0)) < q.2 := c3
              rw [ew2] at c4
              have es : wt1 g i j q = q := if_neg c4
              rw [es] at e
              have := IH2 (j + 1) _ _ _ _ H2 b2 (by omega) (by omega) e (Or.inr ⟨rfl, rfl, rfl⟩)
              rw [← nI_add j 1] at this
              exact wp_at tX12_watch [(44, [true, true, true, true, true, true, false])] 20 92 okM kX12_watch this
        have := IN (gN g - 1 - i) (i + 1) q x1 x2 x3 H aH (by omega) (by omega) e (by
          rcases hw with ⟨w, hw⟩ | hw
          · exact Or.inl ⟨w, by omega, hw⟩
          · exact Or.inr hw)
        rw [← nI_add i 1] at this
        exact wp_at tX12_watch [(44, [true, true, true, true, true, true, false])] 20 29 okM kX12_watch ⟨fun c => absurd c (by rw [aH.n1]; exact nI_ge (by omega) (by omega)), fun _ => this⟩
    exact OU (gN g) 0 ((0, 0), orG' g + nI 1) (nI 1000000) (-(nI 1)) (-(nI 1)) h1 a1 (by omega) hR (Or.inl ⟨rfl, rfl, rfl, rfl, rfl⟩)
  · have c' : orG' g = nI 1 := by rw [eo]; exact nn c
    simp only [if_pos c']
    exact ⟨rfl, a1⟩
