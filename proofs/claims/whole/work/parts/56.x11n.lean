/-! the class's law -/
theorem c_addA {k : Nat} {h : Hp} {g : GS} {x : Int64} (a : CI h g) (hl : (gL g).length < 8) : Ct alC mX5_add k [vR 5 0, vL x] h (fun _ h' => CI h' (uL g (gL g ++ [x])) ∧ (∀ k i, (k, i) ≠ (5, 0) → h'.1 k i = h.1 k i) ∧ h'.2.2 = h.2.2) := by
  refine ct_post (c_radd a.2.2.2.2.1.1 hl) ?_
  rintro v h' rfl
  refine ⟨a.add, fun k i n => ?_, rfl⟩
  unfold rAdd
  rw [sX_row, if_neg (fun z => n (by rw [z.1, z.2]))]
  rfl
theorem c_clrA {k : Nat} {h : Hp} {g : GS} (a : CI h g) : Ct alC mX5_clear k [vR 5 0] h (fun _ h' => CI h' (uL g []) ∧ (∀ k i, (k, i) ≠ (5, 0) → h'.1 k i = h.1 k i) ∧ h'.2.2 = h.2.2) := by
  refine ct_post c_rclear ?_
  rintro v h' rfl
  refine ⟨a.clr, fun k i n => ?_, rfl⟩
  rw [sX_row, if_neg (fun z => n (by rw [z.1, z.2]))]
theorem RuK.to {h h' : Hp} {b : Nat} {c : List Int32} (a : RuK h b c) (h1 : h'.1 6 b = h.1 6 b) (h2 : h'.1 26 b = h.1 26 b) : RuK h' b c := by
  unfold RuK
  rw [h1, h2]
  exact a
def lw1 (g : GS) (c : List Int32) (one oth : Nat) (q : Rs) : Rs := if gS g (32 + one) = 0 ∧ gS g (32 + oth) = 0 ∧ fwB (gC g) (gR g) (gS g) one oth ≠ fwB c (gR g) (gS g) one oth then (q.1 + 1, if q.1 = 0 then [(nI one).toInt64, (nI oth).toInt64] else q.2) else q
def lwO (g : GS) (c : List Int32) (one : Nat) (q : Rs) : Rs := lpG (lw1 g c one) (gN g - 1 - one) (one + 1) q
def lwR (g : GS) (c : List Int32) : Rs := lpG (lwO g c) (gN g) 0 (0, [])
def aLaw (g : GS) : Int32 := match rdO (gT g) (gTn g) with
  | some c => nI (lwR g c).1
  | none => -(nI 10000) - nI (rdR (gT g) (gTn g)).1
def nLaw (g : GS) : GS := match rdO (gT g) (gTn g) with
  | some c => uL (uT g (0, rdT (gT g) (gTn g))) (lwR g c).2
  | none => uT g (0, rdT (gT g) (gTn g))
theorem rdO_ok {T : Nat → Int32} {n : Nat} {c : List Int32} (h : rdO T n = some c) : Good c ∧ 1 ≤ c.length ∧ c.length ≤ 40 := by
  unfold rdO at h
  split at h
  · have r := ran_Rl (T := rdT T n) (n := rdn n) (L := 40) 4 0 (by omega)
    obtain ⟨r1, r2, r3⟩ := r
    obtain ⟨r4, r5⟩ := r3 c h
    refine ⟨good_Rl 4 0 c h, r5, ?_⟩
    have : (pRl (rdT T n) (rdn n) 40 4 0).1 ≤ 40 := r2
    omega
  · cases h
theorem c_Law {k : Nat} {h : Hp} {g : GS} (a : CI h g) (z : Sz g) : Ct alC mX11_law (k + 34) [vR 11 0] h (fun v h' => v = vI (aLaw g) ∧ CI h' (nLaw g)) := by
  have hn := z.1
  refine ct_vc tX11_law [(44, [true, false, true, true, false])] 60 okC kX11_law rfl ?_
  refine ⟨_, c_rread a.tn z.2.2.1, ?_⟩
  rintro v h1 ⟨rfl, f1, e1, e2⟩
  rw [a.tt] at e1 e2 ⊢
  refine ⟨_, c_tclear, ?_⟩
  rintro v h2 rfl
  have a2 : CI (sX h1 9 0 1 (nI 0)) (uT g (0, rdT (gT g) (gTn g))) := a.rul rfl (f1.sX (by simp)) (by rw [rdX, if_pos (by simp)]) (by rw [sX_row, if_neg (by simp), e1])
  have hD : (sX h1 9 0 1 (nI 0)).2.2 = h.2.2 := by show h1.2.2 = h.2.2; rw [f1.1]
  unfold aLaw nLaw
  cases hO : rdO (gT g) (gTn g) with
  | none =>
    obtain ⟨r1, r2⟩ := rdA_n1 hO
    refine ⟨fun c => absurd c r2, fun c => ?_⟩
    rw [r1]
    exact ⟨rfl, a2⟩
  | some c =>
    obtain ⟨q1, q2⟩ := e2 c hO
    obtain ⟨k1, k2, k3⟩ := rdO_ok hO
    have r1 : rdA (gT g) (gTn g) = -(nI 1) := by unfold rdA; rw [hO]
    refine ⟨fun _ => ⟨_, c_clrA a2, ?_⟩, fun c => absurd r1 c⟩
    rintro v h3 ⟨a3, f3, d3⟩
    obtain ⟨b1, hb1⟩ : ∃ b, h.2.2 1 = b := ⟨_, rfl⟩
    have ru3 : RuK h3 b1 c := by
      refine ⟨?_, ?_, k1, k2, k3⟩
      · rw [f3 6 _ (by simp), rdX, if_neg (by simp), ← hb1, q1]
      · obtain ⟨q, hq⟩ := q2
        exact ⟨q, by rw [f3 26 _ (by simp), sX_row, if_neg (by simp), ← hb1, hq]⟩
    have d3' : h3.2.2 = h.2.2 := d3.trans hD
    let g0 : GS := uT g (0, rdT (gT g) (gTn g))
    have OU : ∀ f i (q : Rs) h1, i + f = gN g → lwR g c = lpG (lwO g c) f i q → q.1 ≤ 8 * i → (q.1 = 0 → q.2 = []) → CI h1 (uL g0 q.2) → RuK h1 b1 c → h1.2.2 = h.2.2 → WP alC mX11_law (k + 34) (fun v h' => v = vI (nI (lwR g c).1) ∧ CI h' (uL g0 (lwR g c).2)) 44 [some (vR 11 0), none, some (vI (nI q.1)), some (vI (nI i)), none] [] h1 := by
      intro f
      induction f with
      | zero =>
        intro i q h1 hi e h2 h3 a1 ru hd
        refine wp_at tX11_law [] 20 44 okC kX11_law ⟨fun _ => ?_, fun c => absurd (by rw [a1.n]; exact nI_le (show gN g ≤ i by omega) (by omega)) c⟩
        rw [e]
        exact ⟨rfl, a1⟩
      | succ f IH =>
        intro i q h1 hi e h2 h3 a1 ru hd
        have IN : ∀ f' j (q : Rs) h1, i < j → j + f' = gN g → lwR g c = lpG (lwO g c) f (i + 1) (lpG (lw1 g c i) f' j q) → q.1 ≤ 8 * i + j → (q.1 = 0 → q.2 = []) → CI h1 (uL g0 q.2) → RuK h1 b1 c → h1.2.2 = h.2.2 → WP alC mX11_law (k + 34) (fun v h' => v = vI (nI (lwR g c).1) ∧ CI h' (uL g0 (lwR g c).2)) 60 [some (vR 11 0), none, some (vI (nI q.1)), some (vI (nI i)), some (vI (nI j))] [] h1 := by
          intro f'
          induction f' with
          | zero =>
            intro j q h1 hij hj e h2 h3 a1 ru hd
            have := IH (i + 1) q h1 (by omega) e (by omega) h3 a1 ru hd
            rw [← nI_add i 1] at this
            exact wp_at tX11_law [(44, [true, false, true, true, false])] 20 60 okC kX11_law ⟨fun _ => this, fun c => absurd (by rw [a1.n]; exact nI_le (show gN g ≤ j by omega) (by omega)) c⟩
          | succ f' IH2 =>
            intro j q h1 hij hj e h2 h3 a1 ru hd
            rw [lpG_s] at e
            have SKIP : ∀ h5, ¬ (gS g (32 + i) = 0 ∧ gS g (32 + j) = 0 ∧ fwB (gC g) (gR g) (gS g) i j ≠ fwB c (gR g) (gS g) i j) → CI h5 (uL g0 q.2) → RuK h5 b1 c → h5.2.2 = h.2.2 → WP alC mX11_law (k + 34) (fun v h' => v = vI (nI (lwR g c).1) ∧ CI h' (uL g0 (lwR g c).2)) 141 [some (vR 11 0), none, some (vI (nI q.1)), some (vI (nI i)), some (vI (nI j))] [] h5 := by
              intro h5 hno a5 ru5 hd5
              have es : lw1 g c i j q = q := if_neg hno
              rw [es] at e
              have := IH2 (j + 1) q h5 (by omega) (by omega) e (by omega) h3 a5 ru5 hd5
              rw [← nI_add j 1] at this
              exact wp_at tX11_law [(60, [true, false, true, true, true])] 20 141 okC kX11_law this
            refine wp_at tX11_law [(141, [true, false, true, true, true]), (138, [true, false, true, true, true])] 60 60 okC kX11_law ⟨fun c => absurd c (by rw [a1.n]; exact nI_ge (show j < gN g by omega) (show gN g < 2 ^ 31 by omega)), fun _ => ⟨_, c_isHere (by omega), ?_⟩⟩
            rintro v h4 ⟨rfl, rfl⟩
            have s4 : h4.1 33 0 = gS g := a1.1.1
            rw [s4]
            refine ⟨fun c1 => SKIP h4 (fun w => of_decide_eq_false (b2_0.mp c1) w.1) a1 ru hd, fun c1 => ⟨_, c_isHere (by omega), ?_⟩⟩
            rintro v h4 ⟨rfl, rfl⟩
            rw [s4]
            have rr : RuK h4 (h4.2.2 0) (gC g) := by
              obtain ⟨x1, x2, x3, x4⟩ := a1.2.2.2.2.2.1
              have z2 := z.2.2.2.2.2.2.2.2
              exact ⟨x3, x4, z2.1, z2.2.1, z2.2.2⟩
            refine ⟨fun c2 => SKIP h4 (fun w => of_decide_eq_false (b2_0.mp c2) w.2.1) a1 ru hd, fun c2 => ⟨_, c_rulesDiffer (by omega) (by omega) rr (by rw [hd, hb1]; exact ru), ?_⟩⟩
            rw [a1.r, s4]
            rintro v h5 ⟨rfl, f5⟩
            have a5 : CI h5 (uL g0 q.2) := by
              refine a1.scr f5 ?_
              obtain ⟨x1, x2, x3, x4⟩ := a1.2.2.2.2.2.1
              intro y hy
              simp only [List.mem_cons, List.not_mem_nil, or_false] at hy
              have : h4.2.2 0 = 0 ∨ h4.2.2 0 = 1 := by omega
              rcases this with e0 | e0 <;> rw [x2, e0] at hy <;> rcases hy with rfl | rfl <;> simp [scrL]
            have ru5 : RuK h5 b1 c := ru.to (f5.2 6 b1 (by simp)) (f5.2 26 b1 (by simp))
            have hd5 : h5.2.2 = h.2.2 := by rw [f5.1]; exact hd
            refine ⟨fun c3 => ?_, fun c3 => SKIP h5 (fun w => of_decide_eq_false (b2_0.mp (nn c3)) w.2.2) a5 ru5 hd5⟩
            have hyes : gS g (32 + i) = 0 ∧ gS g (32 + j) = 0 ∧ fwB (gC g) (gR g) (gS g) i j ≠ fwB c (gR g) (gS g) i j := ⟨of_decide_eq_true (b2_n0.mp c1), of_decide_eq_true (b2_n0.mp c2), of_decide_eq_true (b2_n0.mp c3)⟩
            have es : lw1 g c i j q = (q.1 + 1, if q.1 = 0 then [(nI i).toInt64, (nI j).toInt64] else q.2) := if_pos hyes
            rw [es] at e
            have F : ∀ h6, CI h6 (uL g0 (if q.1 = 0 then [(nI i).toInt64, (nI j).toInt64] else q.2)) → RuK h6 b1 c → h6.2.2 = h.2.2 → WP alC mX11_law (k + 34) (fun v h' => v = vI (nI (lwR g c).1) ∧ CI h' (uL g0 (lwR g c).2)) 138 [some (vR 11 0), none, some (vI (nI q.1)), some (vI (nI i)), some (vI (nI j))] [] h6 := by
              intro h6 a6 ru6 hd6
              have := IH2 (j + 1) _ h6 (by omega) (by omega) e (by show q.1 + 1 ≤ _; omega) (fun w => by have w' : q.1 + 1 = 0 := w; omega) a6 ru6 hd6
              rw [← nI_add j 1] at this
              have t2 : nI (q.1 + 1) = nI q.1 + nI 1 := (nI_add _ _).symm
              dsimp only at this
              rw [t2] at this
              exact wp_at tX11_law [(60, [true, false, true, true, true])] 20 138 okC kX11_law this
            refine ⟨fun c4 => F h5 ?_ ru5 hd5, fun c4 => ⟨_, c_addA a5 ?_, ?_⟩⟩
            · have : ¬ q.1 = 0 := fun w => c4 (by rw [w]; rfl)
              rw [if_neg this]; exact a5
            · have w : q.1 = 0 := nI_inj (by omega) (by omega) (nn c4)
              show q.2.length < 8
              rw [h3 w]; decide
            · have w : q.1 = 0 := nI_inj (by omega) (by omega) (nn c4)
              rintro v1 h6 ⟨a6, f6, d6⟩
              refine ⟨_, c_addA a6 (by show (q.2 ++ [_]).length < 8; rw [h3 w, List.length_append]; exact (by decide : 0 + 1 < 8)), ?_⟩
              rintro v1 h7 ⟨a7, f7, d7⟩
              refine F h7 ?_ ((ru5.to (f6 6 b1 (by simp)) (f6 26 b1 (by simp))).to (f7 6 b1 (by simp)) (f7 26 b1 (by simp))) (d7.trans (d6.trans hd5))
              rw [if_pos w]
              have a8 : CI h7 (uL g0 (q.2 ++ [(nI i).toInt64] ++ [(nI j).toInt64])) := a7
              rw [h3 w] at a8
              exact a8
        have := IN (gN g - 1 - i) (i + 1) q h1 (by omega) (by omega) e (by omega) h3 a1 ru hd
        rw [← nI_add i 1] at this
        exact wp_at tX11_law [(60, [true, false, true, true, true])] 20 44 okC kX11_law ⟨fun c => absurd c (by rw [a1.n]; exact nI_ge (show i < gN g by omega) (show gN g < 2 ^ 31 by omega)), fun _ => this⟩
    exact OU (gN g) 0 (0, []) h3 (by omega) rfl (Nat.le_refl _) (fun _ => rfl) a3 ru3 d3'
