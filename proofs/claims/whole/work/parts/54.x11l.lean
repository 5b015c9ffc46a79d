/-! the class's card -/
def cdD (g : GS) (a b : Nat) : Int32 := if mtG g (gS g) a b (32 + (a + b - wnG g (gS g) a b)) = nI 1 then nI 1 else nI 0
def cdG (g : GS) (a b : Nat) : Int32 := gnF g (mtG g (gS g) a b) a b
def cdQ (g : GS) (n : Nat) : Qs := cdN (cdD g) (cdG g) n 0 (fun j => decide (j < gN g) && canF (gS g) j) (nI 0) (nI 0) [] none
def flP (p : List Int32) : List Int64 := match p with
  | [] => []
  | t :: r => (t / nI 8).toInt64 :: (t - t / nI 8 * nI 8).toInt64 :: flP r
theorem flP_app : ∀ (p : List Int32) (t : Int32), flP (p ++ [t]) = flP p ++ [(t / nI 8).toInt64] ++ [(t - t / nI 8 * nI 8).toInt64]
  | [], t => rfl
  | x :: p, t => by
    show _ :: _ :: flP (p ++ [t]) = _
    rw [flP_app p t]; rfl
theorem flP_len : ∀ (p : List Int32), (flP p).length = 2 * p.length
  | [] => rfl
  | x :: p => by
    show (flP p).length + 1 + 1 = 2 * (p.length + 1)
    rw [flP_len p]; omega
def aCard (g : GS) (x : Int32) : Int32 := if inB (nI 1) (nI 4) x = true then (match cdQ g x.toNatClampNeg with
  | none => -(nI 2)
  | some (b, _, _) => -b) else -(nI 1)
def nCard (g : GS) (x : Int32) : GS := if inB (nI 1) (nI 4) x = true then (match cdQ g x.toNatClampNeg with
  | none => g
  | some (_, _, p) => uL g (flP p)) else g
theorem abN_tb {g : GS} : (fun j => (abN g).testBit j) = fun j => decide (j < gN g) && canF (gS g) j := by
  funext j
  exact bsN_tb _
theorem abN_lt {g : GS} (z : Sz g) : abN g < 256 := Nat.lt_of_lt_of_le (bsN_lt _) (p2_le z.1)
theorem cdQ_none {g : GS} (z : Sz g) (n : Nat) : cdQ g n = none ↔ pcN 8 (abN g) < 2 * n := by
  unfold cdQ
  rw [← abN_tb, ← cnF_pc]
  constructor
  · intro h
    refine Classical.byContradiction fun w => ?_
    exact cdN_yes n 0 _ _ _ _ none (by omega) (by omega) h
  · intro h
    exact cdN_no n 0 _ _ _ _ h (by omega)
theorem hnF_can {g : GS} {s : Sta} {a b : Nat} (hn : gN g ≤ 8) (ha : a < gN g) (hb : b < gN g) (hab : a ≠ b) : hnF (gN g) s (nI a) (nI b) = 0 ↔ canF s a = true ∧ canF s b = true := by
  unfold hnF
  have hne : nI a ≠ nI b := fun w => hab (nI_inj (by omega) (by omega) w)
  rw [if_pos ⟨hasN_nI ha (by omega), hasN_nI hb (by omega), hne⟩, nI_clamp (show a < 2 ^ 31 by omega), nI_clamp (show b < 2 ^ 31 by omega)]
  have cz : ∀ j, canF s j = true → s (32 + j) = 0 := fun j h => of_decide_eq_true (and3 h).1
  constructor
  · intro h
    split at h
    · split at h
      next c => exact c
      next => exact absurd h (by decide)
    · exact absurd h (by decide)
  · intro h
    rw [if_pos ⟨cz a h.1, cz b h.2⟩, if_pos h]
    rfl
theorem c_Card {k : Nat} {h : Hp} {g : GS} {x : Int32} (a : CI h g) (z : Sz g) : Ct alC mX11_card (k + 8) [vR 11 0, vI x] h (fun v h' => v = vI (aCard g x) ∧ CI h' (nCard g x)) := by
  have hn := z.1
  have NO : ¬ inB (nI 1) (nI 4) x = true → WP alC mX11_card (k + 8) (fun v h' => v = vI (aCard g x) ∧ CI h' (nCard g x)) 10 [none, none, none, none, none, none] [] h := by
    intro hno
    refine wp_at tX11_card [] 10 10 okC kX11_card ?_
    unfold aCard nCard
    rw [if_neg hno, if_neg hno]
    exact ⟨rfl, a⟩
  refine ct_vc tX11_card [(10, [false, false, false, false, false, false]), (39, [true, true, true, true, false, false])] 60 okC kX11_card rfl ?_
  refine ⟨fun c => NO (inB_1 c), fun c => ⟨fun c2 => ?_, fun c2 => NO (inB_2 (i_nle c2))⟩⟩
  have q2 : inB (nI 1) (nI 4) x = true := inB_y c (i_ltn c2)
  unfold aCard nCard
  simp only [if_pos q2]
  obtain ⟨w, hw1, hw2, rfl⟩ := inB_get q2 (by omega) (by omega)
  rw [nI_clamp (show w < 2 ^ 31 by omega)]
  refine ⟨_, c_ableBits a.n hn, ?_⟩
  rintro v h1 ⟨rfl, rfl⟩
  rw [a.1.1, abF_bs hn, show bsN (canF (gS g)) (gN g) = abN g from rfl]
  refine ⟨_, c_bitCount okC, ?_⟩
  rintro v h1 ⟨rfl, rfl⟩
  have pc8 : pcN 8 (abN g) ≤ 8 := by
    have : ∀ f s, pcN f s ≤ f := by
      intro f
      induction f with
      | zero => intro s; exact Nat.le_refl _
      | succ f ih => intro s; rw [pcN]; have := ih s; split <;> omega
    exact this 8 _
  rw [bc8 _ (abN_lt z)]
  refine ⟨fun c3 => ?_, fun c3 => ?_⟩
  · have c3' : nI 2 * nI w ≤ nI (pcN 8 (abN g)) := c3
    rw [nI_mul] at c3'
    have c4 : ¬ pcN 8 (abN g) < 2 * w := by
      have := (nI_leI (by omega) (by omega)).mp c3'
      omega
    cases hq : cdQ g w with
    | none => exact absurd ((cdQ_none z w).mp hq) c4
    | some bp =>
      obtain ⟨bb, bg, bl⟩ := bp
      let Q : AV → Hp → Prop := fun v h' => v = vI (-bb) ∧ CI h' (uL g (flP bl))
      have OU : ∀ f i h1, CI h1 g → i + f = gN g → (∀ p q, p < q → q < gN g → canF (gS g) p = true → canF (gS g) q = true → p < i → h1.1 29 0 (p * 8 + q) = cdD g p q ∧ h1.1 30 0 (p * 8 + q) = cdG g p q) → WP alC mX11_card (k + 8) Q 39 [some (vR 11 0), some (vI (nI w)), some (vI (nI (abN g))), some (vI (nI i)), none, none] [] h1 := by
        intro f
        induction f with
        | zero =>
          intro i h1 a1 hi en
          refine wp_at tX11_card [(144, [true, true, false, true, true, false])] 60 39 okC kX11_card ⟨fun _ => ⟨_, c_leastDead hw2, ?_⟩, fun c => absurd (by rw [a1.n]; exact nI_le (show gN g ≤ i by omega) (by omega)) c⟩
          have eq : adP (h1.1 29 0) (h1.1 30 0) w 0 (nI (abN g)) (nI 0) (nI 0) [] none = some (bb, bg, bl) := by
            rw [← hq]
            unfold cdQ
            rw [← abN_tb]
            refine adP_cd w 0 _ _ _ _ _ (abN_lt z) (fun p q hpq hq8 x y => ?_) (by omega)
            have x' := congrFun (abN_tb (g := g)) p
            have y' := congrFun (abN_tb (g := g)) q
            rw [x'] at x
            rw [y'] at y
            exact en p q hpq (of_decide_eq_true (and3 y).1) (and3 x).2 (and3 y).2 (by have := of_decide_eq_true (and3 x).1; omega)
          rw [eq]
          rintro v h2 ⟨rfl, f2, sq⟩
          have a2 : CI h2 g := a1.scr f2 (by simp [seS, scrL])
          obtain ⟨-, -, -, -, -, hlen, hpin⟩ := sq
          refine ⟨_, c_clrG3 a2, ?_⟩
          rintro v h3 ⟨a3, e3⟩
          have L : ∀ t, t ≤ w → ∀ h4, CI h4 (uL g (flP (bl.take t))) → h4.1 32 = h2.1 32 → WP alC mX11_card (k + 8) Q 144 [some (vR 11 0), some (vI (nI w)), none, some (vI (-bb)), some (vI (nI t)), none] [] h4 := by
            refine loop_up w ?_ (fun t ht ih => ?_)
            · intro h4 a4 e4
              refine wp_at tX11_card [] 20 144 okC kX11_card ⟨fun _ => ⟨rfl, ?_⟩, fun c => absurd (nI_le (Nat.le_refl _) (by omega)) c⟩
              rw [← hlen, List.take_length] at a4
              exact a4
            · intro h4 a4 e4
              rw [← nI_add t 1] at ih
              have hbt : bl[t]? = some bl[t] := List.getElem?_eq_getElem (by omega)
              have e5 : h4.1 32 0 t = bl[t] := by rw [e4]; exact hpin t _ hbt
              have l1 : (flP (bl.take t)).length = 2 * t := by rw [flP_len, List.length_take]; omega
              refine wp_at tX11_card [(144, [true, true, false, true, true, false])] 60 144 okC kX11_card ⟨fun c => absurd c (nI_ge ht (by omega)), fun _ => ⟨ix1 4 (by omega), by decide, _, c_addG3 a4 ?_, ?_⟩⟩
              · show (flP (bl.take t)).length < 8
                rw [l1]; omega
              · rintro v h5 ⟨a5, e6⟩
                refine ⟨ix1 4 (by omega), by decide, _, c_addG3 a5 ?_, ?_⟩
                · show (flP (bl.take t) ++ [_]).length < 8
                  rw [List.length_append, l1]; show 2 * t + 1 < 8; omega
                · rintro v h6 ⟨a6, e7⟩
                  refine ih h6 ?_ (by rw [e7, e6, e4])
                  rw [nI_clamp (by omega), e6, e5] at a6
                  rw [List.take_add_one, hbt]
                  show CI h6 (uL g (flP (bl.take t ++ [bl[t]])))
                  rw [flP_app]
                  exact a6
          exact L 0 (Nat.zero_le _) h3 a3 e3
        | succ f IH =>
          intro i h1 a1 hi en
          have IN : ∀ f' j h1, CI h1 g → i < j → j + f' = gN g → (∀ p q, p < q → q < gN g → canF (gS g) p = true → canF (gS g) q = true → (p < i ∨ (p = i ∧ q < j)) → h1.1 29 0 (p * 8 + q) = cdD g p q ∧ h1.1 30 0 (p * 8 + q) = cdG g p q) → WP alC mX11_card (k + 8) Q 55 [some (vR 11 0), some (vI (nI w)), some (vI (nI (abN g))), some (vI (nI i)), some (vI (nI j)), none] [] h1 := by
            intro f'
            induction f' with
            | zero =>
              intro j h1 a1 hij hj en
              have := IH (i + 1) h1 a1 (by omega) (fun p q h1 h2 h3 h4 h5 => en p q h1 h2 h3 h4 (by omega))
              rw [← nI_add i 1] at this
              exact wp_at tX11_card [(39, [true, true, true, true, false, false])] 20 55 okC kX11_card ⟨fun _ => this, fun c => absurd (by rw [a1.n]; exact nI_le (show gN g ≤ j by omega) (by omega)) c⟩
            | succ f' IH2 =>
              intro j h1 a1 hij hj en
              have hc := hnF_can (g := g) (s := gS g) hn (show i < gN g by omega) (show j < gN g by omega) (by omega)
              refine wp_at tX11_card [(55, [true, true, true, true, true, false])] 60 55 okC kX11_card ⟨fun c => absurd c (by rw [a1.n]; exact nI_ge (by omega) (by omega)), fun _ => ⟨_, c_foresee a1 z, ?_⟩⟩
              rintro v h2 ⟨rfl, f2, a2, e2⟩
              rw [nI_clamp (show i < 2 ^ 31 by omega), nI_clamp (show j < 2 ^ 31 by omega)] at e2
              have e29 : h2.1 29 0 = h1.1 29 0 := f2.2 29 0 (by simp)
              have e30 : h2.1 30 0 = h1.1 30 0 := f2.2 30 0 (by simp)
              refine ⟨fun c4 => ?_, fun c4 => ?_⟩
              · have c5 : ¬ hnF (gN g) (gS g) (nI i) (nI j) = 0 := (aFight_sg z.1).mp c4
                have := IH2 (j + 1) h2 a2 (by omega) (by omega) (fun p q h1 h2 h3 h4 h5 => by
                  rw [e29, e30]
                  refine en p q h1 h2 h3 h4 ?_
                  by_cases w : p = i ∧ q = j
                  · obtain ⟨rfl, rfl⟩ := w; exact absurd (hc.mpr ⟨h3, h4⟩) c5
                  · omega)
                rw [← nI_add j 1] at this
                exact this
              · have c5 : hnF (gN g) (gS g) (nI i) (nI j) = 0 := Classical.byContradiction fun q => c4 ((aFight_sg z.1).mpr q)
                rw [if_pos c5] at e2
                have eA : aFight g (nI i) (nI j) = nI (wnG g (gS g) i j) := by
                  unfold aFight
                  rw [if_pos c5, nI_clamp (show i < 2 ^ 31 by omega), nI_clamp (show j < 2 ^ 31 by omega)]
                have hw : wnG g (gS g) i j = i ∨ wnG g (gS g) i j = j := wnF_in
                have el := nI_los hw
                refine ⟨_, ct_cv (c_isDead (j := i + j - wnG g (gS g) i j) (by omega)) (congrArg (fun x => [vR 8 2, vI x]) (by rw [eA]; exact el)) rfl, ?_⟩
                rintro v h3 ⟨rfl, rfl⟩
                refine ⟨_, c_foreseenGain a2 e2, ?_⟩
                rintro v h4 ⟨rfl, rfl⟩
                refine ⟨_, c_senter (by omega) (by omega), ?_⟩
                rintro v h5 rfl
                rw [e2]
                have a5 : ∀ u v, CI (sX (sX h4 29 0 (i * 8 + j) u) 30 0 (i * 8 + j) v) g := fun u v => a2.scr (S := [(29, 0), (30, 0)]) (Fr.sX (Fr.sX Fr.rf (by simp)) (by simp)) (by simp [scrL])
                have eD : (if b2 (decide (mtG g (gS g) i j (32 + (i + j - wnG g (gS g) i j)) = nI 1)) = 0 then nI 0 else nI 1) = cdD g i j := by
                  unfold cdD
                  by_cases w : mtG g (gS g) i j (32 + (i + j - wnG g (gS g) i j)) = nI 1
                  · rw [dT w, if_pos w, if_neg (by decide)]
                  · rw [dF w, if_neg w, if_pos (by decide)]
                rw [eD]
                have := IH2 (j + 1) _ (a5 (cdD g i j) (gnF g (mtG g (gS g) i j) i j)) (by omega) (by omega) (fun p q h1 h2 h3 h4 h5 => by
                  rw [rdX, sX_row, if_neg (by simp), rdX, rdX]
                  by_cases w : p = i ∧ q = j
                  · obtain ⟨rfl, rfl⟩ := w
                    rw [if_pos (by simp), upd_s]
                    simp [cdG]
                  · have hne : ¬ p * 8 + q = i * 8 + j := by omega
                    rw [if_pos (by simp), upd_n hne, if_neg (by simp [hne]), if_neg (by simp)]
                    rw [e29, e30]
                    exact en p q h1 h2 h3 h4 (by omega))
                rw [← nI_add j 1] at this
                exact this
          have := IN (gN g - 1 - i) (i + 1) h1 a1 (by omega) (by omega) (fun p q h1 h2 h3 h4 h5 => en p q h1 h2 h3 h4 (by omega))
          rw [← nI_add i 1] at this
          exact wp_at tX11_card [(55, [true, true, true, true, true, false])] 20 39 okC kX11_card ⟨fun c => absurd c (by rw [a1.n]; exact nI_ge (by omega) (by omega)), fun _ => this⟩
      exact OU (gN g) 0 h1 a (by omega) (fun p q _ _ _ _ w => by omega)
  · have c3' : ¬ nI 2 * nI w ≤ nI (pcN 8 (abN g)) := c3
    rw [nI_mul] at c3'
    have c4 : pcN 8 (abN g) < 2 * w := by
      refine Classical.byContradiction fun q => c3' (nI_le (by omega) (by omega))
    rw [(cdQ_none z w).mpr c4]
    exact ⟨rfl, a⟩
