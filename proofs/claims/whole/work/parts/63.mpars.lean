/-! the reference: a RULE, read and worth -/
def mP (h : Hp) (lf : Int32 → Int32) (res : PRs) : AV → Hp → Prop := fun v h' => ∃ x, v = vI x ∧ ((∃ c, res.2 = some c ∧ h' = sAM h res.1 ∧ (h.1 12 0 20 = nI 1 → x = vl lf c)) ∨ (res.2 = none ∧ ∃ q, h' = sX (sAM h q) 12 0 15 (nI res.1)))
/-- what is asked: the letters' numbers -/
def Ask (h : Hp) (lf : Int32 → Int32) : Prop := (h.1 12 0 20 = nI 0 ∨ h.1 12 0 20 = nI 1) ∧ (h.1 12 0 20 = nI 1 → ∀ s j, isLt s = true → j < 8 → ltX s = nI j → h.1 46 0 j = lf s)
theorem mnC_fu {T : Nat → Int32} {n : Nat} : ∀ (f f' p : Nat), 40 ≤ p + f → 40 ≤ p + f' → mnC T n 40 f p = mnC T n 40 f' p
  | 0, 0, _, _, _ => rfl
  | 0, f' + 1, p, h1, _ => by
    rw [mnC_s, if_neg]
    · rfl
    · intro w; have := pk_c w (by decide); omega
  | f + 1, 0, p, _, h2 => by
    rw [mnC_s, if_neg]
    · rfl
    · intro w; have := pk_c w (by decide); omega
  | f + 1, f' + 1, p, h1, h2 => by
    rw [mnC_s, mnC_s]
    split
    · rw [mnC_fu f f' (p + 1) (by omega) (by omega)]
    · rfl
theorem mnC_m {T : Nat → Int32} {n p : Nat} (h : pk T n 40 p = nI 45) : mnC T n 40 40 p = mnC T n 40 40 (p + 1) + 1 := by
  rw [show mnC T n 40 40 p = mnC T n 40 (39 + 1) p from rfl, mnC_s, if_pos h, mnC_fu 39 40 (p + 1) (by omega) (by omega)]
theorem mnC_0 {T : Nat → Int32} {n p : Nat} (h : ¬ pk T n 40 p = nI 45) : mnC T n 40 40 p = 0 := by
  rw [show mnC T n 40 40 p = mnC T n 40 (39 + 1) p from rfl, mnC_s, if_neg h]
theorem pSg_0 {T : Nat → Int32} {n p : Nat} {i : Option (Nat → PRs)} (h : ¬ pk T n 40 p = nI 45) : pSg T n 40 i p = pTh T n 40 i p := by
  unfold pSg
  rw [mnC_0 h]
  show ((pTh T n 40 i p).1, (pTh T n 40 i p).2.map (fun c => c)) = _
  rw [Option.map_id']
theorem pSg_m {T : Nat → Int32} {n p : Nat} {i : Option (Nat → PRs)} (h : pk T n 40 p = nI 45) : (pSg T n 40 i p).1 = (pSg T n 40 i (p + 1)).1 ∧ ((pSg T n 40 i (p + 1)).2 = none → (pSg T n 40 i p).2 = none) ∧ ∀ c, (pSg T n 40 i (p + 1)).2 = some c → (∀ f, i = some f → ∀ p, GoodR (f p)) → ∃ c', (pSg T n 40 i p).2 = some c' ∧ ∀ lf, vl lf c' = -(vl lf c) := by
  have e := mnC_m h
  have eq : p + mnC T n 40 40 p = p + 1 + mnC T n 40 40 (p + 1) := by omega
  unfold pSg
  rw [eq]
  refine ⟨rfl, fun h0 => ?_, fun c hc hg => ?_⟩
  · dsimp only at h0 ⊢
    cases hx : (pTh T n 40 i (p + 1 + mnC T n 40 40 (p + 1))).2 with
    | none => rfl
    | some y => rw [hx] at h0; cases h0
  · dsimp only at hc ⊢
    cases hx : (pTh T n 40 i (p + 1 + mnC T n 40 40 (p + 1))).2 with
    | none => rw [hx] at hc; cases hc
    | some y =>
      have gy : Good y := good_Th hg _ y hx
      rw [hx] at hc
      rw [e]
      by_cases c2 : mnC T n 40 40 (p + 1) % 2 = 1
      · have hc' : some (y ++ [-(nI 126)]) = some c := by rw [← hc, Option.map_some, if_pos c2]
        cases hc'
        refine ⟨y, by rw [Option.map_some, if_neg (by omega)], fun lf => ?_⟩
        rw [vl_of (run_neg gy lf), Int32.neg_neg]
      · have hc' : some y = some c := by rw [← hc, Option.map_some, if_neg c2]
        cases hc'
        refine ⟨c ++ [-(nI 126)], by rw [Option.map_some, if_pos (by omega)], fun lf => ?_⟩
        rw [vl_of (run_neg gy lf)]
section PARS
variable {h : Hp} {r n p0 : Nat} {lf : Int32 → Int32}
theorem nfn {q w : Nat} (hw : w ≤ 200) : ¬ (sX (sAM h q) 12 0 15 (nI w)).1 12 0 15 = -(nI 1) := by
  rw [rdX, if_pos (by simp), m1_nI]
  intro z
  have hn : nI w < 0 := by rw [z]; decide
  exact nI_pos (by omega) hn
theorem mT_at {q : Nat} : mT (sAM h q) r = mT h r := mT_f
theorem sAM_15 {q w : Nat} {x : Int32} : sX (sX (sAM h q) 12 0 15 x) 12 0 15 (nI w) = sX (sAM h q) 12 0 15 (nI w) := sX_sX
def HeK (h : Hp) (lf : Int32 → Int32) (T : Nat → Int32) (n d : Nat) : Prop := ∀ K p, p ≤ 40 → 60 * (d + 1) ≤ K → Ct alM mX12_held K [vR 12 0, vI (nI (4 - d))] (sAM h p) (mP h lf (pLv T n 40 (inn T n 40 d) 3 p))
theorem c_mthing {d : Nat} (t : TxM h r n 40 p0) (ask : Ask h lf) (hd : d ≤ 4) (IH : ∀ d', d = d' + 1 → HeK h lf (mT h r) n d') : ∀ (e K p : Nat), p ≤ 40 → 40 ≤ p + e → 60 * d + 10 + e ≤ K → Ct alM mX12_thing K [vR 12 0, vI (nI (4 - d))] (sAM h p) (mP h lf (pSg (mT h r) n 40 (inn (mT h r) n 40 d) p)) := by
  intro e
  induction e with
  | zero =>
    intro K p hp he hK
    obtain ⟨K, rfl⟩ : ∃ K', K = K' + 6 := ⟨K - 6, by omega⟩
    have tp := t.at (show p ≤ 200 by omega)
    have hpk : pk (mT h r) n 40 p = -(nI 1) := by unfold pk; rw [if_neg (by omega)]
    have e1 : tkS (mT h r) n 40 (nI 45) p = (false, p) := by unfold tkS; rw [hpk, if_neg (by decide)]
    have e2 : pSg (mT h r) n 40 (inn (mT h r) n 40 d) p = (p, none) := by
      rw [pSg_0 (by rw [hpk]; decide)]
      exact pTh_no (by rw [hpk]; decide) (by rw [tkN_none]; unfold tkD; rw [hpk, if_pos (by decide)]) (by rw [hpk]; decide)
    refine ct_vc tX12_thing [] 60 okM kX12_thing rfl ?_
    refine ⟨_, c_mpasses tp, ?_⟩
    rw [mT_at, e1, sAM_at]
    rintro v h1 ⟨rfl, rfl⟩
    refine ⟨fun _ => ⟨_, c_mfine, ?_⟩, fun c => absurd rfl c⟩
    rw [dT tp.2.2.2.2.2.1]
    rintro v h1 ⟨rfl, rfl⟩
    refine ⟨fun _ => ⟨_, c_mhere tp, ?_⟩, fun c => absurd (nn c) (by decide)⟩
    rw [mT_at, hpk]
    rintro v h1 ⟨rfl, rfl⟩
    refine ⟨fun _ => ⟨_, c_min, ?_⟩, fun c => absurd (nn c) (by decide)⟩
    rintro v h1 ⟨rfl, rfl⟩
    refine ⟨fun _ => ⟨_, c_letterOf, ?_⟩, fun c => absurd (show b2 (inB (nI 48) (nI 57) (-(nI 1))) = 0 by decide) c⟩
    rintro v h1 ⟨rfl, rfl⟩
    refine ⟨fun c => absurd (show ltX (-(nI 1)) = -(nI 1) by decide) c, fun _ => ⟨_, c_mfault, ?_⟩⟩
    rw [if_pos tp.2.2.2.2.2.1, tp.2.2.2.2.1]
    rintro v h1 rfl
    exact ⟨_, rfl, Or.inr ⟨by rw [e2], p, by rw [e2]⟩⟩
  | succ e ih =>
    intro K p hp he hK
    obtain ⟨K, rfl⟩ : ∃ K', K = K' + 6 := ⟨K - 6, by omega⟩
    have tp := t.at (show p ≤ 200 by omega)
    refine ct_vc tX12_thing [(25, [true, true, false, false]), (67, [true, false, true, false])] 60 okM kX12_thing rfl ?_
    refine ⟨_, c_mpasses tp, ?_⟩
    rw [mT_at, sAM_at]
    rintro v h1 ⟨rfl, rfl⟩
    by_cases c45 : pk (mT h r) n 40 p = nI 45
    · have e1 : tkS (mT h r) n 40 (nI 45) p = (true, p + 1) := by unfold tkS; rw [if_pos c45]
      have p40 := pk_c c45 (by decide)
      rw [e1]
      refine ⟨fun c => absurd (show b2 true = 0 from c) (by decide), fun _ => ⟨_, ih (K + 5) (p + 1) (by omega) (by omega) (by omega), ?_⟩⟩
      rintro v h1 ⟨x, rfl, hx⟩
      obtain ⟨q1, q2, q3⟩ := pSg_m (i := inn (mT h r) n 40 d) c45
      rcases hx with ⟨c, k1, k2, k3⟩ | ⟨k1, q, k2⟩
      · obtain ⟨c', k4, k5⟩ := q3 c k1 (good_inn d)
        refine ⟨_, rfl, Or.inl ⟨c', k4, by rw [q1]; exact k2, fun ha => ?_⟩⟩
        rw [k3 ha, k5 lf]
      · exact ⟨_, rfl, Or.inr ⟨q2 k1, q, by rw [q1]; exact k2⟩⟩
    · have e1 : tkS (mT h r) n 40 (nI 45) p = (false, p) := by unfold tkS; rw [if_neg c45]
      rw [e1, pSg_0 c45]
      refine ⟨fun _ => ⟨_, c_mfine, ?_⟩, fun c => absurd rfl c⟩
      rw [dT tp.2.2.2.2.2.1]
      rintro v h1 ⟨rfl, rfl⟩
      refine ⟨fun _ => ?_, fun c => absurd (nn c) (by decide)⟩
      -- behind the brackets: numbers and letters
      have NL : (pk (mT h r) n 40 p = nI 40 → d = 0) → WP alM mX12_thing (K + 6) (mP h lf (pTh (mT h r) n 40 (inn (mT h r) n 40 d) p)) 67 [some (vR 12 0), none, some (vI (pk (mT h r) n 40 p)), none] [] (sAM h p) := by
        intro h40
        refine wp_at tX12_thing [] 60 67 okM kX12_thing ⟨_, c_min, ?_⟩
        rintro v h1 ⟨rfl, rfl⟩
        have hdig := in_dig (n := n) (L := 40) (p := p) tp.2.2.2.2.2.2.2.2.2
        rw [mT_at] at hdig
        refine ⟨fun c => ⟨_, c_letterOf, ?_⟩, fun c => ⟨_, c_mnumber tp (by omega) (by omega), ?_⟩⟩
        · have nd : (tkD (mT h r) n 40 (nI 0) (nI 9) p).1 = -(nI 1) := Classical.byContradiction fun w => by have := hdig.mpr w; rw [this] at c; exact absurd c (by decide)
          have nN : (tkN (mT h r) n 40 3 p).1 = -(nI 1) := by rw [tkN_none nd]
          rintro v h1 ⟨rfl, rfl⟩
          refine ⟨fun c2 => ?_, fun c2 => ?_⟩
          · -- a letter
            rcases ltX_cs (x := pk (mT h r) n 40 p) with ⟨l1, j, l2, l3⟩ | ⟨l1, l2⟩
            · have nb : ¬ pk (mT h r) n 40 p = nI 40 := fun w => by rw [w] at l1; exact absurd l1 (by decide)
              have eT := pTh_le (i := inn (mT h r) n 40 d) nb nN l1
              have p40 : p < 40 := pk_c rfl (fun w => by rw [w] at l1; exact absurd l1 (by decide))
              rw [eT]
              have e14 : sX (sAM h p) 12 0 14 ((sAM h p).1 12 0 14 + nI 1) = sAM h (p + 1) := by rw [tp.2.2.2.2.1, nI_add]; exact sX_sX
              have a20 : (sX (sAM h p) 12 0 14 ((sAM h p).1 12 0 14 + nI 1)).1 12 0 20 = h.1 12 0 20 := by rw [rdX, if_neg (by simp), rdX, if_neg (by simp)]
              refine ⟨fun c3 => ⟨_, rfl, Or.inl ⟨_, rfl, e14, fun ha => ?_⟩⟩, fun c3 => ⟨_, c_letterOf, ?_⟩⟩
              · have c3' : (sX (sAM h p) 12 0 14 ((sAM h p).1 12 0 14 + nI 1)).1 12 0 20 = 0 := c3
                rw [a20, ha] at c3'
                exact absurd c3' (by decide)
              · rintro v h1 ⟨rfl, rfl⟩
                rw [l3]
                refine ⟨ix1 8 l2, _, rfl, Or.inl ⟨_, rfl, e14, fun ha => ?_⟩⟩
                rw [nI_clamp (by omega), vl_of (run_let l1 lf)]
                show (sX (sAM h p) 12 0 14 ((sAM h p).1 12 0 14 + nI 1)).1 46 0 j = _
                rw [rdX, if_neg (by simp), rdX, if_neg (by simp)]
                exact ask.2 ha _ j l1 l2 l3
            · exact absurd l2 c2
          · rcases ltX_cs (x := pk (mT h r) n 40 p) with ⟨l1, j, l2, l3⟩ | ⟨l1, l2⟩
            · have c2' : ltX (pk (mT h r) n 40 p) = -(nI 1) := nn c2
              rw [l3] at c2'
              exact absurd c2' (nI_nm1 (by omega))
            · have eT : pTh (mT h r) n 40 (inn (mT h r) n 40 d) p = (p, none) := by
                by_cases nb : pk (mT h r) n 40 p = nI 40
                · have := h40 nb; subst this; exact pTh_0 nb
                · exact pTh_no nb nN l1
              refine ⟨_, c_mfault, ?_⟩
              rw [if_pos tp.2.2.2.2.2.1, tp.2.2.2.2.1]
              rintro v h1 rfl
              exact ⟨_, rfl, Or.inr ⟨by rw [eT], p, by rw [eT]⟩⟩
        · -- a number
          have hy := hdig.mp (b2_n0.mp c)
          obtain ⟨w, hw, ew⟩ := tkN_d (m := 3) (by omega) (by omega) hy
          have hN : ¬ (tkN (mT h r) n 40 3 p).1 = -(nI 1) := by
            rw [ew, m1_nI]
            intro q
            have hn : nI w < 0 := by rw [q]; decide
            exact nI_pos (by omega) hn
          have nb : ¬ pk (mT h r) n 40 p = nI 40 := by
            intro w2
            have := hdig.mpr hy
            rw [w2] at this
            exact absurd this (by decide)
          have eT := pTh_nu (i := inn (mT h r) n 40 d) nb hN
          rw [mT_at]
          rintro v h1 (⟨q1, -⟩ | ⟨q1, rfl, rfl⟩)
          · exact absurd q1 hN
          · refine ⟨_, rfl, Or.inl ⟨[(tkN (mT h r) n 40 3 p).1], by rw [eT], ?_, fun _ => ?_⟩⟩
            · rw [eT, sAM_at]
            · rw [ew, vl_of (run_num (nI_nn hw) lf)]
      show WP alM mX12_thing (K + 6) (mP h lf (pTh (mT h r) n 40 (inn (mT h r) n 40 d) p)) 25 [some (vR 12 0), some (vI (nI (4 - d))), none, none] [] (sAM h p)
      refine wp_at tX12_thing [(67, [true, false, true, false])] 60 25 okM kX12_thing ⟨_, c_mhere tp, ?_⟩
      rw [mT_at]
      rintro v h1 ⟨rfl, rfl⟩
      refine ⟨fun c => NL (fun w => absurd w c), fun c => ?_⟩
      have c40 : pk (mT h r) n 40 p = nI 40 := nn c
      refine ⟨fun c2 => NL (fun _ => ?_), fun c2 => ?_⟩
      · have := (nI_leI (by omega) (by omega)).mp (show nI 4 ≤ nI (4 - d) from c2)
        omega
      · have hd1 : 4 - d < 4 := Classical.byContradiction fun w => c2 (nI_le (show 4 ≤ 4 - d by omega) (by omega))
        obtain ⟨d', rfl⟩ : ∃ d', d = d' + 1 := ⟨d - 1, by omega⟩
        have p40 := pk_c c40 (by decide)
        have e14 : sX (sAM h p) 12 0 14 ((sAM h p).1 12 0 14 + nI 1) = sAM h (p + 1) := by rw [tp.2.2.2.2.1, nI_add]; exact sX_sX
        have ed : nI (4 - (d' + 1)) + nI 1 = nI (4 - d') := by rw [nI_add]; congr 1; omega
        refine ⟨_, ct_cv (IH d' rfl (K + 5) (p + 1) (by omega) (by omega)) (congrArg (fun x => [vR 12 0, vI x]) ed) e14, ?_⟩
        rintro v h1 ⟨x, rfl, hx⟩
        have ei : inn (mT h r) n 40 (d' + 1) = some (pRl (mT h r) n 40 d') := rfl
        have er : pLv (mT h r) n 40 (inn (mT h r) n 40 d') 3 (p + 1) = pRl (mT h r) n 40 d' (p + 1) := by rw [pRl_eq]
        rw [ei]
        rw [er] at hx
        have ran := ran_Rl (T := mT h r) (n := n) (L := 40) d' (p + 1) (by omega)
        rcases hx with ⟨c, k1, rfl, k3⟩ | ⟨k1, q, rfl⟩
        · have tq := t.at (show (pRl (mT h r) n 40 d' (p + 1)).1 ≤ 200 by have := ran.2.1; omega)
          refine ⟨_, c_mneed tq, ?_⟩
          rw [mT_at, sAM_at]
          rintro v h1 rfl
          by_cases c41 : pk (mT h r) n 40 (pRl (mT h r) n 40 d' (p + 1)).1 = nI 41
          · have eT := pTh_S c40 k1 c41
            rw [if_pos c41]
            exact ⟨_, rfl, Or.inl ⟨c, by rw [eT], by rw [eT], k3⟩⟩
          · have eT := pTh_X c40 k1 c41
            rw [if_neg c41]
            exact ⟨_, rfl, Or.inr ⟨by rw [eT], _, by rw [eT]⟩⟩
        · refine ⟨_, c_mneedN (nfn (by have := ran.2.1; omega)), ?_⟩
          rintro v h1 rfl
          have eT := pTh_N c40 k1
          exact ⟨_, rfl, Or.inr ⟨by rw [eT], q, by rw [eT]⟩⟩
theorem jn_mul {a b : Int32} : jnF (nI 42) a b = a * b := rfl
theorem jn_div {a b : Int32} : jnF (nI 47) a b = if b = 0 then nI 0 else a / b := rfl
theorem jn_add {a b : Int32} : jnF (nI 43) a b = a + b := rfl
theorem jn_sub {a b : Int32} : jnF (nI 45) a b = a - b := rfl
theorem lvO_2 {x : Int32} : lvO x = nI 2 ↔ x = nI 42 ∨ x = nI 47 := by
  unfold lvO
  constructor
  · intro h
    split at h
    · exact absurd h (by decide)
    · split at h
      · exact absurd h (by decide)
      · split at h
        next c => exact c
        next => exact absurd h (by decide)
  · rintro (rfl | rfl) <;> decide
theorem lvO_1 {x : Int32} : lvO x = nI 1 ↔ x = nI 43 ∨ x = nI 45 := by
  unfold lvO
  constructor
  · intro h
    split at h
    · exact absurd h (by decide)
    · split at h
      next c => exact c
      next =>
        split at h
        · exact absurd h (by decide)
        · exact absurd h (by decide)
  · rintro (rfl | rfl) <;> decide
theorem lvO_0 {x : Int32} : lvO x = nI 0 ↔ x = nI 60 ∨ x = nI 61 ∨ x = nI 62 := by
  unfold lvO
  constructor
  · intro h
    split at h
    next c => exact c
    next =>
      split at h
      · exact absurd h (by decide)
      · split at h
        · exact absurd h (by decide)
        · exact absurd h (by decide)
  · rintro (rfl | rfl | rfl) <;> decide
def LvM (h : Hp) (lf : Int32 → Int32) (T : Nat → Int32) (n d u : Nat) (M : MT) : Prop := ∀ K p, p ≤ 40 → 60 * d + 50 + u ≤ K → Ct alM M K [vR 12 0, vI (nI (4 - d))] (sAM h p) (mP h lf (pLv T n 40 (inn T n 40 d) u p))
theorem c_mproduct {d : Nat} (t : TxM h r n 40 p0) (IH : LvM h lf (mT h r) n d 0 mX12_thing) : LvM h lf (mT h r) n d 1 mX12_product := by
  intro K p hp hK
  obtain ⟨K, rfl⟩ : ∃ K', K = K' + 6 := ⟨K - 6, by omega⟩
  have rn : ∀ p, p ≤ 40 → Ran 40 p (pLv (mT h r) n 40 (inn (mT h r) n 40 d) 0 p) := ran_Lv (ran_inn d) 0
  have gd : ∀ p, GoodR (pLv (mT h r) n 40 (inn (mT h r) n 40 d) 0 p) := good_Lv (good_inn d) 0
  refine ct_vc tX12_product [(6, [true, true, true, false, false])] 60 okM kX12_product rfl ?_
  refine ⟨_, IH (K + 5) p hp (by omega), ?_⟩
  rintro v h1 ⟨x, rfl, hx⟩
  have FAIL : ∀ q w x, w ≤ 200 → pLv (mT h r) n 40 (inn (mT h r) n 40 d) 1 p = (w, none) → WP alM mX12_product (K + 6) (mP h lf (pLv (mT h r) n 40 (inn (mT h r) n 40 d) 1 p)) 6 [some (vR 12 0), some (vI (nI (4 - d))), some (vI x), none, none] [] (sX (sAM h q) 12 0 15 (nI w)) := by
    intro q w x hw e
    refine wp_at tX12_product [] 20 6 okM kX12_product ⟨_, c_mfine, ?_⟩
    rw [dF (nfn hw)]
    rintro v h1 ⟨rfl, rfl⟩
    exact ⟨fun _ => ⟨_, rfl, Or.inr ⟨by rw [e], q, by rw [e]⟩⟩, fun c => absurd rfl c⟩
  have LP : ∀ f q c x, q ≤ 40 → 40 ≤ q + f → Good c → (h.1 12 0 20 = nI 1 → x = vl lf c) → pLv (mT h r) n 40 (inn (mT h r) n 40 d) 1 p = pOp (mT h r) n 40 (pLv (mT h r) n 40 (inn (mT h r) n 40 d) 0) 2 f q c → WP alM mX12_product (K + 6) (mP h lf (pLv (mT h r) n 40 (inn (mT h r) n 40 d) 1 p)) 6 [some (vR 12 0), some (vI (nI (4 - d))), some (vI x), none, none] [] (sAM h q) := by
    intro f
    induction f with
    | zero =>
      intro q c x hq hf gc hv e
      have tq := t.at (show q ≤ 200 by omega)
      have hpk : pk (mT h r) n 40 q = -(nI 1) := by unfold pk; rw [if_neg (by omega)]
      refine wp_at tX12_product [] 40 6 okM kX12_product ⟨_, c_mfine, ?_⟩
      rw [dT tq.2.2.2.2.2.1]
      rintro v h1 ⟨rfl, rfl⟩
      refine ⟨fun c => absurd c (by decide), fun _ => ⟨_, c_mhere tq, ?_⟩⟩
      rw [mT_at, hpk]
      rintro v h1 ⟨rfl, rfl⟩
      refine ⟨fun c => absurd c (by decide), fun _ => ⟨_, c_mhere tq, ?_⟩⟩
      rw [mT_at, hpk]
      rintro v h1 ⟨rfl, rfl⟩
      exact ⟨fun _ => ⟨_, rfl, Or.inl ⟨c, by rw [e]; rfl, by rw [e]; rfl, hv⟩⟩, fun c => absurd (nn c) (by decide)⟩
    | succ f ih =>
      intro q c x hq hf gc hv e
      have tq := t.at (show q ≤ 200 by omega)
      have YES : lvO (pk (mT h r) n 40 q) = nI 2 → WP alM mX12_product (K + 6) (mP h lf (pLv (mT h r) n 40 (inn (mT h r) n 40 d) 1 p)) 31 [some (vR 12 0), some (vI (nI (4 - d))), some (vI x), none, none] [] (sAM h q) := by
        intro hl
        have q40 : q < 40 := pk_c rfl (fun w => by rw [w] at hl; exact absurd hl (by decide))
        have e14 : sX (sAM h q) 12 0 14 ((sAM h q).1 12 0 14 + nI 1) = sAM h (q + 1) := by rw [tq.2.2.2.2.1, nI_add]; exact sX_sX
        have R := rn (q + 1) (by omega)
        -- behind the second thing
        have OP : ∀ b, b = decide (pk (mT h r) n 40 q = nI 42) → WP alM mX12_product (K + 6) (mP h lf (pLv (mT h r) n 40 (inn (mT h r) n 40 d) 1 p)) 45 [some (vR 12 0), some (vI (nI (4 - d))), some (vI x), none, none] [vI (b2 b)] (sAM h q) := by
          intro b hb
          refine wp_at tX12_product [(87, [true, true, false, false, false])] 60 45 okM kX12_product ⟨_, ct_cv (IH (K + 5) (q + 1) (by omega) (by omega)) rfl e14, ?_⟩
          rintro v h1 ⟨y, rfl, hy⟩
          have DN : ∀ z, z = jnF (pk (mT h r) n 40 q) x y → WP alM mX12_product (K + 6) (mP h lf (pLv (mT h r) n 40 (inn (mT h r) n 40 d) 1 p)) 87 [some (vR 12 0), some (vI (nI (4 - d))), none, none, none] [vI z] h1 := by
            intro z hz
            refine wp_at tX12_product [(6, [true, true, true, false, false])] 20 87 okM kX12_product ?_
            rcases hy with ⟨c2, k1, rfl, k3⟩ | ⟨k1, q2, rfl⟩
            · rw [pOp_S hl k1] at e
              have g2 := gd _ c2 k1
              have run := run_op (o := pk (mT h r) n 40 q) gc g2 (Or.inr (Or.inr hl))
              refine ih _ _ z R.2.1 (by have := R.1; omega) (fun lf2 => ⟨_, run lf2⟩) (fun ha => ?_) e
              rw [hz, hv ha, k3 ha, vl_of (run lf)]
            · rw [pOp_N hl k1] at e
              exact FAIL q2 _ z (by have := R.2.1; omega) e
          rcases lvO_2.mp hl with e42 | e47
          · have hb1 : b = true := by rw [hb, e42]; decide
            rw [hb1]
            refine ⟨fun c => absurd c (by decide), fun _ => DN _ ?_⟩
            rw [e42, jn_mul]
          · have hb1 : b = false := by rw [hb, e47]; decide
            rw [hb1]
            refine ⟨fun _ => ⟨fun c3 => ⟨c3, DN _ ?_⟩, fun c3 => DN _ ?_⟩, fun c => absurd rfl c⟩
            · rw [e47, jn_div, if_neg c3]
            · rw [e47, jn_div, if_pos (nn c3)]
        refine wp_at tX12_product [(45, [true, true, true, false, false])] 40 31 okM kX12_product ⟨_, c_mhere tq, ?_⟩
        rw [mT_at]
        rintro v h1 ⟨rfl, rfl⟩
        exact ⟨fun c => OP false (dF c).symm, fun c => OP true (dT (nn c)).symm⟩
      refine wp_at tX12_product [(31, [true, true, true, false, false])] 60 6 okM kX12_product ⟨_, c_mfine, ?_⟩
      rw [dT tq.2.2.2.2.2.1]
      rintro v h1 ⟨rfl, rfl⟩
      refine ⟨fun c => absurd c (by decide), fun _ => ⟨_, c_mhere tq, ?_⟩⟩
      rw [mT_at]
      rintro v h1 ⟨rfl, rfl⟩
      refine ⟨fun c => YES (lvO_2.mpr (Or.inl c)), fun c1 => ⟨_, c_mhere tq, ?_⟩⟩
      rw [mT_at]
      rintro v h1 ⟨rfl, rfl⟩
      refine ⟨fun c2 => ?_, fun c2 => YES (lvO_2.mpr (Or.inr (nn c2)))⟩
      have hn : ¬ lvO (pk (mT h r) n 40 q) = nI 2 := fun w => (lvO_2.mp w).elim c1 c2
      rw [pOp_no hn] at e
      exact ⟨_, rfl, Or.inl ⟨c, by rw [e], by rw [e], hv⟩⟩
  rcases hx with ⟨c, k1, rfl, k3⟩ | ⟨k1, q, rfl⟩
  · exact LP 40 _ c x (rn p hp).2.1 (by omega) (gd p c k1) k3 (pLv_S k1)
  · exact FAIL q _ x (by have := (rn p hp).2.1; omega) (pLv_N k1)
theorem c_msum {d : Nat} (t : TxM h r n 40 p0) (IH : LvM h lf (mT h r) n d 1 mX12_product) : LvM h lf (mT h r) n d 2 mX12_sum := by
  intro K p hp hK
  obtain ⟨K, rfl⟩ : ∃ K', K = K' + 6 := ⟨K - 6, by omega⟩
  have rn : ∀ p, p ≤ 40 → Ran 40 p (pLv (mT h r) n 40 (inn (mT h r) n 40 d) 1 p) := ran_Lv (ran_inn d) 1
  have gd : ∀ p, GoodR (pLv (mT h r) n 40 (inn (mT h r) n 40 d) 1 p) := good_Lv (good_inn d) 1
  refine ct_vc tX12_sum [(6, [true, true, true, false, false])] 60 okM kX12_sum rfl ?_
  refine ⟨_, IH (K + 5) p hp (by omega), ?_⟩
  rintro v h1 ⟨x, rfl, hx⟩
  have FAIL : ∀ q w x, w ≤ 200 → pLv (mT h r) n 40 (inn (mT h r) n 40 d) 2 p = (w, none) → WP alM mX12_sum (K + 6) (mP h lf (pLv (mT h r) n 40 (inn (mT h r) n 40 d) 2 p)) 6 [some (vR 12 0), some (vI (nI (4 - d))), some (vI x), none, none] [] (sX (sAM h q) 12 0 15 (nI w)) := by
    intro q w x hw e
    refine wp_at tX12_sum [] 20 6 okM kX12_sum ⟨_, c_mfine, ?_⟩
    rw [dF (nfn hw)]
    rintro v h1 ⟨rfl, rfl⟩
    exact ⟨fun _ => ⟨_, rfl, Or.inr ⟨by rw [e], q, by rw [e]⟩⟩, fun c => absurd rfl c⟩
  have LP : ∀ f q c x, q ≤ 40 → 40 ≤ q + f → Good c → (h.1 12 0 20 = nI 1 → x = vl lf c) → pLv (mT h r) n 40 (inn (mT h r) n 40 d) 2 p = pOp (mT h r) n 40 (pLv (mT h r) n 40 (inn (mT h r) n 40 d) 1) 1 f q c → WP alM mX12_sum (K + 6) (mP h lf (pLv (mT h r) n 40 (inn (mT h r) n 40 d) 2 p)) 6 [some (vR 12 0), some (vI (nI (4 - d))), some (vI x), none, none] [] (sAM h q) := by
    intro f
    induction f with
    | zero =>
      intro q c x hq hf gc hv e
      have tq := t.at (show q ≤ 200 by omega)
      have hpk : pk (mT h r) n 40 q = -(nI 1) := by unfold pk; rw [if_neg (by omega)]
      refine wp_at tX12_sum [] 40 6 okM kX12_sum ⟨_, c_mfine, ?_⟩
      rw [dT tq.2.2.2.2.2.1]
      rintro v h1 ⟨rfl, rfl⟩
      refine ⟨fun c => absurd c (by decide), fun _ => ⟨_, c_mhere tq, ?_⟩⟩
      rw [mT_at, hpk]
      rintro v h1 ⟨rfl, rfl⟩
      refine ⟨fun c => absurd c (by decide), fun _ => ⟨_, c_mhere tq, ?_⟩⟩
      rw [mT_at, hpk]
      rintro v h1 ⟨rfl, rfl⟩
      exact ⟨fun _ => ⟨_, rfl, Or.inl ⟨c, by rw [e]; rfl, by rw [e]; rfl, hv⟩⟩, fun c => absurd (nn c) (by decide)⟩
    | succ f ih =>
      intro q c x hq hf gc hv e
      have tq := t.at (show q ≤ 200 by omega)
      have YES : lvO (pk (mT h r) n 40 q) = nI 1 → WP alM mX12_sum (K + 6) (mP h lf (pLv (mT h r) n 40 (inn (mT h r) n 40 d) 2 p)) 31 [some (vR 12 0), some (vI (nI (4 - d))), some (vI x), none, none] [] (sAM h q) := by
        intro hl
        have q40 : q < 40 := pk_c rfl (fun w => by rw [w] at hl; exact absurd hl (by decide))
        have e14 : sX (sAM h q) 12 0 14 ((sAM h q).1 12 0 14 + nI 1) = sAM h (q + 1) := by rw [tq.2.2.2.2.1, nI_add]; exact sX_sX
        have R := rn (q + 1) (by omega)
        have OP : ∀ b, b = decide (pk (mT h r) n 40 q = nI 43) → WP alM mX12_sum (K + 6) (mP h lf (pLv (mT h r) n 40 (inn (mT h r) n 40 d) 2 p)) 45 [some (vR 12 0), some (vI (nI (4 - d))), some (vI x), none, none] [vI (b2 b)] (sAM h q) := by
          intro b hb
          refine wp_at tX12_sum [(78, [true, true, false, false, false])] 60 45 okM kX12_sum ⟨_, ct_cv (IH (K + 5) (q + 1) (by omega) (by omega)) rfl e14, ?_⟩
          rintro v h1 ⟨y, rfl, hy⟩
          have DN : ∀ z, z = jnF (pk (mT h r) n 40 q) x y → WP alM mX12_sum (K + 6) (mP h lf (pLv (mT h r) n 40 (inn (mT h r) n 40 d) 2 p)) 78 [some (vR 12 0), some (vI (nI (4 - d))), none, none, none] [vI z] h1 := by
            intro z hz
            refine wp_at tX12_sum [(6, [true, true, true, false, false])] 20 78 okM kX12_sum ?_
            rcases hy with ⟨c2, k1, rfl, k3⟩ | ⟨k1, q2, rfl⟩
            · rw [pOp_S hl k1] at e
              have g2 := gd _ c2 k1
              have run := run_op (o := pk (mT h r) n 40 q) gc g2 (Or.inr (Or.inl hl))
              refine ih _ _ z R.2.1 (by have := R.1; omega) (fun lf2 => ⟨_, run lf2⟩) (fun ha => ?_) e
              rw [hz, hv ha, k3 ha, vl_of (run lf)]
            · rw [pOp_N hl k1] at e
              exact FAIL q2 _ z (by have := R.2.1; omega) e
          rcases lvO_1.mp hl with e42 | e47
          · have hb1 : b = true := by rw [hb, e42]; decide
            rw [hb1]
            refine ⟨fun c => absurd c (by decide), fun _ => DN _ ?_⟩
            rw [e42, jn_add]
          · have hb1 : b = false := by rw [hb, e47]; decide
            rw [hb1]
            refine ⟨fun _ => DN _ ?_, fun c => absurd rfl c⟩
            rw [e47, jn_sub]
        refine wp_at tX12_sum [(45, [true, true, true, false, false])] 40 31 okM kX12_sum ⟨_, c_mhere tq, ?_⟩
        rw [mT_at]
        rintro v h1 ⟨rfl, rfl⟩
        exact ⟨fun c => OP false (dF c).symm, fun c => OP true (dT (nn c)).symm⟩
      refine wp_at tX12_sum [(31, [true, true, true, false, false])] 60 6 okM kX12_sum ⟨_, c_mfine, ?_⟩
      rw [dT tq.2.2.2.2.2.1]
      rintro v h1 ⟨rfl, rfl⟩
      refine ⟨fun c => absurd c (by decide), fun _ => ⟨_, c_mhere tq, ?_⟩⟩
      rw [mT_at]
      rintro v h1 ⟨rfl, rfl⟩
      refine ⟨fun c => YES (lvO_1.mpr (Or.inl c)), fun c1 => ⟨_, c_mhere tq, ?_⟩⟩
      rw [mT_at]
      rintro v h1 ⟨rfl, rfl⟩
      refine ⟨fun c2 => ?_, fun c2 => YES (lvO_1.mpr (Or.inr (nn c2)))⟩
      have hn : ¬ lvO (pk (mT h r) n 40 q) = nI 1 := fun w => (lvO_1.mp w).elim c1 c2
      rw [pOp_no hn] at e
      exact ⟨_, rfl, Or.inl ⟨c, by rw [e], by rw [e], hv⟩⟩
  rcases hx with ⟨c, k1, rfl, k3⟩ | ⟨k1, q, rfl⟩
  · exact LP 40 _ c x (rn p hp).2.1 (by omega) (gd p c k1) k3 (pLv_S k1)
  · exact FAIL q _ x (by have := (rn p hp).2.1; omega) (pLv_N k1)
end PARS
