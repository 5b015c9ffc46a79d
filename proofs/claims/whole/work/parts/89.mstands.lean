/-! the reference: stands, watch -/
def rmN (q i : Nat) : Nat := q &&& (2 ^ i ^^^ 4294967295)
theorem rm_tb {q i j : Nat} (hq : q < 256) : (rmN q i).testBit j = (q.testBit j && !decide (j = i)) := by
  unfold rmN
  rw [Nat.testBit_and, Nat.testBit_xor, Nat.testBit_two_pow]
  by_cases c : j < 32
  · rw [tb_M j c]
    by_cases e : j = i
    · rw [dT e, dT e.symm]; rfl
    · rw [dF e, dF (fun w => e w.symm)]; rfl
  · rw [tb_hi hq (by omega), Bool.false_and, Bool.false_and]
theorem rm_le {q i : Nat} : rmN q i ≤ q := Nat.and_le_left
theorem rm_or {q i : Nat} (hq : q < 256) (h : q.testBit i = true) : rmN q i ||| 2 ^ i = q := by
  apply Nat.eq_of_testBit_eq
  intro j
  rw [Nat.testBit_or, rm_tb hq, Nat.testBit_two_pow]
  by_cases e : j = i
  · subst e; rw [h, dT rfl, Bool.or_true]
  · rw [dF e, dF (show ¬ i = j from fun w => e w.symm), Bool.or_false, Bool.not_false, Bool.and_true]
theorem rm_lt {q i : Nat} (hq : q < 256) (h : q.testBit i = true) : rmN q i < q := by
  have h1 := rm_le (q := q) (i := i)
  have : rmN q i ≠ q := fun w => by
    have := rm_tb (i := i) (j := i) hq
    rw [w, h, dT rfl] at this
    cases this
  omega
theorem or_rm {t i : Nat} (ht : t < 256) (hi : i < 8) (h : t.testBit i = false) : rmN (t ||| 2 ^ i) i = t := by
  apply Nat.eq_of_testBit_eq
  intro j
  rw [rm_tb (Nat.or_lt_two_pow (n := 8) ht (Nat.pow_lt_pow_right (by decide) hi)), Nat.testBit_or, Nat.testBit_two_pow]
  by_cases e : j = i
  · subst e; rw [h, dT rfl]; simp
  · rw [dF e, dF (show ¬ i = j from fun w => e w.symm), Bool.or_false, Bool.not_false, Bool.and_true]
def plP (c : Nat → Nat → Bool) (n q i : Nat) : Nat := if q.testBit i = true ∧ c i (rmN q i) = true then FF c n (rmN q i) else 0
theorem FF_pull {c : Nat → Nat → Bool} {n q : Nat} (hn : n ≤ 8) (hc : Cn c) (hq : q < 2 ^ n) : FF c n q = iN 0 q + smN (plP c n q) n := by
  have hp := p2_le hn
  have e := FF_w (n := n) hc (iN q)
  rw [smN_one (a := q) (2 ^ n) hq (fun j _ hj => by unfold iN; rw [if_neg hj, Nat.mul_zero])] at e
  have i1 : iN q q = 1 := if_pos rfl
  have i2 : iN q 0 = iN 0 q := by
    unfold iN
    by_cases w : q = 0
    · rw [if_pos w.symm, if_pos w]
    · rw [if_neg (fun x => w x.symm), if_neg w]
  rw [i1, Nat.mul_one, i2, smN_swap] at e
  rw [e]
  congr 1
  refine smN_cong n (fun i hi => ?_)
  unfold plP
  by_cases k : q.testBit i = true
  · have lt := rm_lt (i := i) (by omega) k
    rw [smN_one (a := rmN q i) (2 ^ n) (by omega) (fun t ht hne => ?_)]
    · by_cases k2 : c i (rmN q i) = true
      · rw [if_pos k2, if_pos ⟨k, k2⟩, rm_or (by omega) k, i1, Nat.mul_one]
      · rw [if_neg k2, if_neg (fun w => k2 w.2)]
    · by_cases k3 : c i t = true
      · rw [if_pos k3]
        unfold iN
        rw [if_neg (fun w => hne (by rw [← w, or_rm (by omega) (by omega) (hc i t k3)])), Nat.mul_zero]
      · rw [if_neg k3]
  · rw [if_neg (fun w => k w.1)]
    refine smN_z _ (fun t ht => ?_)
    by_cases k3 : c i t = true
    · rw [if_pos k3]
      unfold iN
      rw [if_neg (fun w => k (by rw [← w, Nat.testBit_or, Nat.testBit_two_pow, dT rfl, Bool.or_true])), Nat.mul_zero]
    · rw [if_neg k3]
theorem oa_le {A : Nat → Int32} {n f : Nat} {pl : Int32} (hn : n ≤ 8) (hf : f < n) : oaN A n f pl ≤ GG (cN A n) n 0 := by
  rw [← th_b hn hf]
  unfold oaN
  refine smN_le _ (fun s _ => ?_)
  by_cases c : cN A n f s = true
  · rw [if_pos c]
    split
    · exact Nat.le_refl _
    · exact Nat.zero_le _
  · rw [if_neg c, if_neg (fun w => c w.2)]
    exact Nat.le_refl _
theorem GG_bd {c : Nat → Nat → Bool} {n : Nat} (hn : n ≤ 8) (hc : Cn c) : GG c n 0 ≤ 40320 := Nat.le_trans (GG_le hc (2 ^ n) 0 (Nat.two_pow_pos n) (Nat.sub_le _ _)) (fc8 _ (Nat.le_trans ms_le hn))
theorem m_Stands {B D k : Nat} {h : Hp} {g : GS} {x p : Int32} (a : MI B h g) (z : Sz g) (iv : Inv D g) : Ct alM mX12_stands (k + 103) [vR 12 0, vI x, vI p] h (fun v h' => v = vI (aStands g x p) ∧ MI B h' (nStands g x p)) := by
  have hn := z.1
  have hp2 := p2_le hn
  have hp0 := Nat.two_pow_pos (gN g)
  have wk : WaK (gN g) (gA g) := iv.2.2.2.2.2
  have a0 := a.fld (j := 10) (x := nI 0) (by decide)
  obtain ⟨h0, hh0⟩ : ∃ h0, sX h 12 0 10 (nI 0) = h0 := ⟨_, rfl⟩
  rw [hh0] at a0
  have NO : ¬ okSt g x p = true → WP alM mX12_stands (k + 103) (fun v h' => v = vI (aStands g x p) ∧ MI B h' (nStands g x p)) 27 [none, none, none, none, none, none, none] [] h0 := by
    intro hno
    refine wp_at tX12_stands [] 10 27 okM kX12_stands ?_
    unfold aStands nStands
    rw [if_neg hno, if_neg hno]
    exact ⟨rfl, a0⟩
  refine ct_vc tX12_stands [(5, [true, true, true, false, false, false, false])] 20 okM kX12_stands rfl ?_
  show WP alM mX12_stands (k + 103) _ 5 [some (vR 12 0), some (vI x), some (vI p), none, none, none, none] [] (sX h 12 0 10 (nI 0))
  rw [hh0]
  refine wp_at tX12_stands [(27, [false, false, false, false, false, false, false]), (42, [true, true, true, true, true, true, false])] 60 5 okM kX12_stands ⟨_, c_isMan a0.n1 hn, ?_⟩
  rintro v h1 ⟨rfl, rfl⟩
  refine ⟨fun c => NO (fun w => by rw [(and3 w).1] at c; exact absurd c (by decide)), fun c => ⟨_, c_min, ?_⟩⟩
  rw [a0.n1, inB_has hn]
  rintro v h1 ⟨rfl, rfl⟩
  refine ⟨fun c2 => ?_, fun c2 => NO (fun w => by rw [(and3 w).2] at c2; exact c2 (by decide))⟩
  have q1 := b2_n0.mp c
  have q2 := b2_n0.mp c2
  have hok : okSt g x p = true := by unfold okSt; rw [q1, q2]; rfl
  unfold aStands nStands
  simp only [if_pos hok]
  obtain ⟨j, hj, rfl⟩ := hasN_get q1 (by omega)
  rw [nI_clamp (show j < 2 ^ 31 by omega)]
  have hc := cN_Cn (A := gA g) hn
  refine ⟨_, c_countOrders (a0.ov z) hc (fun i u hi hu => cc_N hn wk hi hu), ?_⟩
  rintro v h2 ⟨rfl, fm2, e53⟩
  have a2 : MI B h2 g := a0.scr fm2 (by simp [scA]) (by simp)
  obtain ⟨T, hT⟩ : ∃ T, T = GG (cN (gA g) (gN g)) (gN g) 0 := ⟨_, rfl⟩
  have hT1 : 1 ≤ T := by rw [hT]; exact GG_1 hn wk (2 ^ gN g) 0 hp0 (by omega)
  have hT2 : T ≤ 40320 := by rw [hT]; exact GG_bd hn hc
  have eo : orG' g = nI T := by rw [hT]; exact or_gr z
  rw [← hT, eo]
  have a2' : ∀ {H : Hp}, Fm [(54, 0)] [] h2 H → MI B H g := fun f => a2.scr f (by simp [scA]) (by simp)
  let P : AV → Hp → Prop := fun v h' => v = vI (oaG g j p) ∧ MI B h' (uL g (frL (oaG g j p).toInt64 (nI T).toInt64))
  have L : ∀ S, S ≤ 2 ^ gN g → ∀ H, Fm [(54, 0)] [] h2 H → (∀ q, q < S → H.1 54 0 q = nI (FF (cN (gA g) (gN g)) (gN g) q)) → WP alM mX12_stands (k + 103) P 42 [some (vR 12 0), some (vI (nI j)), some (vI p), some (vI (nI T)), some (vI (oaF (gA g) (ctO (gA g) (gN g)) (ctB (gA g) (gN g)) j p S)), some (vI (nI S)), none] [] H := by
    refine loop_up (2 ^ gN g) ?_ (fun S hS ih => ?_)
    · intro H fm e
      have aH := a2' fm
      have en : nI 1 <<< (H.1 12 0 1 &&& 31) = nI (2 ^ gN g) := by rw [aH.n1]; exact bit_nI (gN g) (by omega)
      have oa := oa_nI (A := gA g) (pl := p) hj (2 ^ gN g) (Nat.le_refl _)
      have ob := oa_le (A := gA g) (pl := p) hn hj
      have oc : oaG g j p = nI (oaN (gA g) (gN g) j p) := oa
      show WP alM mX12_stands (k + 103) (fun v h' => v = vI (oaG g j p) ∧ MI B h' (uL g (frL (oaG g j p).toInt64 (nI T).toInt64))) 42 [some (vR 12 0), some (vI (nI j)), some (vI p), some (vI (nI T)), some (vI (oaG g j p)), some (vI (nI (2 ^ gN g))), none] [] H
      rw [oc, nI_l (by omega), nI_l (by omega)]
      refine wp_at tX12_stands [] 30 42 okM kX12_stands ⟨fun _ => ⟨_, ct_cv (c_tellPart aH (a := oaN (gA g) (gN g) j p) (b := T) (by omega) (by omega) (by omega)) (by rw [nI_l (by omega), nI_l (by omega)]) rfl, ?_⟩, fun c => absurd (by rw [en]; exact nI_le (Nat.le_refl _) (by omega)) c⟩
      rintro v H2 a3
      exact ⟨rfl, a3⟩
    · intro H fm e
      have aH := a2' fm
      have en : nI 1 <<< (H.1 12 0 1 &&& 31) = nI (2 ^ gN g) := by rw [aH.n1]; exact bit_nI (gN g) (by omega)
      obtain ⟨sm, hsm⟩ : ∃ sm, sm = oaF (gA g) (ctO (gA g) (gN g)) (ctB (gA g) (gN g)) j p S := ⟨_, rfl⟩
      have es : oaF (gA g) (ctO (gA g) (gN g)) (ctB (gA g) (gN g)) j p (S + 1) = if bcF (nI S) = p ∧ cfB (gA g) j (nI S) = true then sm + ctO (gA g) (gN g) S * ctB (gA g) (gN g) (S ||| 2 ^ j) else sm := by rw [hsm]; rfl
      rw [es] at ih
      rw [← hsm]
      have SK : ∀ y H, Fm [(54, 0)] [] h2 H → (∀ q, q < S + 1 → H.1 54 0 q = nI (FF (cN (gA g) (gN g)) (gN g) q)) → (if bcF (nI S) = p ∧ cfB (gA g) j (nI S) = true then sm + ctO (gA g) (gN g) S * ctB (gA g) (gN g) (S ||| 2 ^ j) else sm) = y → WP alM mX12_stands (k + 103) P 199 [some (vR 12 0), some (vI (nI j)), some (vI p), some (vI (nI T)), some (vI y), some (vI (nI S)), none] [] H := by
        intro y H fm e hy
        have := ih H fm e
        rw [hy, ← nI_add S 1] at this
        exact wp_at tX12_stands [(42, [true, true, true, true, true, true, false])] 20 199 okM kX12_stands this
      have I : ∀ i, i ≤ gN g → ∀ H, Fm [(54, 0)] [] h2 H → (∀ q, q < S → H.1 54 0 q = nI (FF (cN (gA g) (gN g)) (gN g) q)) → H.1 54 0 S = nI (iN 0 S + smN (plP (cN (gA g) (gN g)) (gN g) S) i) → WP alM mX12_stands (k + 103) P 73 [some (vR 12 0), some (vI (nI j)), some (vI p), some (vI (nI T)), some (vI sm), some (vI (nI S)), some (vI (nI i))] [] H := by
        refine loop_up (gN g) ?_ (fun i hi ih2 => ?_)
        · intro H fm e e2
          have aH := a2' fm
          rw [← FF_pull hn hc hS] at e2
          have e' : ∀ q, q < S + 1 → H.1 54 0 q = nI (FF (cN (gA g) (gN g)) (gN g) q) := fun q hq => by
            by_cases w : q = S
            · rw [w]; exact e2
            · exact e q (by omega)
          have hcc := cc_N hn wk hj hS
          rw [cN_cf hj hS] at hcc
          refine wp_at tX12_stands [(199, [true, true, true, true, true, true, false])] 60 73 okM kX12_stands ⟨fun _ => ⟨_, c_mhas, ?_⟩, fun c => absurd (by rw [aH.n1]; exact nI_le (Nat.le_refl _) (by omega)) c⟩
          rw [hsB_tb (by omega) (by omega)]
          rintro v H1 ⟨rfl, rfl⟩
          refine ⟨fun c1 => SK sm H1 fm e' (if_neg (fun w => ?_)), fun c1 => ⟨_, c_bitCount okM, ?_⟩⟩
          · rw [← hcc, b2_n0.mp c1] at w
            simp at w
          · rintro v H1 ⟨rfl, rfl⟩
            refine ⟨fun c3 => SK sm H1 fm e' (if_neg (fun w => c3 w.1)), fun c3 => ⟨_, c_canCome (aH.ov z) (by omega) (by omega), ?_⟩⟩
            rintro v H1 ⟨rfl, rfl⟩
            refine ⟨fun c4 => ?_, fun c4 => SK sm H1 fm e' (if_neg (fun w => ?_))⟩
            · have cy : cfB (gA g) j (nI S) = true := by rw [← hcc, b2_0.mp (nn c1), b2_n0.mp c4]; rfl
              have eor : nI S ||| nI 1 <<< (nI j &&& 31) = nI (S ||| 2 ^ j) := or_nI (by omega)
              have hol := or_lt hS hj
              refine ⟨ix1 256 (by omega), by rw [eor]; exact ix1 256 (by omega), ?_⟩
              rw [eor, nI_clamp (show S < 2 ^ 31 by omega), nI_clamp (show S ||| 2 ^ j < 2 ^ 31 by omega), e2, fm.2.2.1 53 0 (by simp) (by simp), e53 _ hol, ← ctO_nI, ← ctB_nI]
              exact SK _ H1 fm e' (if_pos ⟨nn c3, cy⟩)
            · have := b2_0.mp (nn c4)
              rw [← hcc, this, Bool.and_false] at w
              cases w.2
        · intro H fm e e2
          have aH := a2' fm
          have ep : iN 0 S + smN (plP (cN (gA g) (gN g)) (gN g) S) (i + 1) = iN 0 S + smN (plP (cN (gA g) (gN g)) (gN g) S) i + plP (cN (gA g) (gN g)) (gN g) S i := by rw [smN]; omega
          rw [← nI_add i 1] at ih2
          have NX : ∀ H, Fm [(54, 0)] [] h2 H → (∀ q, q < S → H.1 54 0 q = nI (FF (cN (gA g) (gN g)) (gN g) q)) → H.1 54 0 S = nI (iN 0 S + smN (plP (cN (gA g) (gN g)) (gN g) S) i + plP (cN (gA g) (gN g)) (gN g) S i) → WP alM mX12_stands (k + 103) P 136 [some (vR 12 0), some (vI (nI j)), some (vI p), some (vI (nI T)), some (vI sm), some (vI (nI S)), some (vI (nI i))] [] H := by
            intro H fm e e2
            rw [← ep] at e2
            exact wp_at tX12_stands [(73, [true, true, true, true, true, true, true])] 20 136 okM kX12_stands (ih2 H fm e e2)
          have er : nI S &&& (nI 1 <<< (nI i &&& 31) ^^^ -(nI 1)) = nI (rmN S i) := by
            rw [show nI 1 <<< (nI i &&& 31) = nI (2 ^ i) from bit_nI i (by omega), nI_not, nI_and]; rfl
          have rl := rm_le (q := S) (i := i)
          have hcc := cc_N hn wk hi (show rmN S i < 2 ^ gN g by omega)
          rw [rm_tb (by omega), dT rfl, Bool.not_true, Bool.and_false, Bool.not_false, Bool.true_and] at hcc
          refine wp_at tX12_stands [(136, [true, true, true, true, true, true, true])] 60 73 okM kX12_stands ⟨fun c => absurd c (by rw [aH.n1]; exact nI_ge hi (by omega)), fun _ => ⟨_, c_mhas, ?_⟩⟩
          rw [hsB_tb (by omega) (by omega)]
          rintro v H1 ⟨rfl, rfl⟩
          refine ⟨fun c1 => NX H1 fm e ?_, fun c1 => ?_⟩
          · rw [e2]
            unfold plP
            rw [if_neg (fun w => by rw [w.1] at c1; exact absurd c1 (by decide))]; rfl
          · refine ⟨_, ct_cv (c_canCome (u := rmN S i) (aH.ov z) (by omega) (by omega)) (congrArg (fun x => [vR 12 0, vI (nI i), vI x, vI (-(nI 1)), vI (-(nI 1))]) er) rfl, ?_⟩
            rw [hcc]
            rintro v H2 ⟨rfl, rfl⟩
            refine ⟨fun c3 => NX H2 fm e ?_, fun c3 => ?_⟩
            · rw [e2]
              unfold plP
              rw [if_neg (fun w => by rw [w.2] at c3; exact absurd c3 (by decide))]; rfl
            · have tb := b2_n0.mp c1
              have cy := b2_n0.mp c3
              have lt := rm_lt (i := i) (show S < 256 by omega) tb
              refine ⟨ix1 256 (by omega), by rw [er]; exact ix1 256 (by omega), ix1 256 (by omega), ?_⟩
              rw [er, nI_clamp (show S < 2 ^ 31 by omega), nI_clamp (show rmN S i < 2 ^ 31 by omega), e2, e _ lt, nI_add]
              refine NX _ (fm.sX (by simp) (by decide)) (fun q hq => ?_) ?_
              · rw [rdX, if_neg (by simp; omega)]; exact e q hq
              · rw [rdX, if_pos (by simp)]
                have : plP (cN (gA g) (gN g)) (gN g) S i = FF (cN (gA g) (gN g)) (gN g) (rmN S i) := if_pos ⟨tb, cy⟩
                rw [this]
      have G : ∀ m, m = iN 0 S → WP alM mX12_stands (k + 103) P 69 [some (vR 12 0), some (vI (nI j)), some (vI p), some (vI (nI T)), some (vI sm), some (vI (nI S)), none] [vI (nI m), vI (nI S), vR 54 0] H := by
        intro m hm
        refine wp_at tX12_stands [(73, [true, true, true, true, true, true, true])] 20 69 okM kX12_stands ⟨ix1 256 (by omega), ?_⟩
        rw [nI_clamp (by omega)]
        refine I 0 (Nat.zero_le _) _ (fm.sX (by simp) (by decide)) (fun q hq => ?_) ?_
        · rw [rdX, if_neg (by simp; omega)]; exact e q hq
        · rw [rdX, if_pos (by simp), hm]; rfl
      refine wp_at tX12_stands [(69, [true, true, true, true, true, true, false])] 30 42 okM kX12_stands ⟨fun c => absurd c (by rw [en]; exact nI_ge hS (by omega)), fun _ => ⟨fun c1 => G 0 ?_, fun c1 => G 1 ?_⟩⟩
      · unfold iN
        rw [if_neg (fun w => c1 (by rw [w]; rfl))]
      · unfold iN
        rw [if_pos (nI_inj (a := S) (b := 0) (by omega) (by omega) (nn c1))]
  exact L 0 (Nat.zero_le _) h2 Fm.rf (fun q hq => by omega)
