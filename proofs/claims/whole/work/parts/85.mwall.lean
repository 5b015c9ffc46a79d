/-! the reference: the wall -/
theorem hs_or {x y : Int32} {q : Nat} (hq : q < 16) : hsB (x ||| y) q = (hsB x q || hsB y q) := by
  rw [hsB_bv hq, hsB_bv hq, hsB_bv hq, Int32.toBitVec_or, BitVec.getLsbD_or]
theorem hs_bit {a q : Nat} (ha : a < 8) (hq : q < 8) : hsB (bit a) q = decide (q = a) := by
  rw [bit_nI a (by omega), hsB_tb (Nat.pow_lt_pow_right (by decide) ha : 2 ^ a < 2 ^ 8) hq, Nat.testBit_two_pow]
  exact decide_eq_decide.mpr ⟨fun h => h.symm, fun h => h.symm⟩
def ovN (A : Nat → Int32) (f : Nat) : Nat := bsN (fun o => hsB (A o) f) 8
theorem ovN_lt {A : Nat → Int32} {f : Nat} : ovN A f < 256 := bsN_lt 8
theorem ovF_tb {A : Nat → Int32} {f o : Nat} (ho : o < 8) : hsB (ovF A f) o = hsB (A o) f := by
  show hsB (nI (ovN A f)) o = _
  rw [hsB_tb ovN_lt ho]
  unfold ovN
  rw [bsN_tb, dT ho, Bool.true_and]
theorem MI.wal {B : Nat} {h h' : Hp} {g : GS} {v : Nat} {A : Nat → Int32} (a : MI B h g) (f : Fm [(52, 0)] [37] h h') (e1 : h'.1 12 0 37 = nI v) (e2 : ∀ f, f < 8 → h'.1 52 0 f = ovF A f) : MI B h' (uA g (v, A)) := by
  exact a.with (S := [(52, 0)]) (F := [37]) f.2.2.1 f.2.2.2 ⟨f.2.1 3 (by decide), f.2.1 4 (by decide)⟩ (Or.inl ⟨by decide, by decide, rfl, rfl⟩) (Or.inl ⟨by decide, by decide, rfl⟩) (Or.inl ⟨by decide, by decide, rfl⟩) (Or.inl ⟨by decide, by decide, rfl⟩) (Or.inl ⟨f.1, by decide, rfl⟩) (Or.inl ⟨by decide, by decide, by decide, rfl⟩) (Or.inl ⟨by decide, by decide, rfl⟩) (Or.inl ⟨by decide, by decide, by decide, by decide, rfl⟩) (Or.inr ⟨e1, e2⟩) (Or.inl ⟨by decide, by decide, by decide, rfl⟩)
theorem ov_sc {A : Nat → Int32} {n a b f : Nat} (hn : n ≤ 8) (wk : WaK n A) (ha : a < n) (hb : b < n) (hf : f < 8) : (if f < n ∧ (f = a ∨ hsB (A a) f = true) then ovF A f ||| (bit b ||| ovF A b) else ovF A f) = ovF (scF A a b 8) f := by
  have e0 : ∀ A f, ovF A f = nI (ovN A f) := fun _ _ => rfl
  have hfn : (f < n ∧ (f = a ∨ hsB (A a) f = true)) ↔ (f = a ∨ hsB (A a) f = true) := by
    refine ⟨fun h => h.2, fun h => ⟨?_, h⟩⟩
    rcases h with h | h
    · omega
    · obtain ⟨m, hm, e, k⟩ := wk a (by omega)
      rw [e, hsB_tb hm hf] at h
      exact (k f h).1
  have key : ∀ o, o < 8 → hsB (scF A a b 8 o) f = (hsB (A o) f || (decide (f = a ∨ hsB (A a) f = true) && (decide (o = b) || hsB (A o) b))) := by
    intro o ho
    unfold scF
    by_cases c : o = b ∨ hsB (A o) b = true
    · rw [if_pos ⟨ho, c⟩, hs_or (by omega), hs_or (by omega), hs_bit (by omega) hf]
      have e1 : (decide (o = b) || hsB (A o) b) = true := by
        rcases c with c | c
        · rw [dT c]; rfl
        · rw [c, Bool.or_true]
      rw [e1, Bool.and_true]
      cases hsB (A a) f <;> by_cases w : f = a <;> simp [w]
    · rw [if_neg (fun w => c w.2)]
      have e1 : (decide (o = b) || hsB (A o) b) = false := by
        rw [dF (fun w => c (Or.inl w)), Bool.false_or]
        cases h : hsB (A o) b
        · rfl
        · exact absurd (Or.inr h) c
      rw [e1, Bool.and_false, Bool.or_false]
  by_cases c : f = a ∨ hsB (A a) f = true
  · rw [if_pos (hfn.mpr c), e0, e0, e0, bit_nI b (by omega), nI_or, nI_or]
    congr 1
    apply Nat.eq_of_testBit_eq
    intro o
    unfold ovN
    rw [Nat.testBit_or, Nat.testBit_or, bsN_tb, bsN_tb, bsN_tb, Nat.testBit_two_pow]
    by_cases ho : o < 8
    · rw [dT ho, key o ho, dT c]
      by_cases w : o = b
      · subst w; simp
      · have : ¬ b = o := fun q => w q.symm
        simp [w, this]
    · have : ¬ b = o := by omega
      simp [ho, this]
  · rw [if_neg (fun w => c w.2), e0, e0]
    congr 1
    apply Nat.eq_of_testBit_eq
    intro o
    unfold ovN
    rw [bsN_tb, bsN_tb]
    by_cases ho : o < 8
    · rw [key o ho, dF c, Bool.false_and, Bool.or_false]
    · rw [dF ho, Bool.false_and, Bool.false_and]
theorem m_Score {B D k : Nat} {h : Hp} {g : GS} {x y : Int32} (a : MI B h g) (z : Sz g) (iv : Inv D g) : Ct alM mX12_score (k + 3) [vR 12 0, vI x, vI y] h (fun v h' => v = vI (aScore g x y) ∧ MI B h' (nScore g x y)) := by
  have hn := z.1
  have hv := z.v
  have a0 := a.fld (j := 10) (x := nI 0) (by decide)
  have wk : WaK (gN g) (gA g) := iv.2.2.2.2.2
  obtain ⟨h0, hh0⟩ : ∃ h0, sX h 12 0 10 (nI 0) = h0 := ⟨_, rfl⟩
  rw [hh0] at a0
  have E : ¬ (hasN x (gN g) = true ∧ hasN y (gN g) = true ∧ x ≠ y ∧ gV g ≠ 20) → WP alM mX12_score (k + 3) (fun v h' => v = vI (aScore g x y) ∧ MI B h' (nScore g x y)) 23 [none, none, none, none] [] h0 := by
    intro hno
    refine wp_at tX12_score [] 10 23 okM kX12_score ?_
    unfold aScore nScore
    rw [if_neg hno, if_neg hno]
    exact ⟨rfl, a0⟩
  refine ct_vc tX12_score [(5, [true, true, true, false])] 20 okM kX12_score rfl ?_
  show WP alM mX12_score (k + 3) _ 5 [some (vR 12 0), some (vI x), some (vI y), none] [] (sX h 12 0 10 (nI 0))
  rw [hh0]
  refine wp_at tX12_score [(23, [false, false, false, false]), (43, [true, true, true, true])] 60 5 okM kX12_score ⟨_, c_areTwo a0.n1 hn, ?_⟩
  rintro v h1 ⟨rfl, rfl⟩
  have e37 : h1.1 12 0 37 = nI (gV g) := a0.2.2.2.2.2.2.2.2.1.1
  have e52 := a0.2.2.2.2.2.2.2.2.1.2
  refine ⟨fun c => E (fun w => ?_), fun c => ⟨fun c2 => ?_, fun c2 => E (fun w => w.2.2.2 ?_)⟩⟩
  · rw [w.1, w.2.1, dF w.2.2.1] at c
    exact absurd c (by decide)
  · have c' := b2_n0.mp c
    obtain ⟨q0, q3⟩ := and3 c'
    obtain ⟨q1, q2⟩ := and3 q0
    have q3' : ¬ x = y := by simpa using q3
    have v20 : gV g ≠ 20 := fun w => c2 (by rw [e37, w])
    unfold aScore nScore
    simp only [if_pos (show hasN x (gN g) = true ∧ hasN y (gN g) = true ∧ x ≠ y ∧ gV g ≠ 20 from ⟨q1, q2, q3', v20⟩)]
    obtain ⟨p, hp, rfl⟩ := hasN_get q1 (by omega)
    obtain ⟨q, hq, rfl⟩ := hasN_get q2 (by omega)
    have hpq : p ≠ q := fun w => q3' (by rw [w])
    rw [nI_clamp (show p < 2 ^ 31 by omega), nI_clamp (show q < 2 ^ 31 by omega)]
    refine ⟨ix1 8 (by omega), ?_⟩
    rw [nI_clamp (show q < 2 ^ 31 by omega), e52 q (by omega)]
    refine ⟨_, c_mhas, ?_⟩
    rw [ovF_tb (by omega)]
    rintro v h2 ⟨rfl, rfl⟩
    refine ⟨fun c3 => ?_, fun c3 => ?_⟩
    · have c4 : ¬ hsB (gA g p) q = true := by rw [b2_0.mp c3]; decide
      simp only [if_neg c4]
      have L : ∀ t, t ≤ gN g → ∀ H, Fm [(52, 0)] [37] h2 H → H.1 12 0 37 = nI (gV g) → (∀ f, f < 8 → H.1 52 0 f = if f < t ∧ (f = p ∨ hsB (gA g p) f = true) then ovF (gA g) f ||| (bit q ||| ovF (gA g) q) else ovF (gA g) f) → WP alM mX12_score (k + 3) (fun v h' => v = vI (nI (gV g + 1)) ∧ MI B h' (uA g (gV g + 1, scF (gA g) p q 8))) 43 [some (vR 12 0), some (vI (nI p)), some (vI (nI q)), some (vI (nI t))] [] H := by
        refine loop_up (gN g) ?_ (fun t ht ih => ?_)
        · intro H fm e1 e2
          have n1 : H.1 12 0 1 = nI (gN g) := by rw [fm.2.2.2 1 (by simp)]; exact a0.n1
          refine wp_at tX12_score [] 30 43 okM kX12_score ⟨fun _ => ?_, fun c => absurd (by rw [n1]; exact nI_le (Nat.le_refl _) (by omega)) c⟩
          refine ⟨?_, a0.wal (fm.sF (by simp)) ?_ (fun f hf => ?_)⟩
          · rw [rdX, if_pos (by simp), e1, nI_add]
          · rw [rdX, if_pos (by simp), e1, nI_add]
          · rw [sX_row, if_neg (by simp), e2 f hf]
            exact ov_sc hn wk hp hq hf
        · intro H fm e1 e2
          rw [← nI_add t 1] at ih
          have n1 : H.1 12 0 1 = nI (gN g) := by rw [fm.2.2.2 1 (by simp)]; exact a0.n1
          have et : H.1 52 0 t = ovF (gA g) t := by rw [e2 t (by omega), if_neg (by omega)]
          have eq : H.1 52 0 q = ovF (gA g) q := by
            rw [e2 q (by omega)]
            refine if_neg (fun w => ?_)
            rcases w.2 with w | w
            · exact hpq w.symm
            · exact c4 w
          have SK : ∀ H, Fm [(52, 0)] [37] h2 H → H.1 12 0 37 = nI (gV g) → (∀ f, f < 8 → H.1 52 0 f = if f < t + 1 ∧ (f = p ∨ hsB (gA g p) f = true) then ovF (gA g) f ||| (bit q ||| ovF (gA g) q) else ovF (gA g) f) → WP alM mX12_score (k + 3) (fun v h' => v = vI (nI (gV g + 1)) ∧ MI B h' (uA g (gV g + 1, scF (gA g) p q 8))) 88 [some (vR 12 0), some (vI (nI p)), some (vI (nI q)), some (vI (nI t))] [] H := fun H fm e1 e2 => wp_at tX12_score [(43, [true, true, true, true])] 20 88 okM kX12_score (ih H fm e1 e2)
          have YES : (t = p ∨ hsB (gA g p) t = true) → WP alM mX12_score (k + 3) (fun v h' => v = vI (nI (gV g + 1)) ∧ MI B h' (uA g (gV g + 1, scF (gA g) p q 8))) 69 [some (vR 12 0), some (vI (nI p)), some (vI (nI q)), some (vI (nI t))] [] H := by
            intro hy
            refine wp_at tX12_score [(88, [true, true, true, true])] 40 69 okM kX12_score ⟨ix1 8 (by omega), ix1 8 (by omega), ix1 8 (by omega), ?_⟩
            rw [nI_clamp (show t < 2 ^ 31 by omega), nI_clamp (show q < 2 ^ 31 by omega), et, eq]
            refine SK _ (fm.sX (by simp) (by decide)) (by rw [rdX, if_neg (by simp)]; exact e1) (fun f hf => ?_)
            rw [rdX]
            by_cases w : f = t
            · subst w; rw [if_pos (by simp), if_pos ⟨by omega, hy⟩]; rfl
            · rw [if_neg (by simp [w]), e2 f hf]
              by_cases u : f = p ∨ hsB (gA g p) f = true
              · by_cases u2 : f < t
                · rw [if_pos ⟨u2, u⟩, if_pos ⟨by omega, u⟩]
                · rw [if_neg (fun j => u2 j.1), if_neg (fun j => u2 (by omega))]
              · rw [if_neg (fun j => u j.2), if_neg (fun j => u j.2)]
          refine wp_at tX12_score [(69, [true, true, true, true]), (88, [true, true, true, true])] 40 43 okM kX12_score ⟨fun c => absurd c (by rw [n1]; exact nI_ge ht (by omega)), fun _ => ⟨fun c5 => YES (Or.inl (nI_inj (by omega) (by omega) c5)), fun c5 => ⟨ix1 8 (by omega), ?_⟩⟩⟩
          rw [nI_clamp (by omega), et]
          refine ⟨_, c_mhas, ?_⟩
          rw [ovF_tb (by omega)]
          rintro v H2 ⟨rfl, rfl⟩
          refine ⟨fun c6 => SK H2 fm e1 (fun f hf => ?_), fun c6 => YES (Or.inr (b2_n0.mp c6))⟩
          rw [e2 f hf]
          have hno : ¬ (t = p ∨ hsB (gA g p) t = true) := by
            rintro (w | w)
            · exact c5 (by rw [w])
            · rw [w] at c6; exact absurd c6 (by decide)
          by_cases u : f < t ∧ (f = p ∨ hsB (gA g p) f = true)
          · rw [if_pos u, if_pos ⟨by omega, u.2⟩]
          · rw [if_neg u, if_neg]
            intro j
            by_cases w : f = t
            · subst w; exact hno j.2
            · exact u ⟨by omega, j.2⟩
      exact L 0 (Nat.zero_le _) h2 Fm.rf e37 (fun f hf => by rw [if_neg (fun w => by omega)]; exact e52 f hf)
    · have c4 : hsB (gA g p) q = true := b2_n0.mp c3
      simp only [if_pos c4]
      exact ⟨rfl, a0⟩
  · have c3 := nn c2
    rw [e37] at c3
    exact nI_inj (by omega) (by omega) c3
theorem m_Wash {B k : Nat} {h : Hp} {g : GS} (a : MI B h g) : Ct alM mX12_wash k [vR 12 0] h (fun v h' => v = vI (nI (gV g)) ∧ MI B h' (nWash g)) := by
  have a0 := a.fld (j := 10) (x := nI 0) (by decide)
  have e37 : (sX h 12 0 10 (nI 0)).1 12 0 37 = nI (gV g) := a0.2.2.2.2.2.2.2.2.1.1
  have L : ∀ t, t ≤ 8 → ∀ H, Fm [(52, 0)] [37] (sX h 12 0 10 (nI 0)) H → H.1 12 0 37 = nI 0 → (∀ f, f < t → H.1 52 0 f = nI 0) → WP alM mX12_wash k (fun v h' => v = vI (nI (gV g)) ∧ MI B h' (nWash g)) 17 [some (vR 12 0), some (vI (nI (gV g))), some (vI (nI t))] [] H := by
    refine loop_up 8 ?_ (fun t ht ih => ?_)
    · intro H fm e1 e2
      refine wp_at tX12_wash [] 20 17 okM kX12_wash ⟨fun _ => ⟨rfl, a0.wal fm e1 (fun f hf => ?_)⟩, fun c => absurd (nI_le (Nat.le_refl _) (by omega)) c⟩
      rw [e2 f hf]
      have e0 : ∀ n, bsN (fun _ => hsB (nI 0) f) n = 0 := by
        intro n
        have hz : hsB (nI 0) f = false := by rw [hsB_tb (by decide) hf]; exact Nat.zero_testBit f
        rw [hz]
        induction n with
        | zero => rfl
        | succ n ihn => rw [bsN, ihn, if_neg (by decide)]; rfl
      show nI 0 = nI (bsN (fun _ => hsB (nI 0) f) 8)
      rw [e0]
    · intro H fm e1 e2
      rw [← nI_add t 1] at ih
      refine wp_at tX12_wash [(17, [true, true, true])] 20 17 okM kX12_wash ⟨fun c => absurd c (nI_ge ht (by omega)), fun _ => ⟨ix1 8 (by omega), ?_⟩⟩
      rw [nI_clamp (by omega)]
      refine ih _ (fm.sX (by simp) (by decide)) (by rw [rdX, if_neg (by simp)]; exact e1) (fun f hf => ?_)
      rw [rdX]
      by_cases c : f = t
      · subst c; rw [if_pos (by simp)]
      · rw [if_neg (by simp [c])]; exact e2 f (by omega)
  refine ct_vc tX12_wash [(17, [true, true, true])] 30 okM kX12_wash rfl ?_
  show WP alM mX12_wash k _ 17 [some (vR 12 0), some (vI ((sX h 12 0 10 (nI 0)).1 12 0 37)), some (vI (nI 0))] [] (sX (sX h 12 0 10 (nI 0)) 12 0 37 (nI 0))
  rw [e37]
  exact L 0 (Nat.zero_le _) _ (Fm.rf.sF (by simp)) (by rw [rdX, if_pos (by simp)]) (fun f hf => absurd hf (by omega))
theorem sm_pc {c : Nat → Bool} {N : Nat} : ∀ t, t ≤ N → smF (fun j => b2 (c j)) t = nI (pcN t (bsN c N))
  | 0, _ => rfl
  | t + 1, ht => by
    rw [smF, sm_pc (c := c) (N := N) t (by omega), pcN, bsN_tb, dT (show t < N by omega), Bool.true_and]
    cases c t
    · show nI _ + nI 0 = _; rw [nI_add, if_neg (by decide), Nat.zero_add]; rfl
    · show nI _ + nI 1 = _; rw [nI_add, Nat.add_comm]; rfl
theorem pc_hi {m n : Nat} (h : ∀ j, m.testBit j = true → j < n) : ∀ t, n ≤ t → pcN t m = pcN n m
  | 0, h0 => by rw [show n = 0 by omega]
  | t + 1, ht => by
    by_cases c : n = t + 1
    · rw [c]
    · rw [pcN, pc_hi h t (by omega)]
      have : m.testBit t = false := by
        cases hb : m.testBit t
        · rfl
        · have := h t hb; omega
      rw [this]; simp
theorem m_Places {B D k : Nat} {h : Hp} {g : GS} {x : Int32} (a : MI B h g) (z : Sz g) (iv : Inv D g) : Ct alM mX12_places (k + 2) [vR 12 0, vI x] h (fun v h' => v = vI (aPlaces g x) ∧ MI B h' g) := by
  have hn := z.1
  have a0 := a.fld (j := 10) (x := nI 0) (by decide)
  have wk : WaK (gN g) (gA g) := iv.2.2.2.2.2
  obtain ⟨h0, hh0⟩ : ∃ h0, sX h 12 0 10 (nI 0) = h0 := ⟨_, rfl⟩
  rw [hh0] at a0
  refine ct_vc tX12_places [(5, [true, true, false, false])] 20 okM kX12_places rfl ?_
  show WP alM mX12_places (k + 2) _ 5 [some (vR 12 0), some (vI x), none, none] [] (sX h 12 0 10 (nI 0))
  rw [hh0]
  refine wp_at tX12_places [(19, [true, true, true, true])] 40 5 okM kX12_places ⟨_, c_isMan a0.n1 hn, ?_⟩
  rintro v h1 ⟨rfl, rfl⟩
  have e52 := a0.2.2.2.2.2.2.2.2.1.2
  unfold aPlaces
  refine ⟨fun c => ?_, fun c => ?_⟩
  · have q1 := b2_n0.mp c
    simp only [if_pos q1]
    obtain ⟨p, hp, rfl⟩ := hasN_get q1 (by omega)
    rw [nI_clamp (show p < 2 ^ 31 by omega)]
    obtain ⟨m, hm, em, km⟩ := wk p (by omega)
    have L : ∀ t, t ≤ gN g → WP alM mX12_places (k + 2) (fun v h' => v = vI (nI 10 * bcF (gA g p) + (nI (gN g) - nI 1 - cbF (gA g) p 8)) ∧ MI B h' g) 19 [some (vR 12 0), some (vI (nI p)), some (vI (smF (fun o => b2 (hsB (gA g p) o)) t)), some (vI (nI t))] [] h1 := by
      refine loop_up (gN g) ?_ (fun t ht ih => ?_)
      · refine wp_at tX12_places [] 60 19 okM kX12_places ⟨fun _ => ⟨ix1 8 (by omega), _, c_bitCount okM, ?_⟩, fun c => absurd (by rw [a0.n1]; exact nI_le (Nat.le_refl _) (by omega)) c⟩
        rintro v h2 ⟨rfl, rfl⟩
        refine ⟨?_, a0⟩
        rw [nI_clamp (by omega), e52 p (by omega), a0.n1]
        have e1 : smF (fun o => b2 (hsB (gA g p) o)) (gN g) = bcF (gA g p) := by
          rw [smF_cong (g := fun o => b2 (m.testBit o)), em, bc8 m hm]
          · rw [sm_pc (c := fun o => m.testBit o) (N := 8) (gN g) hn]
            have : bsN (fun o => m.testBit o) 8 = m := by
              apply Nat.eq_of_testBit_eq
              intro j
              rw [bsN_tb]
              by_cases c : j < 8
              · rw [dT c, Bool.true_and]
              · rw [dF c, Bool.false_and, tb_hi hm (by omega)]
            rw [this, pc_hi (fun j hj => (km j hj).1) 8 hn]
          · intro j hj
            rw [em, hsB_tb hm (by omega)]
        have e2 : bcF (ovF (gA g) p) = cbF (gA g) p 8 := by
          show bcF (nI (ovN (gA g) p)) = _
          rw [bc8 _ ovN_lt]
          unfold cbF
          rw [sm_pc (c := fun o => hsB (gA g o) p) (N := 8) 8 (Nat.le_refl _)]
          rfl
        rw [e1, e2]
        congr 1
        rw [Int32.sub_eq_add_neg, Int32.sub_eq_add_neg, Int32.sub_eq_add_neg, Int32.sub_eq_add_neg, Int32.add_assoc, Int32.add_assoc, Int32.add_assoc]
      · have es : smF (fun o => b2 (hsB (gA g p) o)) (t + 1) = smF (fun o => b2 (hsB (gA g p) o)) t + b2 (hsB (gA g p) t) := rfl
        rw [es, ← nI_add t 1] at ih
        refine wp_at tX12_places [(19, [true, true, true, true])] 40 19 okM kX12_places ⟨fun c => absurd c (by rw [a0.n1]; exact nI_ge ht (by omega)), fun _ => ⟨ix1 8 (by omega), ?_⟩⟩
        rw [nI_clamp (by omega), e52 t (by omega)]
        refine ⟨_, c_mhas, ?_⟩
        rw [ovF_tb (by omega)]
        rintro v H ⟨rfl, rfl⟩
        refine ⟨fun c => ?_, fun c => ?_⟩
        · rw [b2_0.mp c] at ih; exact ih
        · rw [b2_n0.mp c] at ih; exact ih
    exact L 0 (Nat.zero_le _)
  · have c' : ¬ hasN x (gN g) = true := by rw [b2_0.mp (nn c)]; decide
    simp only [if_neg c']
    exact ⟨rfl, a0⟩
