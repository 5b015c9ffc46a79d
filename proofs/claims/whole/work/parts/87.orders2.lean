/-! orders: the class's counts, whose bounds, one above another -/
def cN (A : Nat → Int32) (n i q : Nat) : Bool := decide (i < n ∧ q < 2 ^ n) && cfB A i (nI q)
theorem cf_tb {A : Nat → Int32} {i q : Nat} (hi : i < 8) (hq : q < 256) (h : cfB A i (nI q) = true) : q.testBit i = false := by
  have h1 := of_decide_eq_true (and3 h).1
  rw [sh_tb q hq i hi] at h1
  cases hb : q.testBit i
  · rfl
  · rw [hb, if_pos rfl] at h1; exact absurd h1 (by decide)
theorem cN_Cn {A : Nat → Int32} {n : Nat} (hn : n ≤ 8) : Cn (cN A n) := by
  intro i q h
  obtain ⟨h1, h2⟩ := and3 h
  have h1 := of_decide_eq_true h1
  have := p2_le hn
  exact cf_tb (by omega) (by omega) h2
theorem cN_iff {A : Nat → Int32} {n i q : Nat} (hn : n ≤ 8) (wk : WaK n A) (hi : i < n) (hq : q < 2 ^ n) : cN A n i q = true ↔ q.testBit i = false ∧ ∀ k, k < n → hsB (A i) k = true → q.testBit k = true := by
  have hp := p2_le hn
  obtain ⟨m, hm, em, km⟩ := wk i (by omega)
  have hm8 : ∀ k, k < 8 → hsB (A i) k = m.testBit k := fun k hk => by rw [em, hsB_tb hm hk]
  have e2 : (A i &&& (nI q ^^^ -(nI 1)) = 0) ↔ ∀ k, k < n → hsB (A i) k = true → q.testBit k = true := by
    rw [em, nI_not, nI_and]
    have hl : m &&& (q ^^^ 4294967295) < 256 := Nat.lt_of_le_of_lt Nat.and_le_left hm
    constructor
    · intro h k hk hb
      have h0 : m &&& (q ^^^ 4294967295) = 0 := nI_inj (by omega) (by omega) h
      rw [hsB_tb hm (by omega)] at hb
      have := congrArg (fun x => x.testBit k) h0
      rw [Nat.zero_testBit, Nat.testBit_and, Nat.testBit_xor, tb_M k (by omega), hb] at this
      cases hq2 : q.testBit k
      · rw [hq2] at this; exact absurd this (by decide)
      · rfl
    · intro h
      have h0 : m &&& (q ^^^ 4294967295) = 0 := by
        apply Nat.eq_of_testBit_eq
        intro k
        rw [Nat.zero_testBit, Nat.testBit_and]
        cases hb : m.testBit k
        · rfl
        · have hk := (km k hb).1
          rw [Nat.testBit_xor, tb_M k (by omega), h k hk (by rw [hsB_tb hm (by omega)]; exact hb)]
          rfl
      rw [h0]; rfl
  constructor
  · intro h
    have h2 := (and3 h).2
    exact ⟨cf_tb (by omega) (by omega) h2, e2.mp (of_decide_eq_true (and3 h2).2)⟩
  · rintro ⟨h1, h2⟩
    unfold cN cfB
    rw [dT ⟨hi, hq⟩, dT (e2.mpr h2), sh_tb q (by omega) i (by omega), h1]
    rfl
theorem t2i_nI {A g : Nat → Int32} {G : Nat → Nat} {n s : Nat} (hs : s < 2 ^ n) (e : ∀ q, g q = nI (G q)) : ∀ i, i ≤ n → ∀ q, t2i A g s i q = nI (fI (cN A n) G s i q)
  | 0, _, q => e q
  | i + 1, hi, q => by
    have IH := t2i_nI (A := A) (n := n) hs e i (by omega)
    have ec : cN A n i s = cfB A i (nI s) := by unfold cN; rw [dT ⟨by omega, hs⟩, Bool.true_and]
    rw [t2i, fI, ec]
    split
    · unfold upd upN'
      rw [IH, IH, nI_add]
      split
      · rfl
      · exact IH q
    · exact IH q
theorem t2o_nI {A g : Nat → Int32} {G : Nat → Nat} {n : Nat} (e : ∀ q, g q = nI (G q)) : ∀ s, s ≤ 2 ^ n → ∀ q, t2o A n g s q = nI (fO (cN A n) n G s q)
  | 0, _, q => e q
  | s + 1, hs, q => t2i_nI (by omega) (t2o_nI e s (by omega)) n (Nat.le_refl _) q
theorem t3i_nI {A g : Nat → Int32} {G : Nat → Nat} {n s : Nat} (hs : s < 2 ^ n) (e : ∀ q, g q = nI (G q)) : ∀ i, i ≤ n → ∀ q, t3i A g s i q = nI (bI (cN A n) G s i q)
  | 0, _, q => e q
  | i + 1, hi, q => by
    have IH := t3i_nI (A := A) (n := n) hs e i (by omega)
    have ec : cN A n i s = cfB A i (nI s) := by unfold cN; rw [dT ⟨by omega, hs⟩, Bool.true_and]
    rw [t3i, bI, ec]
    split
    · unfold upd upN'
      rw [IH, IH, nI_add]
      split
      · rfl
      · exact IH q
    · exact IH q
theorem t3o_nI {A g : Nat → Int32} {G : Nat → Nat} {n : Nat} (e : ∀ q, g q = nI (G q)) : ∀ d q, t3o A n g (2 ^ n - 1) d q = nI (bO (cN A n) n G (2 ^ n - 1) d q)
  | 0, q => e q
  | d + 1, q => t3i_nI (by have := Nat.two_pow_pos n; omega) (t3o_nI e d) n (Nat.le_refl _) q
theorem t1_nI {x n q : Nat} (hx : x < 2 ^ n) : t1F (fun _ => nI 0) x (2 ^ n) q = nI (iN x q) := by
  unfold t1F iN
  by_cases c : q < 2 ^ n
  · rw [if_pos c]
    by_cases e : q = x
    · rw [dT e, if_pos e]; rfl
    · rw [dF e, if_neg e]; rfl
  · rw [if_neg c, if_neg (by omega)]
theorem ctO_nI {A : Nat → Int32} {n q : Nat} : ctO A n q = nI (FF (cN A n) n q) := t2o_nI (fun q => t1_nI (Nat.two_pow_pos n)) _ (Nat.le_refl _) q
theorem ctB_nI {A : Nat → Int32} {n q : Nat} : ctB A n q = nI (GG (cN A n) n q) := t3o_nI (fun q => t1_nI (by have := Nat.two_pow_pos n; omega)) _ q
def oaN (A : Nat → Int32) (n f : Nat) (pl : Int32) : Nat := smN (fun s => if bcF (nI s) = pl ∧ cN A n f s = true then FF (cN A n) n s * GG (cN A n) n (s ||| 2 ^ f) else 0) (2 ^ n)
def owN (A : Nat → Int32) (n a b : Nat) : Nat := smN (fun s => if s.testBit a = true ∧ cN A n b s = true then FF (cN A n) n s * GG (cN A n) n (s ||| 2 ^ b) else 0) (2 ^ n)
theorem oa_nI {A : Nat → Int32} {n f : Nat} {pl : Int32} (hf : f < n) : ∀ s, s ≤ 2 ^ n → oaF A (ctO A n) (ctB A n) f pl s = nI (smN (fun s => if bcF (nI s) = pl ∧ cN A n f s = true then FF (cN A n) n s * GG (cN A n) n (s ||| 2 ^ f) else 0) s)
  | 0, _ => rfl
  | s + 1, hs => by
    have ec : cN A n f s = cfB A f (nI s) := by unfold cN; rw [dT ⟨hf, by omega⟩, Bool.true_and]
    rw [oaF, smN, oa_nI hf s (by omega), ctO_nI, ctB_nI, ec, nI_mul, nI_add]
    split
    · rfl
    · rfl
theorem ow_nI {A : Nat → Int32} {n a b : Nat} (hn : n ≤ 8) (ha : a < n) (hb : b < n) : ∀ s, s ≤ 2 ^ n → owF A (ctO A n) (ctB A n) a b s = nI (smN (fun s => if s.testBit a = true ∧ cN A n b s = true then FF (cN A n) n s * GG (cN A n) n (s ||| 2 ^ b) else 0) s)
  | 0, _ => rfl
  | s + 1, hs => by
    have hp := p2_le hn
    have ec : cN A n b s = cfB A b (nI s) := by unfold cN; rw [dT ⟨hb, by omega⟩, Bool.true_and]
    rw [owF, smN, ow_nI hn ha hb s (by omega), ctO_nI, ctB_nI, ec, nI_mul, nI_add, hsB_tb (by omega) (by omega)]
    split
    · rfl
    · rfl
/-- bounds -/
def fc : Nat → Nat
  | 0 => 1
  | n + 1 => (n + 1) * fc n
def msN (n q : Nat) : Nat := smN (fun j => if q.testBit j = true then 0 else 1) n
theorem ms_or {n q j : Nat} (hj : j < n) (h : q.testBit j = false) : msN n (q ||| 2 ^ j) + 1 = msN n q := by
  unfold msN
  rw [← smN_up (F := fun i => if (q ||| 2 ^ j).testBit i = true then 0 else 1) (a := j) (c := 1) n hj]
  refine smN_cong n (fun i _ => ?_)
  rw [Nat.testBit_or, Nat.testBit_two_pow]
  by_cases e : i = j
  · subst e; rw [h]; simp
  · have : ¬ j = i := fun w => e w.symm
    rw [if_neg e, dF this, Bool.or_false]
    rfl
theorem ms_le {n q : Nat} : msN n q ≤ n := by
  have := smN_le (F := fun j => if q.testBit j = true then 0 else 1) (G := fun _ => 1) n (fun j _ => by split <;> omega)
  rw [smN_c] at this
  unfold msN; omega
theorem all_tb {n j : Nat} : (2 ^ n - 1).testBit j = decide (j < n) := Nat.testBit_two_pow_sub_one n j
theorem GG_le {c : Nat → Nat → Bool} {n : Nat} (hc : Cn c) : ∀ k q, q < 2 ^ n → 2 ^ n - q ≤ k → GG c n q ≤ fc (msN n q)
  | 0, q, h, h2 => by omega
  | k + 1, q, h, h2 => by
    rw [GG_eq hc q h]
    by_cases e : q = 2 ^ n - 1
    · have z : smN (fun j => if c j q = true then GG c n (q ||| 2 ^ j) else 0) n = 0 := smN_z n (fun j hj => if_neg (fun w => by
        have := hc j q w
        rw [e, all_tb, dT hj] at this
        cases this))
      rw [z]
      unfold iN
      rw [if_pos e]
      have : ∀ m, 1 ≤ fc m := by
        intro m
        induction m with
        | zero => exact Nat.le_refl _
        | succ m ih => rw [fc]; exact Nat.le_trans ih (Nat.le_mul_of_pos_left _ (by omega))
      exact this _
    · unfold iN
      rw [if_neg e, Nat.zero_add]
      have s1 : smN (fun j => if c j q = true then GG c n (q ||| 2 ^ j) else 0) n ≤ smN (fun j => fc (msN n q - 1) * (if q.testBit j = true then 0 else 1)) n := by
        refine smN_le n (fun j hj => ?_)
        by_cases w : c j q = true
        · have hb := hc j q w
          have gt := or_gt hb
          have lt := or_lt h hj
          have := GG_le hc k (q ||| 2 ^ j) lt (by omega)
          have m1 := ms_or hj hb
          rw [if_pos w, hb, if_neg (by decide), Nat.mul_one, show msN n q - 1 = msN n (q ||| 2 ^ j) by omega]
          exact this
        · rw [if_neg w]; exact Nat.zero_le _
      rw [smN_mul] at s1
      have e2 : smN (fun j => if q.testBit j = true then 0 else 1) n = msN n q := rfl
      rw [e2] at s1
      refine Nat.le_trans s1 ?_
      cases hm : msN n q with
      | zero => rw [Nat.mul_zero]; exact Nat.zero_le _
      | succ m => rw [Nat.succ_sub_one, fc, Nat.mul_comm]; exact Nat.le_refl _
theorem fc8 : ∀ m, m ≤ 8 → fc m ≤ 40320 := by decide
/-- someone may come next -/
theorem nx_ex {A : Nat → Int32} {n q : Nat} (hn : n ≤ 8) (wk : WaK n A) (hq : q < 2 ^ n) (hne : q ≠ 2 ^ n - 1) : ∃ f, f < n ∧ cN A n f q = true := by
  have : ∃ f, f < n ∧ q.testBit f = false := by
    refine Classical.byContradiction fun w => hne ?_
    apply Nat.eq_of_testBit_eq
    intro j
    rw [all_tb]
    by_cases c : j < n
    · rw [dT c]
      cases hb : q.testBit j
      · exact absurd ⟨j, c, hb⟩ w
      · rfl
    · rw [dF c]
      exact Nat.testBit_lt_two_pow (Nat.lt_of_lt_of_le hq (Nat.pow_le_pow_right (by decide) (by omega)))
  obtain ⟨f0, hf0, hb0⟩ := this
  -- the one with the fewest above
  have key : ∀ m f, f < n → q.testBit f = false → pcN 8 (A f).toNatClampNeg ≤ m → ∃ f, f < n ∧ cN A n f q = true := by
    intro m
    induction m with
    | zero =>
      intro f hf hb hm
      refine ⟨f, hf, (cN_iff hn wk hf hq).mpr ⟨hb, fun k hk hs => ?_⟩⟩
      exfalso
      obtain ⟨u, hu, eu, ku⟩ := wk f (by omega)
      rw [eu, nI_clamp (by omega)] at hm
      rw [eu, hsB_tb hu (by omega)] at hs
      have : ∀ t, k < t → 1 ≤ pcN t u := by
        intro t
        induction t with
        | zero => intro h; omega
        | succ t ih =>
          intro h
          rw [pcN]
          by_cases e : k = t
          · subst e; rw [hs]; simp
          · have := ih (by omega); omega
      have := this 8 (by omega)
      omega
    | succ m IH =>
      intro f hf hb hm
      by_cases c : cN A n f q = true
      · exact ⟨f, hf, c⟩
      · have : ∃ k, k < n ∧ hsB (A f) k = true ∧ q.testBit k = false := by
          refine Classical.byContradiction fun w => c ((cN_iff hn wk hf hq).mpr ⟨hb, fun k hk hs => ?_⟩)
          cases hb2 : q.testBit k
          · exact absurd ⟨k, hk, hs, hb2⟩ w
          · rfl
        obtain ⟨k, hk, hs, hb2⟩ := this
        refine IH k hk hb2 ?_
        obtain ⟨u, hu, eu, ku⟩ := wk f (by omega)
        obtain ⟨v, hv, ev, kv⟩ := wk k (by omega)
        rw [eu, nI_clamp (by omega)] at hm
        rw [ev, nI_clamp (by omega)]
        rw [eu, hsB_tb hu (by omega)] at hs
        have sub := (ku k hs).2.2.2
        have sub2 : ∀ j, v.testBit j = true → u.testBit j = true := by
          intro j hj
          have hjn := (kv j hj).1
          exact sub j (by omega) (by rw [ev, hsB_tb hv (by omega)]; exact hj)
        have nv : v.testBit k = false := by
          cases hb3 : v.testBit k
          · rfl
          · exact absurd rfl (kv k hb3).2.2.1
        have : ∀ t, k < t → pcN t v + 1 ≤ pcN t u := by
          intro t
          induction t with
          | zero => intro h; omega
          | succ t ih =>
            intro h
            rw [pcN, pcN]
            by_cases e : k = t
            · subst e
              rw [hs, nv]
              have := pc_lt sub2 k
              simp
              omega
            · have := ih (by omega)
              cases hb4 : v.testBit t
              · simp; omega
              · rw [sub2 t hb4]; simp; omega
        have := this 8 (by omega)
        omega
  exact key _ f0 hf0 hb0 (Nat.le_refl _)
theorem smN_ge {F : Nat → Nat} {a : Nat} : ∀ n, a < n → F a ≤ smN F n
  | 0, h => by omega
  | n + 1, h => by
    rw [smN]
    by_cases e : a = n
    · subst e; omega
    · have := smN_ge (F := F) n (show a < n by omega); omega
theorem GG_1 {A : Nat → Int32} {n : Nat} (hn : n ≤ 8) (wk : WaK n A) : ∀ k q, q < 2 ^ n → 2 ^ n - q ≤ k → 1 ≤ GG (cN A n) n q
  | 0, q, h, h2 => by omega
  | k + 1, q, h, h2 => by
    have hc := cN_Cn (A := A) hn
    rw [GG_eq hc q h]
    by_cases e : q = 2 ^ n - 1
    · unfold iN; rw [if_pos e]; omega
    · obtain ⟨f, hf, cf⟩ := nx_ex hn wk h e
      have gt := or_gt (hc f q cf)
      have lt := or_lt h hf
      have := GG_1 hn wk k (q ||| 2 ^ f) lt (by omega)
      have s := smN_ge (F := fun j => if cN A n j q = true then GG (cN A n) n (q ||| 2 ^ j) else 0) n hf
      rw [if_pos cf] at s
      omega
/-- every order has b somewhere -/
theorem th_b {A : Nat → Int32} {n b : Nat} (hn : n ≤ 8) (hb : b < n) : smN (fun s => if cN A n b s = true then FF (cN A n) n s * GG (cN A n) n (s ||| 2 ^ b) else 0) (2 ^ n) = GG (cN A n) n 0 := by
  have hc := cN_Cn (A := A) hn
  have e := FG_cut (n := n) hc (fun s => !s.testBit b) (by show (!(2 ^ n - 1).testBit b) = false; rw [all_tb, dT hb]; rfl)
  have z : smN (fun t => smN (fun j => if cN A n j t = true ∧ (!t.testBit b) = false ∧ (!(t ||| 2 ^ j).testBit b) = true then FF (cN A n) n t * GG (cN A n) n (t ||| 2 ^ j) else 0) n) (2 ^ n) = 0 := by
    refine smN_z _ (fun t _ => smN_z _ (fun j _ => if_neg ?_))
    rintro ⟨-, h1, h2⟩
    rw [Nat.testBit_or] at h2
    cases ht : t.testBit b
    · rw [ht] at h1; cases h1
    · rw [ht] at h2; cases h2
  rw [z, Nat.add_zero, if_pos (by show (!(0 : Nat).testBit b) = true; rw [Nat.zero_testBit]; rfl)] at e
  rw [← e]
  refine smN_cong _ (fun t _ => ?_)
  rw [smN_one (a := b) n hb (fun j _ hj => if_neg ?_)]
  · by_cases k : cN A n b t = true
    · have := hc b t k
      rw [if_pos k, if_pos ⟨k, by rw [this]; rfl, by rw [Nat.testBit_or, Nat.testBit_two_pow, dT rfl, Bool.or_true]; rfl⟩]
    · rw [if_neg k, if_neg (fun w => k w.1)]
  · rintro ⟨-, h1, h2⟩
    rw [Nat.testBit_or, Nat.testBit_two_pow, dF (show ¬ j = b from hj), Bool.or_false] at h2
    rw [h2] at h1
    cases h1
/-- a above b, counted at either -/
theorem th_ab {A : Nat → Int32} {n a b : Nat} (hn : n ≤ 8) (ha : a < n) (hb : b < n) (hab : a ≠ b) : owN A n a b = smN (fun s => if s.testBit b = false ∧ cN A n a s = true then FF (cN A n) n s * GG (cN A n) n (s ||| 2 ^ a) else 0) (2 ^ n) := by
  have hc := cN_Cn (A := A) hn
  have e := FG_cut (n := n) hc (fun s => s.testBit a && !s.testBit b) (by show ((2 ^ n - 1).testBit a && !(2 ^ n - 1).testBit b) = false; rw [all_tb, all_tb, dT hb, Bool.not_true, Bool.and_false])
  rw [if_neg (by show ¬ ((0 : Nat).testBit a && !(0 : Nat).testBit b) = true; rw [Nat.zero_testBit, Bool.false_and]; decide), Nat.zero_add] at e
  have l : owN A n a b = smN (fun t => smN (fun j => if cN A n j t = true ∧ (t.testBit a && !t.testBit b) = true ∧ ((t ||| 2 ^ j).testBit a && !(t ||| 2 ^ j).testBit b) = false then FF (cN A n) n t * GG (cN A n) n (t ||| 2 ^ j) else 0) n) (2 ^ n) := by
    unfold owN
    refine smN_cong _ (fun t _ => ?_)
    rw [smN_one (a := b) n hb (fun j _ hj => if_neg ?_)]
    · by_cases k : cN A n b t = true
      · have k1 := hc b t k
        by_cases k2 : t.testBit a = true
        · rw [if_pos ⟨k2, k⟩, if_pos ⟨k, by rw [k1, k2]; rfl, by rw [Nat.testBit_or, Nat.testBit_or, Nat.testBit_two_pow, Nat.testBit_two_pow, dT rfl, Bool.or_true, Bool.not_true, Bool.and_false]⟩]
        · rw [if_neg (fun w => k2 w.1), if_neg (fun w => k2 (and3 w.2.1).1)]
      · rw [if_neg (fun w => k w.2), if_neg (fun w => k w.1)]
    · rintro ⟨-, h1, h2⟩
      obtain ⟨h3, h4⟩ := and3 h1
      rw [Nat.testBit_or, Nat.testBit_or, Nat.testBit_two_pow, Nat.testBit_two_pow, dF (show ¬ j = b from hj), Bool.or_false, h3, h4, Bool.true_or] at h2
      cases h2
  have r : smN (fun s => if s.testBit b = false ∧ cN A n a s = true then FF (cN A n) n s * GG (cN A n) n (s ||| 2 ^ a) else 0) (2 ^ n) = smN (fun t => smN (fun j => if cN A n j t = true ∧ (t.testBit a && !t.testBit b) = false ∧ ((t ||| 2 ^ j).testBit a && !(t ||| 2 ^ j).testBit b) = true then FF (cN A n) n t * GG (cN A n) n (t ||| 2 ^ j) else 0) n) (2 ^ n) := by
    refine smN_cong _ (fun t _ => ?_)
    rw [smN_one (a := a) n ha (fun j _ hj => if_neg ?_)]
    · by_cases k : cN A n a t = true
      · have k1 := hc a t k
        by_cases k2 : t.testBit b = false
        · rw [if_pos ⟨k2, k⟩, if_pos ⟨k, by rw [k1]; rfl, by rw [Nat.testBit_or, Nat.testBit_or, Nat.testBit_two_pow, Nat.testBit_two_pow, dT rfl, dF hab, Bool.or_true, k2]; rfl⟩]
        · rw [if_neg (fun w => k2 w.1), if_neg]
          rintro ⟨-, -, w⟩
          have := (and3 w).2
          rw [Nat.testBit_or] at this
          cases hh : t.testBit b
          · exact k2 hh
          · rw [hh] at this; cases this
      · rw [if_neg (fun w => k w.2), if_neg (fun w => k w.1)]
    · rintro ⟨-, h1, h2⟩
      obtain ⟨h3, h4⟩ := and3 h2
      rw [Nat.testBit_or, Nat.testBit_two_pow, dF (show ¬ j = a from hj), Bool.or_false] at h3
      rw [Nat.testBit_or] at h4
      rw [h3] at h1
      cases hh : t.testBit b
      · rw [hh] at h1; cases h1
      · rw [hh] at h4; cases h4
  rw [l, r]
  exact e
/-- the reference's orders with a above b -/
def cR (A : Nat → Int32) (n a b i q : Nat) : Bool := cN A n i q && (!decide (i = b) || q.testBit a)
theorem cR_Cn {A : Nat → Int32} {n a b : Nat} (hn : n ≤ 8) : Cn (cR A n a b) := fun i q h => cN_Cn hn i q (and3 h).1
theorem cR_b {A : Nat → Int32} {n a b : Nat} (hn : n ≤ 8) (hb : b < n) : ∀ k q, q < 2 ^ n → 2 ^ n - q ≤ k → q.testBit b = true → GG (cR A n a b) n q = GG (cN A n) n q
  | 0, q, h, h2, _ => by omega
  | k + 1, q, h, h2, hq => by
    rw [GG_eq (cR_Cn hn) q h, GG_eq (cN_Cn hn) q h]
    congr 1
    refine smN_cong n (fun j hj => ?_)
    by_cases c : cN A n j q = true
    · have hb2 := cN_Cn hn j q c
      have hjb : j ≠ b := fun w => by rw [w, hq] at hb2; cases hb2
      have c2 : cR A n a b j q = true := by unfold cR; rw [c, dF hjb]; rfl
      have gt := or_gt hb2
      have lt := or_lt h hj
      rw [if_pos c, if_pos c2]
      exact cR_b hn hb k (q ||| 2 ^ j) lt (by omega) (by rw [Nat.testBit_or, hq]; rfl)
    · rw [if_neg c, if_neg (show ¬ cR A n a b j q = true from fun w => c (and3 w).1)]
theorem cR_ow {A : Nat → Int32} {n a b : Nat} (hn : n ≤ 8) (ha : a < n) (hb : b < n) (hab : a ≠ b) : GG (cR A n a b) n 0 = owN A n a b := by
  have hc := cN_Cn (A := A) hn
  have hc' := cR_Cn (A := A) (a := a) (b := b) hn
  have h0 := Nat.two_pow_pos n
  have e := FF_w (n := n) hc (GG (cR A n a b) n)
  have e2 : smN (fun q => FF (cN A n) n q * GG (cR A n a b) n q) (2 ^ n) = FF (cN A n) n (2 ^ n - 1) + smN (fun t => smN (fun j => if cR A n a b j t = true then FF (cN A n) n t * GG (cR A n a b) n (t ||| 2 ^ j) else 0) n) (2 ^ n) := by
    have e3 : smN (fun q => FF (cN A n) n q * iN (2 ^ n - 1) q) (2 ^ n) = FF (cN A n) n (2 ^ n - 1) := by
      rw [smN_one (a := 2 ^ n - 1) (2 ^ n) (by omega) (fun j _ hj => by unfold iN; rw [if_neg hj, Nat.mul_zero])]
      unfold iN; rw [if_pos rfl, Nat.mul_one]
    rw [← e3, ← smN_add]
    refine smN_cong _ (fun q hq => ?_)
    rw [GG_eq hc' q hq, Nat.mul_add, ← smN_mul]
    congr 1
    refine smN_cong n (fun j _ => ?_)
    by_cases k : cR A n a b j q = true
    · rw [if_pos k, if_pos k]
    · rw [if_neg k, if_neg k, Nat.mul_zero]
  have s1 : smN (fun t => smN (fun j => if cN A n j t = true then FF (cN A n) n t * GG (cR A n a b) n (t ||| 2 ^ j) else 0) n) (2 ^ n) = smN (fun t => smN (fun j => if cR A n a b j t = true then FF (cN A n) n t * GG (cR A n a b) n (t ||| 2 ^ j) else 0) n) (2 ^ n) + smN (fun t => if t.testBit a = false ∧ cN A n b t = true then FF (cN A n) n t * GG (cN A n) n (t ||| 2 ^ b) else 0) (2 ^ n) := by
    rw [← smN_add]
    refine smN_cong _ (fun t ht => ?_)
    have s2 : (if t.testBit a = false ∧ cN A n b t = true then FF (cN A n) n t * GG (cN A n) n (t ||| 2 ^ b) else 0) = smN (fun j => if j = b ∧ t.testBit a = false ∧ cN A n b t = true then FF (cN A n) n t * GG (cN A n) n (t ||| 2 ^ b) else 0) n := by
      rw [smN_one (a := b) n hb (fun j _ hj => if_neg (fun w => hj w.1))]
      by_cases k : t.testBit a = false ∧ cN A n b t = true
      · rw [if_pos k, if_pos ⟨rfl, k⟩]
      · rw [if_neg k, if_neg (fun w => k w.2)]
    rw [s2, ← smN_add]
    refine smN_cong _ (fun j hj => ?_)
    by_cases k : cN A n j t = true
    · rw [if_pos k]
      by_cases kb : j = b
      · subst kb
        by_cases ka : t.testBit a = true
        · rw [if_pos (by unfold cR; rw [k, ka, Bool.or_true]; rfl), if_neg (fun w => by rw [ka] at w; cases w.2.1)]; rfl
        · have ka' : t.testBit a = false := by simpa using ka
          rw [if_neg (fun w => by unfold cR at w; rw [k, dT rfl, ka'] at w; cases w), if_pos ⟨rfl, ka', k⟩, Nat.zero_add]
          rw [cR_b hn hb (2 ^ n) _ (or_lt ht hb) (by omega) (by rw [Nat.testBit_or, Nat.testBit_two_pow, dT rfl, Bool.or_true])]
      · rw [if_pos (by unfold cR; rw [k, dF kb]; rfl), if_neg (fun w => kb w.1)]; rfl
    · rw [if_neg k, if_neg (show ¬ cR A n a b j t = true from fun w => k (and3 w).1), if_neg (fun w => k (by rw [w.1]; exact w.2.2))]
  have t := th_b (A := A) hn hb
  have s3 : smN (fun s => if cN A n b s = true then FF (cN A n) n s * GG (cN A n) n (s ||| 2 ^ b) else 0) (2 ^ n) = owN A n a b + smN (fun t => if t.testBit a = false ∧ cN A n b t = true then FF (cN A n) n t * GG (cN A n) n (t ||| 2 ^ b) else 0) (2 ^ n) := by
    unfold owN
    rw [← smN_add]
    refine smN_cong _ (fun s _ => ?_)
    cases s.testBit a <;> cases cN A n b s <;> simp
  have fg := FG (c := cN A n) (n := n) hc
  rw [e2, s1] at e
  omega
theorem cR_wo {A : Nat → Int32} {n a b : Nat} (hn : n ≤ 8) (ha : a < n) (hb : b < n) (hab : a ≠ b) : GG (cR A n b a) n 0 + owN A n a b = GG (cN A n) n 0 := by
  rw [cR_ow hn hb ha (fun w => hab w.symm), th_ab hn ha hb hab, ← th_b hn ha]
  unfold owN
  rw [← smN_add]
  refine smN_cong _ (fun s _ => ?_)
  cases s.testBit b <;> cases cN A n a s <;> simp
