/-! the reference: seats -/
theorem gA1 {xs : List Int32} {x : Int32} {i : Nat} (h : i < xs.length) : (xs ++ [x]).getD i 0 = xs.getD i 0 := by
  rw [List.getD_eq_getElem?_getD, List.getD_eq_getElem?_getD, List.getElem?_append_left h]
theorem gA2 {xs : List Int32} {x : Int32} {i : Nat} (h : xs.length = i) : (xs ++ [x]).getD i 0 = x := by
  rw [List.getD_eq_getElem?_getD, List.getElem?_append_right (by omega), h, Nat.sub_self]; rfl
def StS (h : Hp) (n L p base j : Nat) (H : Hp) : Prop := RdF h H base ∧ ((∃ q xs, TxM H 0 n L q ∧ q ≤ L ∧ Gd (mT h 0) n L 1 p j q xs ∧ ∀ i, 2 * i < j → H.1 45 0 (base + i) = xs.getD (2 * i) 0) ∨ Bd (mT h 0) n L 1 p H)
theorem ss_ok {h H : Hp} {n L p base j q i : Nat} {xs : List Int32} (f : RdF h H base) (t : TxM H 0 n L q) (hL : L ≤ 80) (g : Gd (mT h 0) n L 1 p j q xs) (v : ∀ i, 2 * i < j → H.1 45 0 (base + i) = xs.getD (2 * i) 0) (hj : j < 5) (hi : j = 2 * i) (h1 : ¬ (rdP (mT h 0) n L (chS 1 j) q).1 = -(nI 1)) (h2 : (rdP (mT h 0) n L (chS 1 j) q).2 ≤ L) : StS h n L p base (j + 1) (sX (sAM H (rdP (mT h 0) n L (chS 1 j) q).2) 45 0 (base + i) (rdP (mT h 0) n L (chS 1 j) q).1) := by
  refine ⟨(f.fld (Or.inl rfl)).sto (by omega), Or.inl ⟨_, _, (t.at (by omega)).sto, h2, gd_s g hj h1, fun i' hi' => ?_⟩⟩
  rw [rdX]
  have hl := g.1
  by_cases c : i' = i
  · subst c
    rw [if_pos (by simp), gA2 (by omega)]
  · rw [if_neg (by simp; omega), rdX, if_neg (by simp), v i' (by omega), gA1 (by omega)]
theorem ss_c {h H : Hp} {n L p base j q i : Nat} {xs : List Int32} (f : RdF h H base) (t : TxM H 0 n L q) (hL : L ≤ 80) (g : Gd (mT h 0) n L 1 p j q xs) (v : ∀ i, 2 * i < j → H.1 45 0 (base + i) = xs.getD (2 * i) 0) (hj : j < 5) (hi : j = 2 * i + 1) (h1 : ¬ (rdP (mT h 0) n L (chS 1 j) q).1 = -(nI 1)) (h2 : (rdP (mT h 0) n L (chS 1 j) q).2 ≤ L) : StS h n L p base (j + 1) (sAM H (rdP (mT h 0) n L (chS 1 j) q).2) := by
  refine ⟨f.fld (Or.inl rfl), Or.inl ⟨_, _, t.at (by omega), h2, gd_s g hj h1, fun i' hi' => ?_⟩⟩
  have hl := g.1
  rw [rdX, if_neg (by simp), v i' (by omega), gA1 (by omega)]
theorem ss_f {h H : Hp} {n L p base j q e : Nat} {xs : List Int32} (f : RdF h H base) (he : e ≤ L) (g : Gd (mT h 0) n L 1 p j q xs) (hj : j < 5) (h1 : (rdP (mT h 0) n L (chS 1 j) q).1 = -(nI 1)) (h2 : (rdP (mT h 0) n L (chS 1 j) q).2 = e) : StS h n L p base (j + 1) (sX H 12 0 15 (nI e)) := by
  obtain ⟨e1, e2⟩ := gd_f g hj h1
  refine ⟨f.fld (Or.inr rfl), Or.inr ⟨e2, by omega, ?_⟩⟩
  rw [rdX, if_pos (by simp), e1, h2]
theorem StS.bs {h H : Hp} {n L p base j i : Nat} {x : Int32} (f : RdF h H base) (b : Bd (mT h 0) n L 1 p H) : StS h n L p base j (sX H 45 0 (base + i) x) := ⟨f.sto (by omega), Or.inr b.sto⟩
theorem ch1 : chS 1 0 = nI 112 ∧ chS 1 1 = nI 44 ∧ chS 1 2 = nI 110 ∧ chS 1 3 = nI 44 ∧ chS 1 4 = nI 100 := by decide
theorem rdP_c {T : Nat → Int32} {n L p : Nat} : rdP T n L (nI 44) p = if pk T n L p = nI 44 then (nI 0, p + 1) else (-(nI 1), p) := by
  unfold rdP
  rw [if_neg (by decide), if_neg (by decide), if_neg (by decide), if_neg (by decide), if_neg (by decide), if_neg (by decide)]
  unfold tkS
  by_cases c : pk T n L p = nI 44
  · rw [if_pos c, if_pos c, if_pos rfl]
  · rw [if_neg c, if_neg c, if_neg (show ¬ (false, p).1 = true from Bool.false_ne_true)]
theorem c_ssNeed {k n L p base j i : Nat} {h H : Hp} (s : StS h n L p base j H) (hL : L ≤ 80) (hj : j < 5) (hi : j = 2 * i + 1) (hc : chS 1 j = nI 44) : Ct alM mX12_need (k + 2) [vR 12 0, vI (nI 44)] H (fun _ H' => StS h n L p base (j + 1) H') := by
  obtain ⟨f, ⟨q, xs, t, hq, g, v⟩ | b⟩ := s
  · refine ct_post (c_mneed t) ?_
    rw [f.row]
    rintro w H' rfl
    have e : rdP (mT h 0) n L (chS 1 j) q = if pk (mT h 0) n L q = nI 44 then (nI 0, q + 1) else (-(nI 1), q) := by rw [hc, rdP_c]
    by_cases c : pk (mT h 0) n L q = nI 44
    · rw [if_pos c] at e
      rw [if_pos c]
      have hq2 := pkP (show pk (mT h 0) n L q ≠ -(nI 1) by rw [c]; decide)
      have := ss_c f t hL g v hj hi (by rw [e]; exact nI_nm1 (j := 0) (by omega)) (by rw [e]; show q + 1 ≤ L; omega)
      rw [e] at this
      exact this
    · rw [if_neg c] at e
      rw [if_neg c]
      exact ss_f f hq g hj (by rw [e]) (by rw [e])
  · refine ct_post (c_mneedN (b.nf hL)) ?_
    rintro w H' rfl
    exact ⟨f, Or.inr b⟩
theorem c_ssNum {k n L p base j i : Nat} {h H : Hp} (s : StS h n L p base j H) (hL : L ≤ 80) (hj : j < 5) (hi : j = 2 * i) (hP : ∀ q, rdP (mT h 0) n L (chS 1 j) q = tkN (mT h 0) n L 2 q) : Ct alM mX12_number (k + 3) [vR 12 0, vI (nI 2)] H (fun v H' => ∃ y, v = vI y ∧ StS h n L p base (j + 1) (sX H' 45 0 (base + i) y)) := by
  obtain ⟨f, ⟨q, xs, t, hq, g, v⟩ | b⟩ := s
  · refine ct_post (c_mnumber t (by omega) (by omega)) ?_
    rw [f.row]
    unfold nuP
    rw [← hP q]
    rintro w H' (⟨h1, rfl, rfl⟩ | ⟨h1, rfl, rfl⟩)
    · obtain ⟨f', b' | b'⟩ := ss_f (base := base) f hq g hj h1 (by rw [hP q] at h1 ⊢; exact tkN_p (by omega) (by omega) h1)
      · exfalso
        obtain ⟨q', xs', t', -⟩ := b'
        have := t'.2.2.2.2.2.1
        rw [rdX, if_pos (by simp)] at this
        exact nI_nm1 (by omega) this
      · exact ⟨_, rfl, StS.bs f' b'⟩
    · refine ⟨_, rfl, ?_⟩
      exact ss_ok f t hL g v hj hi h1 (by rw [hP q]; exact tkN_le hq)
  · refine ct_post (c_mnumberN (b.nf hL)) ?_
    rintro w H' ⟨rfl, rfl⟩
    exact ⟨_, rfl, StS.bs f b⟩
theorem c_ssOne {k n L p base : Nat} {h H : Hp} (s : StS h n L p base 4 H) (hL : L ≤ 80) : Ct alM mX12_oneOf (k + 2) [vR 12 0, vI (nI 48), vI (nI 10)] H (fun v H' => ∃ y, v = vI y ∧ StS h n L p base 5 (sX H' 45 0 (base + 2) y)) := by
  obtain ⟨-, -, -, -, k4⟩ := ch1
  have hP : ∀ q, rdP (mT h 0) n L (chS 1 4) q = ooD (mT h 0) n L 48 10 q := fun q => by rw [k4, rdP_d]; rfl
  obtain ⟨f, ⟨q, xs, t, hq, g, v⟩ | b⟩ := s
  · refine ct_post (c_moneOf (a := 48) (m := 10) t (by omega) (by omega) (by omega)) ?_
    rw [f.row, ← hP q]
    rintro w H' (⟨h1, rfl, rfl⟩ | ⟨h1, rfl, rfl, h2⟩)
    · obtain ⟨f', b' | b'⟩ := ss_f (base := base) f hq g (by omega) h1 (by
        rw [hP q] at h1 ⊢
        unfold ooD at h1 ⊢
        exact tkD_p h1 (by decide) (nI_le (by omega) (by omega)))
      · exfalso
        obtain ⟨q', xs', t', -⟩ := b'
        have := t'.2.2.2.2.2.1
        rw [rdX, if_pos (by simp)] at this
        exact nI_nm1 (by omega) this
      · exact ⟨_, rfl, StS.bs f' b'⟩
    · refine ⟨_, rfl, ?_⟩
      have e0 : (rdP (mT h 0) n L (chS 1 4) q).1 - nI (48 - 48) = (rdP (mT h 0) n L (chS 1 4) q).1 := Int32.sub_zero _
      rw [e0]
      have hq1 : q + 1 ≤ L := by
        refine Classical.byContradiction fun w => h1 ?_
        rw [hP q]
        have : pk (mT h 0) n L q = -(nI 1) := by unfold pk; rw [if_neg (by omega)]
        unfold ooD
        rw [tkD_inN this (by omega)]
      have := ss_ok f t hL g v (by omega) (show 4 = 2 * 2 by omega) h1 (by omega)
      rw [h2] at this
      exact this
  · refine ct_post (c_moneOfN (b.nf hL)) ?_
    rintro w H' ⟨rfl, rfl⟩
    exact ⟨_, rfl, StS.bs f b⟩
def CoS (f : Nat → Int32) (ls : List (List Int32)) : Prop := ∀ i l, ls[i]? = some l → ∀ j, j < 3 → f (3 * i + j) = l.getD (2 * j) 0
theorem CoS.sn {f f' : Nat → Int32} {ls : List (List Int32)} {l : List Int32} (c : CoS f ls) (e : ∀ i, i < 3 * ls.length → f' i = f i) (e2 : ∀ j, j < 3 → f' (3 * ls.length + j) = l.getD (2 * j) 0) : CoS f' (ls ++ [l]) := by
  intro i x hi j hj
  by_cases h : i < ls.length
  · rw [List.getElem?_append_left h] at hi
    rw [e _ (by omega)]
    exact c i x hi j hj
  · rw [List.getElem?_append_right (by omega)] at hi
    have hl := (List.getElem?_eq_some_iff.mp hi).1
    simp at hl
    have : i = ls.length := by omega
    subst this
    rw [Nat.sub_self] at hi
    cases hi
    exact e2 j hj
theorem c_seatRd {k t n p : Nat} {h : Hp} {P : AV → Hp → Prop} (tx : TxM h 0 n 76 p) (hp : p ≤ 76) (ht : t < 8) (K : ∀ H, StS h n 76 p (3 * t) 5 H → WP alM mX12_seats (k + 5) P 143 [some (vR 12 0), some (vI (nI t)), none, none] [] H) : WP alM mX12_seats (k + 5) P 57 [some (vR 12 0), some (vI (nI t)), none, none] [] h := by
  obtain ⟨k0, k1, k2, k3, k4⟩ := ch1
  have i0 : nI 3 * nI t = nI (3 * t) := nI_mul 3 t
  have i1 : ∀ j, nI 3 * nI t + nI j = nI (3 * t + j) := fun j => n3j
  have W119 : ∀ H, StS h n 76 p (3 * t) 3 H → WP alM mX12_seats (k + 5) P 119 [some (vR 12 0), some (vI (nI t)), none, none] [] H := by
    intro H s
    refine wp_at tX12_seats [(143, [true, true, false, false])] 40 119 okM kX12_seats ⟨_, c_ssNeed (i := 1) s (by omega) (by omega) (by omega) k3, ?_⟩
    rintro v H1 s1
    refine ⟨_, c_ssOne s1 (by omega), ?_⟩
    rintro v H2 ⟨y, rfl, s2⟩
    refine ⟨by rw [i1]; exact ix1 40 (by omega), ?_⟩
    rw [i1, nI_clamp (by omega)]
    exact K _ s2
  have W98 : ∀ H, StS h n 76 p (3 * t) 1 H → WP alM mX12_seats (k + 5) P 98 [some (vR 12 0), some (vI (nI t)), none, none] [] H := by
    intro H s
    refine wp_at tX12_seats [(119, [true, true, false, false])] 40 98 okM kX12_seats ⟨_, c_ssNeed (i := 0) s (by omega) (by omega) (by omega) k1, ?_⟩
    rintro v H1 s1
    refine ⟨_, c_ssNum (i := 1) s1 (by omega) (by omega) (by omega) (fun q => by rw [k2, rdP_n]), ?_⟩
    rintro v H2 ⟨y, rfl, s2⟩
    refine ⟨by rw [i1]; exact ix1 40 (by omega), ?_⟩
    rw [i1, nI_clamp (by omega)]
    exact W119 _ s2
  have f0 : RdF h h (3 * t) := ⟨Fm.rf, fun _ _ => rfl⟩
  have hP : rdP (mT h 0) n 76 (chS 1 0) p = rnF (mT h 0) n 76 p := by rw [k0, rdP_p]
  have g0 := gd_0 (T := mT h 0) (n := n) (L := 76) (fm := 1) (p := p)
  refine wp_at tX12_seats [(98, [true, true, false, false])] 60 57 okM kX12_seats ⟨_, c_mnumber tx (by omega) (by omega), ?_⟩
  rintro v H1 (⟨h1, rfl, rfl⟩ | ⟨h1, rfl, rfl⟩)
  · have e : rnF (mT h 0) n 76 p = tkN (mT h 0) n 76 2 p := by unfold rnF; rw [if_neg (by rw [h1]; decide)]
    have s := ss_f (base := 3 * t) f0 hp g0 (by omega) (by rw [hP, e]; exact h1) (by rw [hP, e]; exact tkN_p (by omega) (by omega) h1)
    obtain ⟨f', b' | b'⟩ := s
    · exfalso
      obtain ⟨q', xs', t', -⟩ := b'
      have := t'.2.2.2.2.2.1
      rw [rdX, if_pos (by simp)] at this
      exact nI_nm1 (by omega) this
    · have s2 := StS.bs (j := 1) (i := 0) (x := nI 0) f' b'
      refine ⟨by rw [i0]; exact ix1 40 (by omega), ?_⟩
      rw [i0, nI_clamp (by omega)]
      refine ⟨_, c_mfine, ?_⟩
      rw [dF (b'.sto.nf (by omega))]
      rintro v H2 ⟨rfl, rfl⟩
      exact ⟨fun _ => W98 _ s2, fun c => absurd rfl c⟩
  · obtain ⟨w, hw, ew⟩ := tkN_0 (by omega) h1
    have q1 := (tkN_in h1).2
    refine ⟨by rw [i0]; exact ix1 40 (by omega), ?_⟩
    rw [i0, nI_clamp (by omega)]
    refine ⟨_, c_mfine, ?_⟩
    have e15 : ∀ q x, (sX (sAM h q) 45 0 (3 * t) x).1 12 0 15 = -(nI 1) := fun q x => by rw [rdX, if_neg (by simp), rdX, if_neg (by simp)]; exact tx.2.2.2.2.2.1
    have e45 : ∀ q x, (sX (sAM h q) 45 0 (3 * t) x).1 45 0 (3 * t) = x := fun q x => by rw [rdX, if_pos (by simp)]
    have e14 : ∀ q x, (sX (sAM h q) 45 0 (3 * t) x).1 12 0 14 = nI q := fun q x => by rw [rdX, if_neg (by simp), rdX, if_pos (by simp)]
    rw [dT (e15 _ _)]
    rintro v H2 ⟨rfl, rfl⟩
    refine ⟨fun c => absurd c (by decide), fun _ => ⟨by rw [i0]; exact ix1 40 (by omega), ?_⟩⟩
    rw [i0, nI_clamp (by omega), e45]
    refine ⟨fun c => ?_, fun c => ⟨_, c_mfault, ?_⟩⟩
    · have c' : ¬ (tkN (mT h 0) n 76 2 p).1 = 0 := c
      have e : rnF (mT h 0) n 76 p = tkN (mT h 0) n 76 2 p := by unfold rnF; rw [if_neg c']
      have s := ss_ok (base := 3 * t) (i := 0) f0 tx (by omega) g0 (fun i hi => by omega) (by omega) rfl (by rw [hP, e]; exact h1) (by rw [hP, e]; exact q1.2.1)
      rw [hP, e] at s
      exact W98 _ s
    · have c' : (tkN (mT h 0) n 76 2 p).1 = 0 := nn c
      have e : rnF (mT h 0) n 76 p = (-(nI 1), (tkN (mT h 0) n 76 2 p).2 - 1) := by unfold rnF; rw [if_pos c']
      rw [if_pos (e15 _ _), e14, pk_sub (by omega)]
      rintro v H2 rfl
      obtain ⟨g1, g2⟩ := gd_f g0 (by omega) (by rw [hP, e])
      rw [hP, e] at g1
      refine W98 _ ⟨((f0.fld (Or.inl rfl)).sto (by omega)).fld (Or.inr rfl), Or.inr ⟨g2, by rw [g1]; show (tkN (mT h 0) n 76 2 p).2 - 1 ≤ 76; omega, ?_⟩⟩
      rw [rdX, if_pos (by simp), g1]
theorem m_Seats {B k : Nat} {h : Hp} {g : GS} {R' E' : Nat → Nat → Int32} (a : MI B h g) (z : Sz g) (hR : ∀ p, p < 5 → R' p = gR g p) (ra : RAg (gE g) E' (gM g) (lnG g 1).2) : Ct alM mX12_seats (k + 5) [vR 12 0] h (fun v h' => v = vI (aSeats g) ∧ MI (B + 1) h' (nSeats g R' E')) := by
  have hn := z.2.1
  have a0 := a.fld (j := 10) (x := nI 0) (by decide)
  obtain ⟨h0, hh0⟩ : ∃ h0, sX h 12 0 10 (nI 0) = h0 := ⟨_, rfl⟩
  rw [hh0] at a0
  have e7 : h0.1 12 0 7 = nI (gTn g) := a0.2.2.2.1.1
  have hn80 : gTn g ≤ 80 := z.2.2.1
  have hb := a0.2.2.2.1.2.1
  have hT := a0.2.2.2.1.2.2
  refine ct_vc tX12_seats [(5, [true, false, false, false])] 20 okM kX12_seats rfl ?_
  show WP alM mX12_seats (k + 5) _ 5 [some (vR 12 0), none, none, none] [] (sX h 12 0 10 (nI 0))
  rw [hh0]
  refine wp_at tX12_seats [(24, [true, true, true, false])] 40 5 okM kX12_seats ⟨_, c_beginText e7, ?_⟩
  rintro v h1 rfl
  obtain ⟨h1, hh1⟩ : ∃ h1, h1 = sX (bgH h0 0 (nI (gTn g)) (nI 76)) 12 0 7 (nI 0) := ⟨_, rfl⟩
  rw [← hh1]
  have t1 : TxM h1 0 (gTn g) 76 0 := by
    rw [hh1]
    exact (bgH_t (r := 0) (L := 76) (by omega) (by simpa using hn80) (by omega) hb).fld (by omega)
  have T1 : mT h1 0 = mT h0 0 := by rw [hh1, mT_f, bgH_T]
  have f1 : Fm [] [7, 12, 13, 14, 15] h0 h1 := by
    rw [hh1]
    exact (bgH_f Fm.rf (by simp) (by simp) (by simp) (by simp)).sF (by simp)
  have e71 : h1.1 12 0 7 = nI 0 := by rw [hh1, rdX, if_pos (by simp)]
  have a1 : ∀ T, MI (B + 1) h1 (uT g (0, T)) := fun T => (a0.up (Nat.le_succ B)).txt f1 (by simp [scI]) e71
  have eL : rdLs (mT h1 0) (gTn g) 76 1 (8 - gM g) 0 = lnG g 1 := by
    rw [T1]
    exact rdLs_cg (pk_cgT hT) _ _
  refine ⟨fun c => ?_, fun c => ?_⟩
  · have c' : ¬ gTn g = 0 := fun w => c (by rw [t1.2.2.1, w]; rfl)
    have qN : (lnG g 1).2 = none → aSeats g = -(nI 1) - nI (lnG g 1).1 ∧ nSeats g R' E' = uT (uE (uR g (gN g, R')) (gM g, E')) (0, gT g) := by
      intro hN
      unfold aSeats nSeats
      rw [if_neg c', if_neg c', hN]
      exact ⟨rfl, rfl⟩
    have qS : ∀ ls, (lnG g 1).2 = some ls → aSeats g = nI ls.length ∧ nSeats g R' E' = uK (uP (uT (uE (uR g (gN g, R')) (gM g + ls.length, E')) (0, gT g)) []) noK := by
      intro ls hS
      unfold aSeats nSeats
      rw [if_neg c', if_neg c', hS]
      exact ⟨rfl, rfl⟩
    -- the end: a fault
    have BAD : ∀ (t : Nat) H, Fm [(45, 0)] [14, 15] h1 H → (lnG g 1).2 = none → H.1 12 0 15 = nI (lnG g 1).1 → MI (B + 1) H (nSeats g R' E') ∧ vI (-(nI 1) - H.1 12 0 15) = vI (aSeats g) ∧ t = t := by
      intro t H fm hN e15
      rw [(qN hN).1, (qN hN).2, e15]
      refine ⟨?_, rfl, rfl⟩
      have := (a1 (gT g)).scr fm (by simp [scA]) (by simp [scI])
      exact this.with (S := []) (F := []) (fun _ _ _ _ => rfl) (fun _ _ => rfl) ⟨rfl, rfl⟩ (Or.inl ⟨by simp, by simp, rfl, rfl⟩) (Or.inr ⟨this.2.1.1, fun j hj p hp => (by show H.1 41 0 (4 * j + p) = R' p j; rw [hR p (by omega)]; exact this.2.1.2 j hj p hp)⟩) (Or.inr ⟨this.2.2.1.1, fun j hj p hp => (by show H.1 42 0 (3 * j + p) = E' (2 * p) j; rw [ra.1 (2 * p) (by omega) j hj]; exact this.2.2.1.2 j hj p hp)⟩) (Or.inl ⟨by simp, by simp, rfl⟩) (Or.inl ⟨rfl, by simp, rfl⟩) (Or.inl ⟨by simp, by simp, by simp, rfl⟩) (Or.inl ⟨by simp, by simp, rfl⟩) (Or.inl ⟨by simp, by simp, by simp, by simp, rfl⟩) (Or.inl ⟨by simp, by simp, rfl⟩) (Or.inl ⟨by simp, by simp, by simp, rfl⟩)
    have EN : ∀ t H, Fm [(45, 0)] [14, 15] h1 H → (lnG g 1).2 = none → (lnG g 1).1 ≤ 76 → H.1 12 0 15 = nI (lnG g 1).1 → WP alM mX12_seats (k + 5) (fun v h' => v = vI (aSeats g) ∧ MI (B + 1) h' (nSeats g R' E')) 156 [some (vR 12 0), some (vI (nI t)), none, none] [] H := by
      intro t H fm hN hle e15
      obtain ⟨b1, b2, -⟩ := BAD t H fm hN e15
      refine wp_at tX12_seats [] 20 156 okM kX12_seats ⟨_, c_wasRightN (by rw [e15]; exact nI_nm1 (by omega)), ?_⟩
      rintro v H1 ⟨rfl, rfl⟩
      exact ⟨fun w => absurd rfl w, fun _ => ⟨b2, b1⟩⟩
    have EY : ∀ q t ls H, Fm [(45, 0)] [14, 15] h1 H → TxM H 0 (gTn g) 76 q → q ≤ 76 → ((gTn g ≤ q ∧ (lnG g 1).2 = some ls ∧ ls.length = t ∧ gM g + t ≤ 8 ∧ CoS (H.1 45 0) ls) ∨ (¬ gTn g ≤ q ∧ (lnG g 1).1 = q ∧ (lnG g 1).2 = none)) → WP alM mX12_seats (k + 5) (fun v h' => v = vI (aSeats g) ∧ MI (B + 1) h' (nSeats g R' E')) 156 [some (vR 12 0), some (vI (nI t)), none, none] [] H := by
      intro q t ls H fm tx hq cs
      refine wp_at tX12_seats [(172, [true, true, false, true])] 30 156 okM kX12_seats ⟨_, c_wasRightY tx.2.2.2.2.2.1 tx.2.2.2.2.1 tx.2.2.1 (by omega) (by omega), ?_⟩
      rintro v H1 ⟨rfl, rfl⟩
      rcases cs with ⟨w, hS, hl, h8, co⟩ | ⟨w, hE, hN⟩
      · rw [dT w, if_pos w]
        refine ⟨fun _ => ?_, fun c => absurd (by decide) c⟩
        obtain ⟨q1, q2⟩ := qS ls hS
        rw [hS] at ra
        have ra2 := ra.2 ls rfl
        have M1 := a1 (gT g)
        have n3 : H.1 12 0 3 = nI (gM g) := by rw [fm.2.2.2 3 (by simp)]; exact M1.2.2.1.1
        have K : ∀ m, m ≤ 3 * t → ∀ H2, Fm [(42, 0)] [] H H2 → (∀ j, j < 3 * gM g → H2.1 42 0 j = H.1 42 0 j) → (∀ j, j < m → H2.1 42 0 (3 * gM g + j) = H.1 45 0 j) → WP alM mX12_seats (k + 5) (fun v h' => v = vI (aSeats g) ∧ MI (B + 1) h' (nSeats g R' E')) 172 [some (vR 12 0), some (vI (nI t)), none, some (vI (nI m))] [] H2 := by
          refine loop_up (3 * t) ?_ (fun m hm ih => ?_)
          · intro H2 fm2 e1 e2
            refine wp_at tX12_seats [] 30 172 okM kX12_seats ⟨fun _ => ⟨_, c_told, ?_⟩, fun c => absurd (by rw [nI_mul]; exact nI_le (Nat.le_refl _) (by omega)) c⟩
            have e3 : H2.1 12 0 3 = nI (gM g) := by rw [fm2.2.2.2 3 (by simp)]; exact n3
            rw [e3, nI_add]
            rintro v H3 rfl
            rw [q1, q2, hl]
            refine ⟨rfl, ?_⟩
            obtain ⟨H3, hH3⟩ : ∃ H3, H3 = sX (sX (sX H2 12 0 3 (nI (gM g + t))) 12 0 23 (nI 0)) 12 0 45 ((sX H2 12 0 3 (nI (gM g + t))).1 12 0 45 + nI 1) := ⟨_, rfl⟩
            rw [← hH3]
            have fmH : Fm [(45, 0), (42, 0)] [14, 15] h1 H2 := (fm.mo (by simp) (by simp)).tr fm2 (by simp) (by simp)
            have fm3 : Fm [(45, 0), (42, 0)] [14, 15, 3, 23, 45] h1 H3 := by rw [hH3]; exact (((fmH.mo (by simp) (by simp)).sF (by simp)).sF (by simp)).sF (by simp)
            have r3 : ∀ kk ii, (kk, ii) ≠ (12, 0) → H3.1 kk ii = H2.1 kk ii := fun kk ii hk => by rw [hH3, sX_row, if_neg (fun w => hk (by rw [w.1, w.2])), sX_row, if_neg (fun w => hk (by rw [w.1, w.2])), sX_row, if_neg (fun w => hk (by rw [w.1, w.2]))]
            refine M1.with (S := [(45, 0), (42, 0)]) (F := [14, 15, 3, 23, 45]) fm3.2.2.1 fm3.2.2.2 ⟨fm3.2.1 3 (by decide), fm3.2.1 4 (by decide)⟩ (Or.inl ⟨by decide, by decide, rfl, rfl⟩) (Or.inr ⟨?_, fun j hj p hp => ?_⟩) (Or.inr ⟨?_, fun j hj p hp => ?_⟩) (Or.inl ⟨by decide, by decide, rfl⟩) (Or.inl ⟨fm3.1, by decide, rfl⟩) (Or.inl ⟨by decide, by decide, by decide, rfl⟩) (Or.inr ⟨?_, fun j s hj => ?_⟩) (Or.inr ?_) (Or.inl ⟨by decide, by decide, rfl⟩) (Or.inl ⟨by decide, by decide, by decide, rfl⟩)
            · rw [fm3.2.2.2 1 (by simp)]; exact M1.2.1.1
            · show H3.1 41 0 (4 * j + p) = R' p j
              rw [hR p (by omega), fm3.2.2.1 41 0 (by simp) (by simp)]
              exact M1.2.1.2 j hj p hp
            · rw [hH3, rdX, if_neg (by simp), rdX, if_neg (by simp), rdX, if_pos (by simp)]
            · show H3.1 42 0 (3 * j + p) = E' (2 * p) j
              have hj' : j < gM g + t := hj
              rw [r3 42 0 (by simp)]
              by_cases w3 : j < gM g
              · rw [e1 _ (by omega), fm.2.2.1 42 0 (by simp) (by simp), ra.1 (2 * p) (by omega) j w3]
                exact M1.2.2.1.2 j w3 p hp
              · obtain ⟨j', rfl⟩ : ∃ j', j = gM g + j' := ⟨j - gM g, by omega⟩
                obtain ⟨l, hlm⟩ : ∃ l, ls[j']? = some l := ⟨ls[j']'(by omega), List.getElem?_eq_getElem (by omega)⟩
                rw [show 3 * (gM g + j') + p = 3 * gM g + (3 * j' + p) by omega, e2 _ (by omega), co j' l hlm p hp, ra2 (2 * p) (by omega) j' l hlm]
            · rw [hH3, rdX, if_neg (by simp), rdX, if_pos (by simp)]; rfl
            · have hj' : ([] : List Sta)[j]? = some s := hj
              simp at hj'
            · refine m8_up (h := h0) (g := g) a0.2.2.2.2.2.2.2.1 ?_ ?_ ?_ rfl
              · rw [hH3, rdX, if_pos (by simp), rdX, if_neg (by simp), fmH.2.2.2 45 (by simp), f1.2.2.2 45 (by simp)]
              · rw [fm3.2.2.1 59 0 (by simp) (by simp), f1.2.2.1 59 0 (by simp) (by simp)]
              · rw [fm3.2.2.1 60 0 (by simp) (by simp), f1.2.2.1 60 0 (by simp) (by simp)]
          · intro H2 fm2 e1 e2
            rw [← nI_add m 1] at ih
            have e3 : H2.1 12 0 3 = nI (gM g) := by rw [fm2.2.2.2 3 (by simp)]; exact n3
            have e45 : H2.1 45 0 = H.1 45 0 := fm2.2.2.1 45 0 (by simp) (by simp)
            have i3 : nI 3 * H2.1 12 0 3 + nI m = nI (3 * gM g + m) := by rw [e3]; exact n3j
            refine wp_at tX12_seats [(172, [true, true, false, true])] 40 172 okM kX12_seats ⟨fun c => absurd c (by rw [nI_mul]; exact nI_ge hm (by omega)), fun _ => ⟨ix1 40 (by omega), by rw [i3]; exact ix1 24 (by omega), ?_⟩⟩
            rw [i3, nI_clamp (by omega), nI_clamp (by omega), e45]
            refine ih _ (fm2.sX (by simp) (by decide)) (fun j hj => ?_) (fun j hj => ?_)
            · rw [rdX, if_neg (by simp; omega)]; exact e1 j hj
            · rw [rdX]
              by_cases w3 : j = m
              · subst w3; rw [if_pos (by simp)]
              · rw [if_neg (by simp; omega)]; exact e2 j (by omega)
        exact K 0 (Nat.zero_le _) H Fm.rf (fun _ _ => rfl) (fun j hj => by omega)
      · rw [dF w, if_neg w]
        obtain ⟨b1, b2, -⟩ := BAD t (sX H 12 0 15 (nI q)) (fm.sF (by simp)) hN (by rw [rdX, if_pos (by simp), hE])
        exact ⟨fun c => absurd rfl c, fun _ => ⟨b2, b1⟩⟩
    have L : ∀ r t p ls0 H, t + r = 8 - gM g → Fm [(45, 0)] [14, 15] h1 H → TxM H 0 (gTn g) 76 p → p ≤ 76 → Lg (mT h1 0) (gTn g) 76 1 (8 - gM g) t p ls0 → CoS (H.1 45 0) ls0 → WP alM mX12_seats (k + 5) (fun v h' => v = vI (aSeats g) ∧ MI (B + 1) h' (nSeats g R' E')) 24 [some (vR 12 0), some (vI (nI t)), some (vI (nI 1)), none] [] H := by
      intro r
      induction r with
      | zero =>
        intro t p ls0 H ht fm tx hp lg co
        obtain rfl : t = 8 - gM g := by omega
        obtain ⟨l1, l2⟩ := lg_f lg
        rw [eL] at l1 l2
        have n1 : H.1 12 0 3 = nI (gM g) := by rw [fm.2.2.2 3 (by simp)]; exact (a1 (gT g)).2.2.1.1
        refine wp_at tX12_seats [(156, [true, true, false, false])] 60 24 okM kX12_seats ⟨fun c => absurd c (by decide), fun _ => ⟨_, c_mfine, ?_⟩⟩
        rintro v H1 ⟨rfl, rfl⟩
        rw [dT tx.2.2.2.2.2.1]
        refine ⟨fun c => absurd c (by decide), fun _ => ⟨fun c => absurd ?_ c, fun _ => ⟨_, c_mfault, ?_⟩⟩⟩
        · rw [n1, nI_add, show gM g + (8 - gM g) = 8 by omega]
        · rw [if_pos tx.2.2.2.2.2.1, tx.2.2.2.2.1]
          rintro v H2 rfl
          have e15 : (sX H1 12 0 15 (nI p)).1 12 0 15 = nI p := by rw [rdX, if_pos (by simp)]
          refine ⟨_, c_mpassesN (by rw [e15]; exact nI_nm1 (by omega)), ?_⟩
          rintro v H3 ⟨rfl, rfl⟩
          have := EN (8 - gM g + 1) (sX H1 12 0 15 (nI p)) (fm.sF (by simp)) l2 (by omega) (by rw [e15, l1])
          rw [← nI_add _ 1] at this
          exact ⟨fun _ => this, fun c => absurd rfl c⟩
      | succ r IH =>
        intro t p ls0 H ht fm tx hp lg co
        have n1 : H.1 12 0 3 = nI (gM g) := by rw [fm.2.2.2 3 (by simp)]; exact (a1 (gT g)).2.2.1.1
        have TH : mT H 0 = mT h1 0 := mT_cg (fm.2.2.1 43 0 (by simp) (by simp))
        have hl0 := lg.1
        refine wp_at tX12_seats [(57, [true, true, false, false])] 60 24 okM kX12_seats ⟨fun c => absurd c (by decide), fun _ => ⟨_, c_mfine, ?_⟩⟩
        rintro v H1 ⟨rfl, rfl⟩
        rw [dT tx.2.2.2.2.2.1]
        refine ⟨fun c => absurd c (by decide), fun _ => ⟨fun c => ?_, fun c => absurd (nn c) ?_⟩⟩
        · refine c_seatRd tx hp (by omega) (fun H2 st5 => ?_)
          obtain ⟨rf, st⟩ := st5
          rw [TH] at st
          have fm2 : Fm [(45, 0)] [14, 15] h1 H2 := fm.tr rf.1 (fun _ h => h) (fun _ h => h)
          rcases st with ⟨q, xs, tx2, hq, gd, hv⟩ | ⟨b1, b2, b3⟩
          · obtain ⟨d1, d2⟩ := gd_e gd
            have T2 : mT H2 0 = mT h1 0 := by rw [rf.row]; exact TH
            have co2 : CoS (H2.1 45 0) (ls0 ++ [xs]) := co.sn (fun i hi => rf.2 i (by rw [hl0] at hi; exact hi)) (fun j hj => by rw [hl0]; exact hv j (by omega))
            refine wp_at tX12_seats [(24, [true, true, true, false])] 20 143 okM kX12_seats ⟨_, c_mpasses tx2, ?_⟩
            rw [T2]
            rintro v H3 ⟨rfl, rfl⟩
            unfold tkS
            by_cases w : pk (mT h1 0) (gTn g) 76 q = nI 59
            · rw [if_pos w]
              have hq2 := pkP (show pk (mT h1 0) (gTn g) 76 q ≠ -(nI 1) by rw [w]; decide)
              have := IH (t + 1) (q + 1) (ls0 ++ [xs]) (sAM H2 (q + 1)) (by omega) (fm2.sF (by simp)) (tx2.at (by omega)) (by omega) (by
                have := lg_M lg (by omega) d2 (by rw [d1]; omega) (by rw [d1]; exact w)
                rw [d1] at this
                exact this) (by rw [sX_row, if_neg (by simp)]; exact co2)
              rw [← nI_add t 1] at this
              exact this
            · rw [if_neg w]
              show WP alM mX12_seats (k + 5) _ 24 [some (vR 12 0), some (vI (nI t + nI 1)), some (vI (nI 0)), none] [] (sAM H2 q)
              rw [sAM_same tx2]
              have := EY q (t + 1) (ls0 ++ [xs]) H2 fm2 tx2 hq (by
                by_cases w2 : gTn g ≤ q
                · obtain ⟨l1, l2⟩ := lg_E lg (by omega) d2 (by rw [d1]; exact w2)
                  rw [eL] at l2
                  exact Or.inl ⟨w2, l2, by rw [List.length_append, hl0]; rfl, by omega, co2⟩
                · obtain ⟨l1, l2⟩ := lg_X lg (by omega) d2 (by rw [d1]; exact w2) (by rw [d1]; exact w)
                  rw [eL] at l1 l2
                  exact Or.inr ⟨w2, by rw [l1, d1], l2⟩)
              rw [← nI_add t 1] at this
              exact wp_at tX12_seats [(156, [true, true, false, false])] 20 24 okM kX12_seats ⟨fun _ => this, fun c => absurd rfl c⟩
          · obtain ⟨l1, l2⟩ := lg_N lg (by omega) b1
            rw [eL] at l1 l2
            refine wp_at tX12_seats [(24, [true, true, true, false])] 20 143 okM kX12_seats ⟨_, c_mpassesN (by rw [b3]; exact nI_nm1 (by omega)), ?_⟩
            rintro v H3 ⟨rfl, rfl⟩
            have := EN (t + 1) H3 fm2 l2 (by omega) (by rw [l1]; exact b3)
            rw [← nI_add _ 1] at this
            exact wp_at tX12_seats [(156, [true, true, false, false])] 20 24 okM kX12_seats ⟨fun _ => this, fun c => absurd rfl c⟩
        · rw [n1, nI_add]
          exact fun w => absurd (nI_inj (by omega) (by omega) w) (by omega)
    exact L (8 - gM g) 0 0 [] h1 (by omega) Fm.rf t1 (by omega) lgg_0 (fun i l hi => by simp at hi)
  · have c' : gTn g = 0 := by
      have := nn c
      rw [t1.2.2.1] at this
      exact nI_inj (by omega) (by omega) this
    unfold aSeats nSeats
    rw [if_pos c', if_pos c']
    refine ⟨rfl, ?_⟩
    have := a1 (gT g)
    rw [← c'] at this
    exact this
