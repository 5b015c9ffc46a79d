/-! the reference: LINES read -/
theorem raF_cg {T T' : Nat → Int32} {n L p : Nat} (e : ∀ p, pk T n L p = pk T' n L p) : raF T n L p = raF T' n L p := by unfold raF; rw [e p]
theorem rdP_cg {T T' : Nat → Int32} {n L p : Nat} {x : Int32} (e : ∀ p, pk T n L p = pk T' n L p) : rdP T n L x p = rdP T' n L x p := by
  unfold rdP rnF tkS
  rw [raF_cg e, tkD_cg e, tkD_cg e, tkD_cg e, tkN_cg e, e p]
theorem rdLn_cg {T T' : Nat → Int32} {n L fm : Nat} (e : ∀ p, pk T n L p = pk T' n L p) : ∀ f j p, rdLn T n L fm f j p = rdLn T' n L fm f j p
  | 0, _, _ => rfl
  | f + 1, j, p => by rw [rdLn_s, rdLn_s, rdP_cg e, rdLn_cg e f]
theorem rdLs_cg {T T' : Nat → Int32} {n L fm : Nat} (e : ∀ p, pk T n L p = pk T' n L p) : ∀ r p, rdLs T n L fm r p = rdLs T' n L fm r p
  | 0, _ => rfl
  | r + 1, p => by rw [rdLs, rdLs, rdLn_cg e, e, rdLs_cg e r]
theorem pk_cgT {T T' : Nat → Int32} {n L : Nat} (e : ∀ j, j < n → T j = T' j) (p : Nat) : pk T n L p = pk T' n L p := by
  unfold pk
  by_cases c : p < n ∧ p < L
  · rw [if_pos c, if_pos c, e p c.1]
  · rw [if_neg c, if_neg c]
section
variable {T : Nat → Int32} {n L fm p : Nat}
def Gd (T : Nat → Int32) (n L fm p j q : Nat) (xs : List Int32) : Prop := xs.length = j ∧ (rdLn T n L fm 5 0 p).1 = (rdLn T n L fm (5 - j) j q).1 ∧ (rdLn T n L fm 5 0 p).2 = (rdLn T n L fm (5 - j) j q).2.map (fun l => xs ++ l)
theorem gd_0 : Gd T n L fm p 0 p [] := ⟨rfl, rfl, by
  show (rdLn T n L fm 5 0 p).2 = ((rdLn T n L fm 5 0 p).2).map (fun l => [] ++ l)
  cases (rdLn T n L fm 5 0 p).2 <;> rfl⟩
theorem gd_s {j q : Nat} {xs : List Int32} (g : Gd T n L fm p j q xs) (hj : j < 5) (h : ¬ (rdP T n L (chS fm j) q).1 = -(nI 1)) : Gd T n L fm p (j + 1) (rdP T n L (chS fm j) q).2 (xs ++ [(rdP T n L (chS fm j) q).1]) := by
  obtain ⟨g1, g2, g3⟩ := g
  rw [show 5 - j = (5 - (j + 1)) + 1 by omega, rdLn_s T n L fm (5 - (j + 1)) j q, if_neg h] at g2 g3
  refine ⟨by rw [List.length_append, g1]; rfl, g2, ?_⟩
  rw [g3]
  show Option.map _ (Option.map _ _) = _
  rw [Option.map_map]
  congr 1
  funext l
  simp
theorem gd_f {j q : Nat} {xs : List Int32} (g : Gd T n L fm p j q xs) (hj : j < 5) (h : (rdP T n L (chS fm j) q).1 = -(nI 1)) : (rdLn T n L fm 5 0 p).1 = (rdP T n L (chS fm j) q).2 ∧ (rdLn T n L fm 5 0 p).2 = none := by
  obtain ⟨g1, g2, g3⟩ := g
  rw [show 5 - j = (5 - (j + 1)) + 1 by omega, rdLn_s T n L fm (5 - (j + 1)) j q, if_pos h] at g2 g3
  exact ⟨g2, g3⟩
theorem gd_e {q : Nat} {xs : List Int32} (g : Gd T n L fm p 5 q xs) : (rdLn T n L fm 5 0 p).1 = q ∧ (rdLn T n L fm 5 0 p).2 = some xs := by
  obtain ⟨g1, g2, g3⟩ := g
  refine ⟨g2, ?_⟩
  rw [g3]
  show some (xs ++ []) = _
  rw [List.append_nil]
end
/-- what has come of a line: j parts, or a fault -/
def RdF (h H : Hp) (base : Nat) : Prop := Fm [(45, 0)] [14, 15] h H ∧ ∀ i, i < base → H.1 45 0 i = h.1 45 0 i
def Bd (T : Nat → Int32) (n L fm p : Nat) (H : Hp) : Prop := (rdLn T n L fm 5 0 p).2 = none ∧ (rdLn T n L fm 5 0 p).1 ≤ L ∧ H.1 12 0 15 = nI (rdLn T n L fm 5 0 p).1
def StM (h : Hp) (n L p base j : Nat) (H : Hp) : Prop := RdF h H base ∧ ((∃ q xs, TxM H 0 n L q ∧ q ≤ L ∧ Gd (mT h 0) n L 0 p j q xs ∧ ∀ i, i < j → H.1 45 0 (base + i) = xs.getD i 0) ∨ Bd (mT h 0) n L 0 p H)
theorem RdF.row {h H : Hp} {base : Nat} (f : RdF h H base) : mT H 0 = mT h 0 := mT_cg (f.1.2.2.1 43 0 (by simp) (by simp))
theorem RdF.sto {h H : Hp} {base j : Nat} {x : Int32} (f : RdF h H base) (hj : base ≤ j) : RdF h (sX H 45 0 j x) base := ⟨f.1.sX (by simp) (by decide), fun i hi => by rw [rdX, if_neg (by simp; omega)]; exact f.2 i hi⟩
theorem RdF.fld {h H : Hp} {base j : Nat} {x : Int32} (f : RdF h H base) (hj : j = 14 ∨ j = 15) : RdF h (sX H 12 0 j x) base := ⟨f.1.sF (by simp; omega), fun i hi => by rw [rdX, if_neg (by simp)]; exact f.2 i hi⟩
theorem TxM.sto {h : Hp} {r n L p j : Nat} {x : Int32} (t : TxM h r n L p) : TxM (sX h 45 0 j x) r n L p := by
  obtain ⟨q1, q2, q3, q4, q5, q6, q7, q8, q9, q10⟩ := t
  refine ⟨q1, q2, ?_, ?_, ?_, ?_, q7, q8, q9, fun i => ?_⟩
  · rw [rdX, if_neg (by simp)]; exact q3
  · rw [rdX, if_neg (by simp)]; exact q4
  · rw [rdX, if_neg (by simp)]; exact q5
  · rw [rdX, if_neg (by simp)]; exact q6
  · rw [sX_row, if_neg (by simp)]; exact q10 i
theorem Bd.sto {T : Nat → Int32} {n L fm p j : Nat} {H : Hp} {x : Int32} (b : Bd T n L fm p H) : Bd T n L fm p (sX H 45 0 j x) := ⟨b.1, b.2.1, by rw [rdX, if_neg (by simp)]; exact b.2.2⟩
theorem Bd.nf {T : Nat → Int32} {n L fm p : Nat} {H : Hp} (hL : L ≤ 80) (b : Bd T n L fm p H) : ¬ H.1 12 0 15 = -(nI 1) := by rw [b.2.2]; exact nI_nm1 (by have := b.2.1; omega)
/-- a part that is read and stored -/
theorem st_ok {h H : Hp} {n L p base j q : Nat} {xs : List Int32} (f : RdF h H base) (t : TxM H 0 n L q) (hL : L ≤ 80) (g : Gd (mT h 0) n L 0 p j q xs) (v : ∀ i, i < j → H.1 45 0 (base + i) = xs.getD i 0) (hj : j < 5) (h1 : ¬ (rdP (mT h 0) n L (chS 0 j) q).1 = -(nI 1)) (h2 : (rdP (mT h 0) n L (chS 0 j) q).2 ≤ L) : StM h n L p base (j + 1) (sX (sAM H (rdP (mT h 0) n L (chS 0 j) q).2) 45 0 (base + j) (rdP (mT h 0) n L (chS 0 j) q).1) := by
  refine ⟨(f.fld (Or.inl rfl)).sto (by omega), Or.inl ⟨_, _, (t.at (by omega)).sto, h2, gd_s g hj h1, fun i hi => ?_⟩⟩
  rw [rdX]
  have hl := g.1
  by_cases c : i = j
  · subst c
    rw [if_pos (by simp)]
    rw [List.getD_eq_getElem?_getD, List.getElem?_append_right (by omega), hl, Nat.sub_self]
    rfl
  · rw [if_neg (by simp; omega), rdX, if_neg (by simp), v i (by omega), List.getD_eq_getElem?_getD, List.getD_eq_getElem?_getD, List.getElem?_append_left (by omega)]
theorem st_f {h H : Hp} {n L p base j q : Nat} {xs : List Int32} {x : Int32} (f : RdF h H base) (hq : q ≤ L) (g : Gd (mT h 0) n L 0 p j q xs) (hj : j < 5) (h1 : (rdP (mT h 0) n L (chS 0 j) q).1 = -(nI 1)) (h2 : (rdP (mT h 0) n L (chS 0 j) q).2 = q) : StM h n L p base (j + 1) (sX (sX H 12 0 15 (nI q)) 45 0 (base + j) x) := by
  obtain ⟨e1, e2⟩ := gd_f g hj h1
  refine ⟨(f.fld (Or.inr rfl)).sto (by omega), Or.inr ⟨e2, by omega, ?_⟩⟩
  rw [rdX, if_neg (by simp), rdX, if_pos (by simp), e1, h2]
theorem st_b {h H : Hp} {n L p base j : Nat} {x : Int32} (f : RdF h H base) (b : Bd (mT h 0) n L 0 p H) : StM h n L p base (j + 1) (sX H 45 0 (base + j) x) := ⟨f.sto (by omega), Or.inr b.sto⟩
theorem ch0 : chS 0 0 = nI 97 ∧ chS 0 1 = nI 43 ∧ chS 0 2 = nI 43 ∧ chS 0 3 = nI 111 ∧ chS 0 4 = nI 110 := by decide
theorem tkD_p {T : Nat → Int32} {n L p : Nat} {lo hi : Int32} (h : (tkD T n L lo hi p).1 = -(nI 1)) (hlo : ¬ -(nI 1) < -(nI 1) + nI 0) (h0 : nI 0 ≤ lo) : (tkD T n L lo hi p).2 = p := by
  unfold tkD at h ⊢
  split
  · rfl
  next c =>
    rw [if_neg c] at h
    exfalso
    apply c
    left
    have h : pk T n L p - nI 48 = -(nI 1) := h
    rw [h]
    exact Int32.lt_of_lt_of_le (by decide) h0
theorem c_stOne {k n L p base j a m : Nat} {h H : Hp} {F : Int32 → Int32} (s : StM h n L p base j H) (hL : L ≤ 80) (hj : j < 5) (ha : 48 ≤ a) (ha2 : a + m ≤ 60) (hm1 : 1 ≤ m) (hP : ∀ q, rdP (mT h 0) n L (chS 0 j) q = ooD (mT h 0) n L a m q) (hF : ∀ x, F (x - nI (a - 48)) = x) : Ct alM mX12_oneOf (k + 2) [vR 12 0, vI (nI a), vI (nI m)] H (fun v H' => ∃ y, v = vI y ∧ StM h n L p base (j + 1) (sX H' 45 0 (base + j) (F y))) := by
  obtain ⟨f, ⟨q, xs, t, hq, g, v⟩ | b⟩ := s
  · refine ct_post (c_moneOf t ha ha2 hm1) ?_
    rw [f.row, ← hP q]
    rintro w H' (⟨h1, rfl, rfl⟩ | ⟨h1, rfl, rfl, h2⟩)
    · refine ⟨_, rfl, st_f f hq g hj h1 ?_⟩
      rw [hP q] at h1 ⊢
      unfold ooD at h1 ⊢
      exact tkD_p h1 (by decide) (nI_le (by omega) (by omega))
    · refine ⟨_, rfl, ?_⟩
      rw [hF]
      have hq1 : q + 1 ≤ L := by
        refine Classical.byContradiction fun w => h1 ?_
        rw [hP q]
        have : pk (mT h 0) n L q = -(nI 1) := by unfold pk; rw [if_neg (by omega)]
        unfold ooD
        rw [tkD_inN this (by omega)]
      have := st_ok f t hL g v hj h1 (by omega)
      rw [h2] at this
      exact this
  · refine ct_post (c_moneOfN (b.nf hL)) ?_
    rintro w H' ⟨rfl, rfl⟩
    exact ⟨_, rfl, st_b f b⟩
theorem c_stNum {k n L p base j : Nat} {h H : Hp} (s : StM h n L p base j H) (hL : L ≤ 80) (hj : j < 5) (hP : ∀ q, rdP (mT h 0) n L (chS 0 j) q = tkN (mT h 0) n L 2 q) : Ct alM mX12_number (k + 3) [vR 12 0, vI (nI 2)] H (fun v H' => ∃ y, v = vI y ∧ StM h n L p base (j + 1) (sX H' 45 0 (base + j) y)) := by
  obtain ⟨f, ⟨q, xs, t, hq, g, v⟩ | b⟩ := s
  · refine ct_post (c_mnumber t (by omega) (by omega)) ?_
    rw [f.row]
    unfold nuP
    rw [← hP q]
    rintro w H' (⟨h1, rfl, rfl⟩ | ⟨h1, rfl, rfl⟩)
    · refine ⟨_, rfl, st_f f hq g hj h1 ?_⟩
      rw [hP q] at h1 ⊢
      exact tkN_p (by omega) (by omega) h1
    · refine ⟨_, rfl, ?_⟩
      exact st_ok f t hL g v hj h1 (by rw [hP q]; exact tkN_le hq)
  · refine ct_post (c_mnumberN (b.nf hL)) ?_
    rintro w H' ⟨rfl, rfl⟩
    exact ⟨_, rfl, st_b f b⟩
theorem c_armsBy {k : Nat} {h : Hp} {x : Int32} : Ct alM mX12_armsBy k [vI x] h (Rd h (arF x)) := by
  refine ct_vc tX12_armsBy [] 40 okM kX12_armsBy rfl ?_
  unfold arF
  refine ⟨fun c1 => ⟨fun c2 => ⟨fun c3 => ⟨fun c4 => ?_, fun c4 => ?_⟩, fun c3 => ?_⟩, fun c2 => ?_⟩, fun c1 => ?_⟩
  · rw [if_neg c1, if_neg c2, if_neg c3, if_neg c4]; exact ⟨rfl, rfl⟩
  · rw [if_neg c1, if_neg c2, if_neg c3, if_pos (nn c4)]; exact ⟨rfl, rfl⟩
  · rw [if_neg c1, if_neg c2, if_pos (nn c3)]; exact ⟨rfl, rfl⟩
  · rw [if_neg c1, if_pos (nn c2)]; exact ⟨rfl, rfl⟩
  · rw [if_pos (nn c1)]; exact ⟨rfl, rfl⟩
theorem c_readMan {k n L p base : Nat} {h : Hp} (t : TxM h 0 n L p) (hL : L ≤ 80) (hp : p ≤ L) (hb : base + 5 ≤ 40) : Ct alM mX12_readMan (k + 4) [vR 12 0, vI (nI base)] h (fun _ H => StM h n L p base 5 H) := by
  obtain ⟨k0, k1, k2, k3, k4⟩ := ch0
  let P : AV → Hp → Prop := fun _ H => StM h n L p base 5 H
  have ib : ∀ i, i < 5 → nI base + nI i = nI (base + i) := fun i _ => nI_add _ _
  have W92 : ∀ H, StM h n L p base 4 H → WP alM mX12_readMan (k + 4) P 92 [some (vR 12 0), some (vI (nI base))] [] H := by
    intro H s
    refine wp_at tX12_readMan [] 20 92 okM kX12_readMan ⟨_, c_stNum s hL (by omega) (fun q => by rw [k4, rdP_n]), ?_⟩
    rintro v H' ⟨y, rfl, s'⟩
    refine ⟨by rw [ib 4 (by omega)]; exact ix1 40 (by omega), ?_⟩
    rw [ib 4 (by omega), nI_clamp (by omega)]
    exact s'
  have W77 : ∀ H, StM h n L p base 3 H → WP alM mX12_readMan (k + 4) P 77 [some (vR 12 0), some (vI (nI base))] [] H := by
    intro H s
    refine wp_at tX12_readMan [(92, [true, true])] 20 77 okM kX12_readMan ⟨_, c_stOne (a := 48) (m := 4) (F := fun x => x) s hL (by omega) (by omega) (by omega) (by omega) (fun q => by rw [k3, rdP_o]; rfl) (fun x => Int32.sub_zero x), ?_⟩
    rintro v H' ⟨y, rfl, s'⟩
    refine ⟨by rw [ib 3 (by omega)]; exact ix1 40 (by omega), ?_⟩
    rw [ib 3 (by omega), nI_clamp (by omega)]
    exact W92 _ s'
  have e1 : ∀ x : Int32, x - nI (49 - 48) + nI 1 = x := fun x => Int32.sub_add_cancel x (nI 1)
  have W59 : ∀ H, StM h n L p base 2 H → WP alM mX12_readMan (k + 4) P 59 [some (vR 12 0), some (vI (nI base))] [] H := by
    intro H s
    refine wp_at tX12_readMan [(77, [true, true])] 20 59 okM kX12_readMan ⟨_, c_stOne (a := 49) (m := 9) (F := fun x => x + nI 1) s hL (by omega) (by omega) (by omega) (by omega) (fun q => by rw [k2, rdP_1]; rfl) e1, ?_⟩
    rintro v H' ⟨y, rfl, s'⟩
    refine ⟨by rw [ib 2 (by omega)]; exact ix1 40 (by omega), ?_⟩
    rw [ib 2 (by omega), nI_clamp (by omega)]
    exact W77 _ s'
  have W41 : ∀ H, StM h n L p base 1 H → WP alM mX12_readMan (k + 4) P 41 [some (vR 12 0), some (vI (nI base))] [] H := by
    intro H s
    refine wp_at tX12_readMan [(59, [true, true])] 20 41 okM kX12_readMan ⟨_, c_stOne (a := 49) (m := 9) (F := fun x => x + nI 1) s hL (by omega) (by omega) (by omega) (by omega) (fun q => by rw [k1, rdP_1]; rfl) e1, ?_⟩
    rintro v H' ⟨y, rfl, s'⟩
    refine ⟨by rw [ib 1 (by omega)]; exact ix1 40 (by omega), ?_⟩
    rw [ib 1 (by omega), nI_clamp (by omega)]
    exact W59 _ s'
  have f0 : RdF h h base := ⟨Fm.rf, fun _ _ => rfl⟩
  have hP0 : rdP (mT h 0) n L (chS 0 0) p = raF (mT h 0) n L p := by rw [k0, rdP_a]
  refine ct_vc tX12_readMan [(31, [true, true])] 20 okM kX12_readMan rfl ⟨_, c_mhere t, ?_⟩
  rintro v h1 ⟨rfl, rfl⟩
  refine ⟨_, c_armsBy, ?_⟩
  rintro v h1 ⟨rfl, rfl⟩
  refine ⟨ix1 40 (by omega), ix1 40 (by omega), ?_⟩
  rw [nI_clamp (by omega)]
  have e45 : ∀ x, (sX h1 45 0 base x).1 45 0 base = x := fun x => by rw [rdX, if_pos (by simp)]
  rw [e45]
  have e14 : ∀ x, (sX h1 45 0 base x).1 12 0 14 = nI p := fun x => by rw [rdX, if_neg (by simp)]; exact t.2.2.2.2.1
  have e15 : ∀ x, (sX h1 45 0 base x).1 12 0 15 = -(nI 1) := fun x => by rw [rdX, if_neg (by simp)]; exact t.2.2.2.2.2.1
  refine ⟨fun c => ?_, fun c => ?_⟩
  · have c' : ¬ arF (pk (mT h1 0) n L p) = -(nI 1) := c
    have e : raF (mT h1 0) n L p = (arF (pk (mT h1 0) n L p), p + 1) := by unfold raF; rw [if_neg c']
    have hp1 : p + 1 ≤ L := by
      refine Classical.byContradiction fun w => c' ?_
      have : pk (mT h1 0) n L p = -(nI 1) := by unfold pk; rw [if_neg (by omega)]
      rw [this]; decide
    have := st_ok (base := base) f0 t hL (gd_0 (T := mT h1 0) (fm := 0)) (fun i hi => by omega) (by omega) (by rw [hP0, e]; exact c') (by rw [hP0, e]; exact hp1)
    rw [hP0, e, Nat.add_zero] at this
    refine wp_at tX12_readMan [(41, [true, true])] 20 31 okM kX12_readMan ?_
    have w : WP alM mX12_readMan (k + 4) P 41 [some (vR 12 0), some (vI (nI base))] [] (sX (sAM h1 (p + 1)) 45 0 base (arF (pk (mT h1 0) n L p))) := W41 _ this
    have hh : sX (sX h1 45 0 base (arF (pk (mT h1 0) n L p))) 12 0 14 ((sX h1 45 0 base (arF (pk (mT h1 0) n L p))).1 12 0 14 + nI 1) = sX (sAM h1 (p + 1)) 45 0 base (arF (pk (mT h1 0) n L p)) := by
      rw [e14, nI_add]
      refine hp_eq (fun k' i' => ?_) rfl
      simp only [sX_row]
      by_cases c1 : k' = 12 ∧ i' = 0
      · obtain ⟨rfl, rfl⟩ := c1; simp
      · by_cases c2 : k' = 45 ∧ i' = 0
        · obtain ⟨rfl, rfl⟩ := c2; simp
        · simp [c1, c2]
    rw [← hh] at w
    exact w
  · have c' : arF (pk (mT h1 0) n L p) = -(nI 1) := nn c
    have e : raF (mT h1 0) n L p = (-(nI 1), p) := by unfold raF; rw [if_pos c']
    obtain ⟨g1, g2⟩ := gd_f (gd_0 (T := mT h1 0) (n := n) (L := L) (fm := 0) (p := p)) (by omega) (by rw [hP0, e])
    rw [hP0, e] at g1
    refine ⟨_, c_mfault, ?_⟩
    rw [if_pos (e15 _), e14]
    rintro v h2 rfl
    refine wp_at tX12_readMan [(41, [true, true])] 20 31 okM kX12_readMan ?_
    refine W41 _ ⟨((f0.sto (by omega)).fld (Or.inr rfl)).fld (Or.inl rfl), Or.inr ⟨g2, by omega, ?_⟩⟩
    rw [rdX, if_neg (by simp), rdX, if_pos (by simp), g1]
