/-! who is spared, by FAVOUR; what the states keep to -/
theorem bsN_mo {p q : Nat → Bool} (h : ∀ j, p j = true → q j = true) (n j : Nat) (hj : (bsN p n).testBit j = true) : (bsN q n).testBit j = true := by
  rw [bsN_tb] at hj ⊢
  obtain ⟨h1, h2⟩ := and3 hj
  rw [h1, h j h2]; rfl
theorem rN_mo {FL : Nat → Int32} {hm n u u' : Nat} (hu : u < 256) (hu' : u' < 256) (h : ∀ j, u.testBit j = true → u'.testBit j = true) (j : Nat) (hj : (rN FL hm n u).testBit j = true) : (rN FL hm n u').testBit j = true := by
  unfold rN at hj ⊢
  rw [Nat.testBit_or] at hj ⊢
  rcases or3 hj with q | q
  · rw [h j q]; rfl
  · have : (bsN (fun j => !decide (FL j = 0) && decide (FL j ≤ bcF (nI u')) && !hm.testBit j) n).testBit j = true := by
      refine bsN_mo (fun i hi => ?_) n j q
      obtain ⟨h1, h3⟩ := and3 hi
      obtain ⟨h1, h2⟩ := and3 h1
      have h2 := of_decide_eq_true h2
      rw [h1, h3]
      have p8 := pc_8 (f := 8) (u := u')
      have : bcF (nI u) ≤ bcF (nI u') := by
        rw [bc8 u hu, bc8 u' hu']
        exact nI_le (pc_lt h 8) (by omega)
      rw [dT (Int32.le_trans h2 this)]; rfl
    rw [this, Bool.or_true]
theorem itN_mo {FL : Nat → Int32} {hm n : Nat} (hn : n ≤ 8) : ∀ f u u', u < 256 → u' < 256 → (∀ j, u.testBit j = true → u'.testBit j = true) → ∀ j, (itN FL hm n f u).testBit j = true → (itN FL hm n f u').testBit j = true
  | 0, u, u', _, _, h => h
  | f + 1, u, u', hu, hu', h => itN_mo hn f _ _ (rN_lt hn hu) (rN_lt hn hu') (rN_mo hu hu' h)
theorem upN_mo {PK FL : Nat → Int32} {n a hm : Nat} {fav fav' : Int32} (hn : n ≤ 8) (ha : a < 256) (h : fav ≤ fav') (j : Nat) (hj : (upN PK FL n fav a hm).testBit j = true) : (upN PK FL n fav' a hm).testBit j = true := by
  refine itN_mo hn 8 _ _ (u0N_lt hn ha) (u0N_lt hn ha) (fun i hi => ?_) j hj
  unfold u0N at hi ⊢
  rw [Nat.testBit_or] at hi ⊢
  rcases or3 hi with q | q
  · rw [q]; rfl
  · have : (bsN (fun j => decide (PK j ≤ fav') && !hm.testBit j) n).testBit i = true := by
      refine bsN_mo (fun x hx => ?_) n i q
      obtain ⟨h1, h2⟩ := and3 hx
      rw [dT (Int32.le_trans (of_decide_eq_true h1) h), h2]; rfl
    rw [this, Bool.or_true]
/-- sums -/
def smN (f : Nat → Nat) : Nat → Nat
  | 0 => 0
  | n + 1 => smN f n + f n
theorem smF_nI {f : Nat → Int32} {F : Nat → Nat} : ∀ n, (∀ j, j < n → f j = nI (F j)) → smF f n = nI (smN F n)
  | 0, _ => rfl
  | n + 1, h => by rw [smF, smN, smF_nI n (fun j hj => h j (by omega)), h n (by omega), nI_add]
theorem smN_le {F G : Nat → Nat} : ∀ n, (∀ j, j < n → F j ≤ G j) → smN F n ≤ smN G n
  | 0, _ => Nat.le_refl _
  | n + 1, h => by
    have := smN_le n (fun j hj => h j (by omega))
    have := h n (by omega)
    rw [smN, smN]; omega
theorem smN_c {c : Nat} : ∀ n, smN (fun _ => c) n = n * c
  | 0 => (Nat.zero_mul _).symm
  | n + 1 => by rw [smN, smN_c n, Nat.succ_mul]
theorem smN_cong {F G : Nat → Nat} : ∀ n, (∀ j, j < n → F j = G j) → smN F n = smN G n
  | 0, _ => rfl
  | n + 1, h => by rw [smN, smN, smN_cong n (fun j hj => h j (by omega)), h n (by omega)]
theorem smN_up {F : Nat → Nat} {a c : Nat} : ∀ n, a < n → smN (fun j => F j + if j = a then c else 0) n = smN F n + c
  | 0, h => by omega
  | n + 1, h => by
    rw [smN, smN]
    by_cases e : n = a
    · subst e
      rw [if_pos rfl, smN_cong (G := F) n (fun j hj => by rw [if_neg (by omega)]; rfl)]
      omega
    · rw [if_neg e, smN_up n (by omega)]
      omega
theorem spG_mo {g : GS} {v v' : Nat} (hn : gM g ≤ 8) (sk : SeK (gE g) (gM g)) (hv : v ≤ v') (hv' : v' ≤ 99) (h : spG g (nI v) (nI 0) (nI 0) = true) : spG g (nI v') (nI 0) (nI 0) = true := by
  obtain ⟨PE, hPE⟩ : ∃ PE : Nat → Nat, ∀ j, j < gM g → gE g 0 j = nI (PE j) ∧ PE j ≤ 99 := by
    refine ⟨fun j => (gE g 0 j).toNatClampNeg, fun j hj => ?_⟩
    obtain ⟨⟨a, h1, h2, h3⟩, -⟩ := sk j hj
    show gE g 0 j = nI (gE g 0 j).toNatClampNeg ∧ (gE g 0 j).toNatClampNeg ≤ 99
    rw [h3, nI_clamp (by omega)]
    exact ⟨rfl, by omega⟩
  have key : ∀ x, csF (gE g 0) (upF (gE g 2) (gE g 4) (gM g) (nI x) (nI 0) (nI 0)) (gM g) = nI (smN (fun j => if (upN (gE g 2) (gE g 4) (gM g) (nI x) 0 0).testBit j = true then PE j else 0) (gM g)) := by
    intro x
    rw [upF_N hn (by omega) (by omega), csF_N (upN_lt hn (by omega)) hn]
    refine smF_nI _ (fun j hj => ?_)
    split
    · exact (hPE j hj).1
    · rfl
  have bd : ∀ x, smN (fun j => if (upN (gE g 2) (gE g 4) (gM g) (nI x) 0 0).testBit j = true then PE j else 0) (gM g) ≤ 800 := by
    intro x
    have h1 := smN_le (F := fun j => if (upN (gE g 2) (gE g 4) (gM g) (nI x) 0 0).testBit j = true then PE j else 0) (G := fun _ => 99) (gM g) (fun j hj => by
      split
      · exact (hPE j hj).2
      · omega)
    rw [smN_c] at h1
    have : gM g * 99 ≤ 8 * 99 := Nat.mul_le_mul_right 99 hn
    omega
  unfold spG spB at h ⊢
  have h := of_decide_eq_true h
  apply decide_eq_true
  refine Int32.le_trans h ?_
  rw [key v, key v', nI_mul, nI_mul]
  have b' := bd v'
  have mo := smN_le (F := fun j => if (upN (gE g 2) (gE g 4) (gM g) (nI v) 0 0).testBit j = true then PE j else 0) (G := fun j => if (upN (gE g 2) (gE g 4) (gM g) (nI v') 0 0).testBit j = true then PE j else 0) (gM g) (fun j hj => by
    by_cases c : (upN (gE g 2) (gE g 4) (gM g) (nI v) 0 0).testBit j = true
    · rw [if_pos c, if_pos (upN_mo hn (by omega) (nI_le hv (by omega)) j c)]
      exact Nat.le_refl _
    · rw [if_neg c]; omega)
  exact nI_le (by omega) (by omega)
theorem lsF_le {p : Nat → Bool} : ∀ f i, i ≤ lsF p f i ∧ lsF p f i ≤ i + f
  | 0, i => ⟨Nat.le_refl _, Nat.le_refl _⟩
  | f + 1, i => by
    rw [lsF]
    split
    · omega
    · have := lsF_le (p := p) f (i + 1); omega
theorem lsF_hit {p : Nat → Bool} : ∀ f i, lsF p f i < i + f → p (lsF p f i) = true
  | 0, i, h => by rw [lsF] at h; omega
  | f + 1, i, h => by
    rw [lsF] at h ⊢
    split at h
    next c => rw [if_pos c]; exact c
    next c => rw [if_neg c]; exact lsF_hit f (i + 1) (by omega)
theorem lsF_lo {p : Nat → Bool} : ∀ f i j, i ≤ j → j < lsF p f i → p j = false
  | 0, i, j, h1, h2 => by rw [lsF] at h2; omega
  | f + 1, i, j, h1, h2 => by
    rw [lsF] at h2
    split at h2
    · omega
    next c =>
      by_cases e : j = i
      · subst e; exact Bool.eq_false_iff.mpr c
      · exact lsF_lo f (i + 1) j (by omega) h2
theorem spL_eq {g : GS} {v : Nat} (hn : gM g ≤ 8) (sk : SeK (gE g) (gM g)) (hv : v ≤ 99) : spL g (nI v) = spG g (nI v) (nI 0) (nI 0) := by
  unfold spL
  have hb := lsF_le (p := fun v => spG g (nI v) (nI 0) (nI 0)) 100 0
  have e : lsG g = lsF (fun v => spG g (nI v) (nI 0) (nI 0)) 100 0 := rfl
  rw [← e] at hb
  by_cases c : lsG g ≤ v
  · rw [dT (nI_le c (by omega))]
    have := lsF_hit (p := fun v => spG g (nI v) (nI 0) (nI 0)) 100 0 (by rw [← e]; omega)
    rw [← e] at this
    exact (spG_mo hn sk c hv this).symm
  · rw [dF (nI_ge (by omega) (by omega))]
    exact (lsF_lo (p := fun v => spG g (nI v) (nI 0) (nI 0)) 100 0 v (by omega) (by rw [← e]; omega)).symm
/-! what a state keeps to -/
def foN (s : Sta) (j : Nat) : Nat := (s (16 + j)).toNatClampNeg
def deN (s : Sta) (j : Nat) : Nat := if s (32 + j) = nI 1 then 450 else 0
def bdN (s : Sta) (n : Nat) : Nat := smN (fun j => 9 * foN s j + deN s j) n
def PPu (b : Nat) (s : Sta) : Prop := (∀ o, o < 4 → ∃ p, p ≤ b ∧ s (40 + o) = nI p) ∧ ∃ m, m ≤ 9999 ∧ s 45 = nI m
def PFo (n : Nat) (s : Sta) : Prop := ∀ j, j < n → s (16 + j) = nI (foN s j) ∧ foN s j ≤ 9 ∧ (s (32 + j) = 0 → foN s j ≤ 8) ∧ (s (32 + j) = nI 0 ∨ s (32 + j) = nI 1 ∨ s (32 + j) = nI 2)
def PFa (n : Nat) (s : Sta) : Prop := ∀ j, j < n → ∃ v, v ≤ 99 ∧ s j = nI v
def PI (n : Nat) (s : Sta) : Prop := PFo n s ∧ PPu (bdN s n) s ∧ PFa n s
theorem bd_le {n : Nat} {s : Sta} (hn : n ≤ 8) (h : PFo n s) : bdN s n ≤ 4300 := by
  have := smN_le (F := fun j => 9 * foN s j + deN s j) (G := fun _ => 531) n (fun j hj => by
    have := (h j hj).2.1
    have : deN s j ≤ 450 := by unfold deN; split <;> omega
    omega)
  rw [smN_c] at this
  have : n * 531 ≤ 8 * 531 := Nat.mul_le_mul_right 531 hn
  show smN (fun j => 9 * foN s j + deN s j) n ≤ 4300
  omega
theorem pay_o {s : Sta} {o i : Nat} {x : Int32} (h1 : i ≠ 45) (h2 : i ≠ 40 + o) : payF s o x i = s i := by unfold payF; rw [upd_n h2, upd_n h1]
theorem pay_45 {s : Sta} {o : Nat} {x : Int32} (h : o < 4) : payF s o x 45 = s 45 - x := by unfold payF; rw [upd_n (by omega), upd_s]
theorem pay_p {s : Sta} {o : Nat} {x : Int32} (h : o < 4) : payF s o x (40 + o) = s (40 + o) + x := by unfold payF; rw [upd_s, upd_n (by omega)]
theorem pay_ok {b c o x m : Nat} {s : Sta} (h : PPu b s) (ho : o < 4) (hm : s 45 = nI m) (hx : x ≤ m) (hm9 : m ≤ 9999) (hc : x ≤ c) : PPu (b + c) (payF s o (nI x)) := by
  refine ⟨fun o' ho' => ?_, m - x, by omega, ?_⟩
  · obtain ⟨p, h1, h2⟩ := h.1 o' ho'
    by_cases e : o' = o
    · subst e
      exact ⟨p + x, by omega, by rw [pay_p ho, h2, nI_add]⟩
    · exact ⟨p, by omega, by rw [pay_o (by omega) (by omega), h2]⟩
  · rw [pay_45 ho, hm, pk_sub hx]
theorem mn_nI {a b : Nat} (ha : a < 2 ^ 31) (hb : b < 2 ^ 31) : mnI (nI a) (nI b) = nI (min a b) := by
  unfold mnI
  by_cases c : b < a
  · rw [if_pos (nI_lt c ha), Nat.min_eq_right (by omega)]
  · rw [if_neg (nI_nlt (by omega) hb), Nat.min_eq_left (by omega)]
theorem clampN_in (x : Int32) : ∃ v, v ≤ 99 ∧ clampN (nI 0) (nI 99) x = nI v := by
  have key : ∀ y : Int32, y ≤ nI 99 → ∃ v, v ≤ 99 ∧ (if nI 0 < y then y else nI 0) = nI v := by
    intro y hy
    by_cases c : nI 0 < y
    · rw [if_pos c]
      have h0 : ¬ y < 0 := fun w => by
        have := Int32.lt_trans c w
        exact absurd this (by decide)
      obtain ⟨j, hj, rfl⟩ := nI_of h0
      exact ⟨j, (nI_leI hj (by omega)).mp hy, rfl⟩
    · rw [if_neg c]
      exact ⟨0, by omega, rfl⟩
  unfold clampN
  refine key _ ?_
  by_cases c : x < nI 99
  · rw [if_pos c]; exact Int32.le_of_lt c
  · rw [if_neg c]; exact Int32.le_refl _
theorem lik_o {s : Sta} {j i : Nat} {m : Int32} (h : i ≠ j) : likF s j m i = s i := upd_n h
theorem lik_a {n : Nat} {s : Sta} {j : Nat} {m : Int32} (h : PFa n s) : PFa n (likF s j m) := by
  intro i hi
  by_cases c : i = j
  · subst c; unfold likF; rw [upd_s]; exact clampN_in _
  · rw [lik_o c]; exact h i hi
theorem ex_o {R : Nat → Nat → Int32} {s : Sta} {w l i : Nat} (h1 : i ≠ 44) (h2 : i ≠ w) (h3 : i ≠ l) : exF R s w l i = s i := by unfold exF; rw [lik_o h2, lik_o h3, lik_o h2, upd_n h1]
theorem ex_a {R : Nat → Nat → Int32} {n : Nat} {s : Sta} {w l : Nat} (hn : n ≤ 8) (h : PFa n s) : PFa n (exF R s w l) := by
  unfold exF
  refine lik_a (lik_a (lik_a (fun j hj => ?_)))
  rw [upd_n (by omega)]
  exact h j hj
theorem m3_o {s : Sta} {one oth w l i : Nat} (h1 : i ≠ 8 + l) (h2 : i ≠ 16 + one) (h3 : i ≠ 16 + oth) (h4 : i ≠ 24 + w) : m3F s one oth w l i = s i := by unfold m3F; rw [upd_n h4, upd_n h3, upd_n h2, upd_n h1]
theorem m3_1 {s : Sta} {one oth w l : Nat} (h : one ≠ oth) (h1 : one < 8) (hl : l < 8) (hw : w < 8) : m3F s one oth w l (16 + one) = s (16 + one) + nI 1 := by unfold m3F; rw [upd_n (by omega), upd_n (by omega), upd_s, upd_n (by omega)]
theorem m3_2 {s : Sta} {one oth w l : Nat} (h : one ≠ oth) (h2 : oth < 8) (hl : l < 8) (hw : w < 8) : m3F s one oth w l (16 + oth) = s (16 + oth) + nI 1 := by unfold m3F; rw [upd_n (by omega), upd_s, upd_n (by omega), upd_n (by omega)]
theorem hs_o {sw : Int32} {s : Sta} {j i : Nat} (h : i ≠ 32 + j) : hsF sw s j i = s i := by
  unfold hsF
  split
  · exact upd_n h
  · rfl
theorem hs_j {sw : Int32} {s : Sta} {j : Nat} : hsF sw s j (32 + j) = if ¬ s (32 + j) = nI 1 ∧ sw ≤ s (16 + j) then nI 2 else s (32 + j) := by
  unfold hsF
  split
  · exact upd_s
  · rfl
theorem jg_o {R : Nat → Nat → Int32} {lsp : Int32} {s : Sta} {l i : Nat} (h1 : i ≠ 32 + l) (h2 : i ≠ 45) (h3 : i ≠ 40 + (R 3 l).toNatClampNeg) : jgF R lsp s l i = s i := by
  unfold jgF
  split
  · rw [pay_o h2 h3, upd_n h1]
  · rfl
abbrev jgD (R : Nat → Nat → Int32) (lsp : Int32) (s : Sta) (l : Nat) : Prop := ¬ lsp ≤ s l ∧ nI 50 * R 2 l ≤ s 45
theorem own4 {R : Nat → Nat → Int32} {n j : Nat} (h : RoK R n) (hj : j < n) : (R 3 j).toNatClampNeg < 4 ∧ R 3 j = nI (R 3 j).toNatClampNeg := by
  obtain ⟨a, h1, h2⟩ := (h j hj).2.2.2
  rw [h2, nI_clamp (by omega)]
  exact ⟨h1, rfl⟩
theorem hire9 {R : Nat → Nat → Int32} {n j : Nat} (h : RoK R n) (hj : j < n) : ∃ a, 1 ≤ a ∧ a < 10 ∧ R 2 j = nI a := (h j hj).2.2.1
theorem py_ok {R : Nat → Nat → Int32} {n j b : Nat} {s : Sta} (hR : RoK R n) (hj : j < n) (h : PPu b s) : PPu (b + 9) (pyH R s j) := by
  obtain ⟨a, h1, h2, h3⟩ := hire9 hR hj
  obtain ⟨m, m9, hm⟩ := h.2
  unfold pyH
  rw [h3, hm, mn_nI (by omega) (by omega)]
  exact pay_ok h (own4 hR hj).1 hm (Nat.min_le_left _ _) m9 (by have := Nat.min_le_right m a; omega)
theorem py_o {R : Nat → Nat → Int32} {n j i : Nat} {s : Sta} (hR : RoK R n) (hj : j < n) (h1 : i < 40 ∨ 46 ≤ i ∨ i = 44) : pyH R s j i = s i := by
  have := (own4 hR hj).1
  unfold pyH
  exact pay_o (by omega) (by omega)
