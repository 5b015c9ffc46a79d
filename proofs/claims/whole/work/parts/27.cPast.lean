/-! class Past: a ring of twelve states, two shelves -/
theorem c_pclear {k : Nat} {h : Hp} : Ct alC mX4_clear k [vR 4 0] h (Rv (sX (sX h 4 0 3 (nI 0)) 4 0 4 (nI 0))) := ct_vc tX4_clear [] 20 okC kX4_clear rfl rfl
/-- the first and how many -/
def hPa (h : Hp) (f m : Nat) : Hp := sX (sX h 4 0 2 (nI f)) 4 0 3 (nI m)
theorem hPa_f {h : Hp} {f m : Nat} : (hPa h f m).1 4 0 2 = nI f := by unfold hPa; rw [rdX, rdX]; simp
theorem hPa_m {h : Hp} {f m : Nat} : (hPa h f m).1 4 0 3 = nI m := by unfold hPa; rw [rdX]; simp
theorem hPa_s {h : Hp} {f m i : Nat} : (hPa h f m).1 33 i = h.1 33 i := by unfold hPa sX; simp [rdV]
theorem hPa_same {h : Hp} {f m : Nat} (hf : h.1 4 0 2 = nI f) (hm : h.1 4 0 3 = nI m) : hPa h f m = h := by
  unfold hPa
  rw [sX_same hf, sX_same hm]
theorem hPa_wm {h : Hp} {f m m' : Nat} {i : Nat} {g : Nat → Int32} : sX (sV (hPa h f m) 33 i g) 4 0 3 (nI m') = hPa (sV h 33 i g) f m' := by
  unfold hPa
  refine hp_eq (fun k' i' => ?_) rfl
  by_cases c1 : k' = 4 ∧ i' = 0
  · obtain ⟨rfl, rfl⟩ := c1
    funext q
    simp only [rdX, rdVj]
    by_cases q3 : q = 3
    · subst q3; simp
    · by_cases q2 : q = 2
      · subst q2; simp
      · simp [q3, q2]
  · unfold sX
    by_cases c2 : k' = 33 ∧ i' = i
    · obtain ⟨rfl, rfl⟩ := c2; simp [rdV]
    · simp [rdV, c1, c2]
theorem c_push {k i f m : Nat} {h : Hp} (hf : h.1 4 0 2 = nI f) (hm : h.1 4 0 3 = nI m) (hf2 : f < 12) (hm2 : m ≤ 12) (f' m' : Nat) (e : (m = 12 ∧ f' = (f + 1) % 12 ∧ m' = 11) ∨ (m < 12 ∧ f' = f ∧ m' = m)) : Ct alC mX4_push (k + 2) [vR 4 0, vR 8 i] h (Rv (hPa (sV h 33 (3 + (f' + m') % 12) (h.1 33 i)) f' (m' + 1))) := by
  have hf' : f' < 12 := by omega
  have hm' : m' < 12 := by omega
  have two : WP alC mX4_push (k + 2) (Rv (hPa (sV h 33 (3 + (f' + m') % 12) (h.1 33 i)) f' (m' + 1))) 32 [some (vR 4 0), some (vR 8 i)] [] (hPa h f' m') := by
    have er : nI (f' + m') - nI (f' + m') / nI 12 * nI 12 = nI ((f' + m') % 12) := pk_rem (by omega) (by omega) (by omega)
    refine wp_at tX4_push [] 40 32 okC kX4_push ⟨by decide, ?_, ?_⟩
    · rw [hPa_f, hPa_m, nI_add, er]; exact ix1 12 (Nat.mod_lt _ (by omega))
    · rw [hPa_f, hPa_m, nI_add, er, nI_clamp (by have := Nat.mod_lt (f' + m') (show 12 > 0 by omega); omega)]
      refine ⟨_, c_take, ?_⟩
      rintro v h' rfl
      show sX (sV (hPa h f' m') 33 (3 + (f' + m') % 12) ((hPa h f' m').1 33 i)) 4 0 3 ((sV (hPa h f' m') 33 (3 + (f' + m') % 12) ((hPa h f' m').1 33 i)).1 4 0 3 + nI 1) = _
      rw [hPa_s, show (sV (hPa h f' m') 33 (3 + (f' + m') % 12) (h.1 33 i)).1 4 0 3 = nI m' by rw [rdVj]; simp [hPa_m], nI_add, hPa_wm]
  refine ct_vc tX4_push [(32, [true, true])] 40 okC kX4_push rfl ?_
  refine ⟨fun c => ?_, fun c => ?_⟩
  · have hmn : ¬ m = 12 := fun z => c (by rw [hm, z])
    obtain ⟨h1, rfl, rfl⟩ : m < 12 ∧ f' = f ∧ m' = m := by omega
    rw [hPa_same hf hm] at two
    exact two
  · have hmn : m = 12 := nI_inj (by omega) (by omega) (by rw [← hm]; exact nn c)
    obtain ⟨-, rfl, rfl⟩ : m = 12 ∧ f' = (f + 1) % 12 ∧ m' = 11 := by omega
    have er : nI (f + 1) - nI (f + 1) / nI 12 * nI 12 = nI ((f + 1) % 12) := pk_rem (by omega) (by omega) (by omega)
    refine ⟨by decide, ?_⟩
    rw [hf, nI_add, er]
    refine wp_h ?_ two
    unfold hPa
    congr 1
    rw [rdX, if_neg (by decide), hm, hmn]
    decide
theorem c_pop {k i f m : Nat} {h : Hp} (hf : h.1 4 0 2 = nI f) (hm : h.1 4 0 3 = nI (m + 1)) (hf2 : f < 12) (hm2 : m < 12) : Ct alC mX4_pop (k + 2) [vR 4 0, vR 8 i] h (Rv (sV (sX h 4 0 3 (nI m)) 33 i (h.1 33 (3 + (f + m) % 12)))) := by
  have er : nI (f + m) - nI (f + m) / nI 12 * nI 12 = nI ((f + m) % 12) := pk_rem (by omega) (by omega) (by omega)
  have em : nI (m + 1) - nI 1 = nI m := pk_sub (by omega)
  have e1 : (sX h 4 0 3 (nI m)).1 4 0 3 = nI m := by rw [rdX]; simp
  have e2 : (sX h 4 0 3 (nI m)).1 4 0 2 = nI f := by rw [rdX]; simp [hf]
  have e3 : ∀ z, (sX h 4 0 3 (nI m)).1 33 z = h.1 33 z := fun z => by unfold sX; rw [rdV]; simp
  refine ct_vc tX4_pop [] 40 okC kX4_pop rfl ?_
  refine ⟨fun c => ?_, fun c => ⟨by decide, ?_, ?_⟩⟩
  · exfalso
    rw [hm] at c
    exact nI_nle (by omega) (by omega) c
  · rw [hm, em, e1, e2, nI_add, er]; exact ix1 12 (Nat.mod_lt _ (by omega))
  · rw [hm, em, e1, e2, nI_add, er, nI_clamp (by have := Nat.mod_lt (f + m) (show 12 > 0 by omega); omega)]
    refine ⟨_, c_take, ?_⟩
    rintro v h' rfl
    rw [e3]
    exact rfl
def okS (x : Int32) : Bool := decide (0 ≤ x) && decide (x < nI 2)
theorem okS_get {x : Int32} (h : okS x = true) : ∃ j, j < 2 ∧ x = nI j := hasN_get (n := 2) h (by decide)
theorem c_shelve {k i : Nat} {h : Hp} {x : Int32} : Ct alC mX4_shelve (k + 2) [vR 4 0, vI x, vR 8 i] h (Rt (b2 (okS x)) (if okS x = true then sX (sV h 33 (15 + x.toNatClampNeg) (h.1 33 i)) 4 0 4 (h.1 4 0 4 ||| (nI 1 <<< (x &&& 31))) else h)) := by
  refine ct_vc tX4_shelve [(11, [true, true, true])] 40 okC kX4_shelve rfl ?_
  refine ⟨fun c => ⟨Or.inl rfl, ?_⟩, fun c => ⟨fun c2 => ?_, fun c2 => ⟨Or.inl rfl, ?_⟩⟩⟩
  · rw [show okS x = false by unfold okS; rw [dF (fun z => (i_ltn z) c)]; rfl]; exact ⟨rfl, rfl⟩
  · have ho : okS x = true := by unfold okS; rw [dT (i_nlt c), dT c2]; rfl
    obtain ⟨j, hj, rfl⟩ := okS_get ho
    refine wp_at tX4_shelve [] 40 11 okC kX4_shelve ⟨ix1 2 hj, _, c_take, ?_⟩
    rintro v h' rfl
    refine ⟨Or.inr rfl, ?_⟩
    rw [ho, rdVj]
    exact ⟨rfl, rfl⟩
  · rw [show okS x = false by unfold okS; rw [dF c2, Bool.and_false]]; exact ⟨rfl, rfl⟩
theorem c_fetch {k i : Nat} {h : Hp} {x : Int32} : Ct alC mX4_fetch (k + 2) [vR 4 0, vI x, vR 8 i] h (Rt (b2 (okS x && !decide ((h.1 4 0 4 >>> (x &&& 31)) &&& nI 1 = 0))) (if (okS x && !decide ((h.1 4 0 4 >>> (x &&& 31)) &&& nI 1 = 0)) = true then sX (sV h 33 i (h.1 33 (15 + x.toNatClampNeg))) 4 0 3 (nI 0) else h)) := by
  refine ct_vc tX4_fetch [(22, [true, true, true])] 40 okC kX4_fetch rfl ?_
  refine ⟨fun c => ⟨Or.inl rfl, ?_⟩, fun c => ⟨fun c2 => ⟨Or.inl rfl, ?_⟩, fun c2 => ⟨fun c3 => ?_, fun c3 => ⟨Or.inl rfl, ?_⟩⟩⟩⟩
  · rw [show okS x = false by unfold okS; rw [dF (fun z => (i_ltn z) c)]; rfl]; exact ⟨rfl, rfl⟩
  · rw [show okS x = false by unfold okS; rw [dF (i_ltn c2), Bool.and_false]]; exact ⟨rfl, rfl⟩
  · have ho : okS x = true := by unfold okS; rw [dT (i_nlt c), dT (i_nle c2)]; rfl
    rw [ho, dF c3]
    obtain ⟨j, hj, rfl⟩ := okS_get ho
    refine wp_at tX4_fetch [] 40 22 okC kX4_fetch ⟨ix1 2 hj, _, c_take, ?_⟩
    rintro v h' rfl
    exact ⟨Or.inr rfl, rfl, rfl⟩
  · rw [dT (nn c3), show (okS x && !true) = false by simp]; exact ⟨rfl, rfl⟩
