/-! lines read, in their bounds -/
theorem rdLn_c {T : Nat → Int32} {n L fm f j p : Nat} {l : List Int32} (h : (rdLn T n L fm (f + 1) j p).2 = some l) : ∃ l', ¬ (rdP T n L (chS fm j) p).1 = -(nI 1) ∧ l = (rdP T n L (chS fm j) p).1 :: l' ∧ (rdLn T n L fm f (j + 1) (rdP T n L (chS fm j) p).2).2 = some l' := by
  rw [rdLn_s] at h
  split at h
  · cases h
  next c =>
    have h : (rdLn T n L fm f (j + 1) (rdP T n L (chS fm j) p).2).2.map (fun l => (rdP T n L (chS fm j) p).1 :: l) = some l := h
    cases hl : (rdLn T n L fm f (j + 1) (rdP T n L (chS fm j) p).2).2 with
    | none => rw [hl] at h; cases h
    | some l' => rw [hl] at h; cases h; exact ⟨l', c, rfl, rfl⟩
def Ln0 (l : List Int32) : Prop := ∃ a b c d e, a < 4 ∧ (1 ≤ b ∧ b < 10) ∧ (1 ≤ c ∧ c < 10) ∧ d < 4 ∧ e < 100 ∧ l = [nI a, nI b, nI c, nI d, nI e]
theorem arF_v {x : Int32} (h : ¬ arF x = -(nI 1)) : ∃ a, a < 4 ∧ arF x = nI a := by
  unfold arF at h ⊢
  split
  · exact ⟨0, by omega, rfl⟩
  · split
    · exact ⟨1, by omega, rfl⟩
    · split
      · exact ⟨2, by omega, rfl⟩
      · split
        · exact ⟨3, by omega, rfl⟩
        next c1 c2 c3 c4 => rw [if_neg c1, if_neg c2, if_neg c3, if_neg c4] at h; exact absurd rfl h
theorem ln0_ok {T : Nat → Int32} {n L p : Nat} {l : List Int32} (h : (rdLn T n L 0 5 0 p).2 = some l) : Ln0 l := by
  obtain ⟨k0, k1, k2, k3, k4⟩ := ch0
  obtain ⟨l1, h1, rfl, g1⟩ := rdLn_c h
  obtain ⟨l2, h2, rfl, g2⟩ := rdLn_c g1
  obtain ⟨l3, h3, rfl, g3⟩ := rdLn_c g2
  obtain ⟨l4, h4, rfl, g4⟩ := rdLn_c g3
  obtain ⟨l5, h5, rfl, g5⟩ := rdLn_c g4
  have e5 : l5 = [] := by
    have h : some [] = some l5 := g5
    cases h; rfl
  subst e5
  rw [k0, rdP_a] at h1 h2 h3 h4 h5 ⊢
  rw [show chS 0 (0 + 1) = nI 43 from k1, rdP_1] at h2 h3 h4 h5 ⊢
  rw [show chS 0 (0 + 1 + 1) = nI 43 from k2, rdP_1] at h3 h4 h5 ⊢
  rw [show chS 0 (0 + 1 + 1 + 1) = nI 111 from k3, rdP_o] at h4 h5 ⊢
  rw [show chS 0 (0 + 1 + 1 + 1 + 1) = nI 110 from k4, rdP_n] at h5 ⊢
  obtain ⟨b, b1, b2, b3⟩ := tkD_v (by omega) (by omega) h2
  obtain ⟨c, c1, c2, c3⟩ := tkD_v (by omega) (by omega) h3
  obtain ⟨d, d1, d2, d3⟩ := tkD_v (by omega) (by omega) h4
  obtain ⟨e, e1, e2⟩ := tkN_m (by omega) (by omega) h5
  obtain ⟨a, a1, a2⟩ : ∃ a, a < 4 ∧ (raF T n L p).1 = nI a := by
    unfold raF at h1 ⊢
    by_cases w : arF (pk T n L p) = -(nI 1)
    · rw [if_pos w] at h1; exact absurd rfl h1
    · rw [if_neg w]; exact arF_v w
  exact ⟨a, b, c, d, e, a1, ⟨b1, by omega⟩, ⟨c1, by omega⟩, by omega, e1, by rw [a2, b3, c3, d3, e2]⟩
def Ln1 (l : List Int32) : Prop := ∃ a b c, (1 ≤ a ∧ a < 100) ∧ b < 100 ∧ c < 10 ∧ l.getD 0 0 = nI a ∧ l.getD 2 0 = nI b ∧ l.getD 4 0 = nI c
theorem ln1_ok {T : Nat → Int32} {n L p : Nat} {l : List Int32} (h : (rdLn T n L 1 5 0 p).2 = some l) : Ln1 l := by
  obtain ⟨k0, k1, k2, k3, k4⟩ := ch1
  obtain ⟨l1, h1, rfl, g1⟩ := rdLn_c h
  obtain ⟨l2, h2, rfl, g2⟩ := rdLn_c g1
  obtain ⟨l3, h3, rfl, g3⟩ := rdLn_c g2
  obtain ⟨l4, h4, rfl, g4⟩ := rdLn_c g3
  obtain ⟨l5, h5, rfl, g5⟩ := rdLn_c g4
  rw [k0, rdP_p] at h1
  rw [show chS 1 (0 + 1 + 1) = nI 110 from k2, rdP_n] at h3
  rw [show chS 1 (0 + 1 + 1 + 1 + 1) = nI 100 from k4, rdP_d] at h5
  obtain ⟨b, b1, b2⟩ := tkN_m (by omega) (by omega) h3
  obtain ⟨c, c1, c2, c3⟩ := tkD_v (by omega) (by omega) h5
  obtain ⟨a, a1, a2, a3⟩ : ∃ a, 1 ≤ a ∧ a < 100 ∧ (rnF T n L p).1 = nI a := by
    unfold rnF at h1 ⊢
    by_cases w : (tkN T n L 2 p).1 = 0
    · rw [if_pos w] at h1; exact absurd rfl h1
    · rw [if_neg w] at h1 ⊢
      obtain ⟨v, v1, v2⟩ := tkN_m (by omega) (by omega) h1
      refine ⟨v, ?_, v1, v2⟩
      refine Classical.byContradiction fun u => w ?_
      rw [v2, show v = 0 by omega]; rfl
  refine ⟨a, b, c, ⟨a1, a2⟩, b1, by omega, ?_, ?_, ?_⟩
  · rw [k0, rdP_p]; exact a3
  · show (rdP T n L (chS 1 (0 + 1 + 1)) _).1 = nI b
    rw [show chS 1 (0 + 1 + 1) = nI 110 from k2, rdP_n]; exact b2
  · show (rdP T n L (chS 1 (0 + 1 + 1 + 1 + 1)) _).1 = nI c
    rw [show chS 1 (0 + 1 + 1 + 1 + 1) = nI 100 from k4, rdP_d]; exact c3
theorem rdLs_al {T : Nat → Int32} {n L fm : Nat} {Q : List Int32 → Prop} (hQ : ∀ p l, (rdLn T n L fm 5 0 p).2 = some l → Q l) : ∀ (r p : Nat) (ls : List (List Int32)), (rdLs T n L fm r p).2 = some ls → ∀ l, l ∈ ls → Q l
  | 0, p, ls, h, l, hl => by cases h
  | r + 1, p, ls, h, l, hl => by
    cases hn : (rdLn T n L fm 5 0 p).2 with
    | none => rw [rdLs_N hn] at h; cases h
    | some x =>
      by_cases c : n ≤ (rdLn T n L fm 5 0 p).1
      · rw [rdLs_E hn c] at h
        cases h
        simp at hl
        rw [hl]; exact hQ p x hn
      · by_cases c2 : pk T n L (rdLn T n L fm 5 0 p).1 = nI 59
        · rw [rdLs_M hn c c2] at h
          have h : (rdLs T n L fm r ((rdLn T n L fm 5 0 p).1 + 1)).2.map (fun ls => x :: ls) = some ls := h
          cases hm : (rdLs T n L fm r ((rdLn T n L fm 5 0 p).1 + 1)).2 with
          | none => rw [hm] at h; cases h
          | some ls' =>
            rw [hm] at h
            cases h
            rw [List.mem_cons] at hl
            rcases hl with w | w
            · rw [w]; exact hQ p x hn
            · exact rdLs_al hQ r _ ls' hm l w
        · rw [rdLs_X hn c c2] at h; cases h
