/-! what every call keeps: rule, law's text, games -/
theorem Ok.c {D : Nat} {g : GS} {c : List Int32} (o : Ok D g) (h1 : Good c) (h2 : 1 ≤ c.length) (h3 : c.length ≤ 40) : Ok D (uC g c) := ⟨⟨o.1.1, o.1.2.1, o.1.2.2.1, o.1.2.2.2.1, o.1.2.2.2.2.1, o.1.2.2.2.2.2.1, o.1.2.2.2.2.2.2.1, o.1.2.2.2.2.2.2.2.1, h1, h2, h3⟩, o.2⟩
theorem ok_Rule {D : Nat} {g : GS} (o : Ok D g) : Ok D (nRule g) := by
  unfold nRule
  cases hO : rdO (gT g) (gTn g) with
  | none => exact o.t (Nat.zero_le _)
  | some c =>
    obtain ⟨k1, k2, k3⟩ := rdO_ok hO
    exact (o.t (Nat.zero_le _)).c k1 k2 k3
theorem pl1_ok {D : Nat} {g : GS} {s s' : Sta} {x : Act} (hn : gN g ≤ 8) (hR : RoK (gR g) (gN g)) (hsw : ∃ sw, sw ≤ 9 ∧ gW g = nI sw) (st : St D (gN g) s) (hD : D ≤ 1000000000) (h : pl1 g s x = some s') : St (D + 30) (gN g) s' ∧ ¬ pv1 g s x < 0 := by
  obtain ⟨pi, d0, k1, k2⟩ := st
  unfold pl1 at h
  unfold pv1
  by_cases c1 : x.1 = nI 102
  · rw [if_pos c1] at h ⊢
    split at h
    next c =>
      obtain ⟨p, q, hp, hq, hpq, eX, eY⟩ := hnF_in hn c
      rw [eX, eY] at c h
      obtain ⟨-, -, -, f1, f2⟩ := hnF_yes hn c (by omega) (by omega)
      rw [nI_clamp (by omega), nI_clamp (by omega)] at h
      cases h
      obtain ⟨m1, m2, m3⟩ := PI_mt hn hR hsw hp hq hpq pi f1 f2
      exact ⟨⟨m1, d0, by omega, by rw [m2]; exact k2⟩, by decide⟩
    next => cases h
  · rw [if_neg c1] at h ⊢
    by_cases c2 : x.1 = nI 100
    · rw [if_pos c2] at h ⊢
      split at h
      next c =>
        obtain ⟨h1, h2⟩ := and3 c
        have h1 := of_decide_eq_true h1
        have h2 := of_decide_eq_true h2
        obtain ⟨v, hv, ev⟩ := nI_of (show ¬ x.2.1 < 0 from Int32.not_lt.mpr (Int32.le_trans (by decide) h1))
        rw [ev] at h2 h ⊢
        have hv30 : v ≤ 30 := (nI_leI hv (by omega)).mp h2
        cases h
        have e46 : psF (gN g) s (nI v) 46 = nI (d0 + v) := by rw [ps_46 hn, k2, nI_add]
        refine ⟨⟨PI_ps hn pi, d0 + v, by omega, e46⟩, ?_⟩
        rw [e46]
        exact nI_pos (by omega)
      next => cases h
    · rw [if_neg c2] at h ⊢
      by_cases c3 : x.1 = nI 115
      · rw [if_pos c3] at h ⊢
        split at h
        next c =>
          obtain ⟨q1, q2, q3, q4⟩ := sgA_yes c
          obtain ⟨j, hj, ej⟩ := hasN_get q1 (by omega)
          rw [ej, nI_clamp (by omega)] at h ⊢
          cases h
          obtain ⟨m, hm, em⟩ := pi.2.1.2
          rw [em] at q4
          have q5 := (nI_leI (by omega) (by omega)).mp q4
          refine ⟨⟨PI_sg hn hj (by omega) (by rw [em]; exact q4) pi, d0, by omega, ?_⟩, ?_⟩
          · unfold sgF likF
            rw [upd_n (by omega), upd_n (by omega)]; exact k2
          · unfold sgF likF
            rw [upd_n (by omega), upd_s, em, pk_sub q5]
            exact nI_pos (by omega)
        next => cases h
      · rw [if_neg c3] at h ⊢
        split at h
        next c =>
          obtain ⟨q1, q2, q3⟩ := bfA_yes c
          obtain ⟨j, hj, ej⟩ := hasN_get q1 (by omega)
          rw [ej, nI_clamp (by omega)] at q2 q3 h ⊢
          cases h
          have o4 := (own4 hR hj).1
          obtain ⟨hh, h1, h2, h3⟩ := hire9 hR hj
          refine ⟨⟨PI_bf hn hR hj q2 q3 pi, d0, by omega, ?_⟩, ?_⟩
          · unfold bfF
            rw [upd_n (by omega), upd_n (by omega)]; exact k2
          · obtain ⟨pp, hpp, epp⟩ := pi.2.1.1 _ o4
            have hbd := bd_le hn pi.1
            unfold bfF
            rw [upd_n (by omega), upd_s]
            rw [h3, nI_mul, epp] at q3 ⊢
            have q5 := (nI_leI (by omega) (by omega)).mp q3
            rw [pk_sub q5]
            exact nI_pos (by omega)
        next => cases h
theorem plR_ok {g : GS} (hn : gN g ≤ 8) (hR : RoK (gR g) (gN g)) (hsw : ∃ sw, sw ≤ 9 ∧ gW g = nI sw) : ∀ (l : List Act) (D : Nat) (s : Sta), D + 30 * l.length ≤ 1000000000 → St D (gN g) s → St (D + 30 * l.length) (gN g) (plR g l s).2.1 ∧ NNg g l s
  | [], D, s, _, st => ⟨st, trivial⟩
  | x :: l, D, s, hD, st => by
    have hl : (x :: l).length = l.length + 1 := rfl
    rw [hl] at hD ⊢
    cases hp : pl1 g s x with
    | none =>
      rw [plR_N hp]
      exact ⟨st.mo (by omega), fun s' h => by rw [hp] at h; cases h⟩
    | some s' =>
      obtain ⟨st', nn'⟩ := pl1_ok hn hR hsw st (by omega) hp
      obtain ⟨r1, r2⟩ := plR_ok hn hR hsw l (D + 30) s' (by omega) st'
      rw [plR_S hp]
      refine ⟨r1.mo (by omega), fun t h => ?_⟩
      rw [hp] at h
      cases h
      exact ⟨nn', r2⟩
theorem nn_Games {D : Nat} {g : GS} (o : Ok D g) (hD : D ≤ 900000000) : ∀ l, (acG g).2 = some l → NNg g l (gS g) := by
  intro l hl
  have hlen := acs_len _ _ _ hl
  exact (plR_ok o.1.1 o.1.r o.2.sw l D (gS g) (by omega) o.2.2.2.1).2
theorem ok_Games {D : Nat} {g : GS} (o : Ok D g) (hD : D ≤ 900000000) : Ok (D + 2000) (nGames g) := by
  unfold nGames
  cases hl : (acG g).2 with
  | none => exact (o.t (Nat.zero_le _)).mo (by omega)
  | some l =>
    have hlen := acs_len _ _ _ hl
    have st := (plR_ok o.1.1 o.1.r o.2.sw l D (gS g) (by omega) o.2.2.2.1).1
    have o2 : Ok (D + 2000) g := o.mo (by omega)
    have key : Ok (D + 2000) (pgG g l) := by
      unfold pgG
      split
      · exact (o2.s (st.mo (by omega))).t (Nat.zero_le _)
      · exact ((o2.p).s (st.mo (by omega))).t (Nat.zero_le _)
    exact key.l (by show 2 ≤ 8; omega)
