/-! what fighters and seats keep -/
theorem ent_o {s : Sta} {j i : Nat} {x : Int32} (h1 : i ≠ j) (h2 : i ≠ 8 + j) (h3 : i ≠ 16 + j) (h4 : i ≠ 24 + j) (h5 : i ≠ 32 + j) : entF s j x i = s i := by
  unfold entF
  rw [upd_n h5, upd_n h4, upd_n h3, upd_n h2, upd_n h1]
theorem PI_ent {n e : Nat} {s : Sta} (hn : n < 8) (he : e ≤ 99) (pi : PI n s) : PI (n + 1) (entF s n (nI e)) := by
  have e16 : entF s n (nI e) (16 + n) = nI 0 := by unfold entF; rw [upd_n (by omega), upd_n (by omega), upd_s]
  have e32 : entF s n (nI e) (32 + n) = nI 0 := by unfold entF; rw [upd_s]
  have e0 : entF s n (nI e) n = nI e := by unfold entF; rw [upd_n (by omega), upd_n (by omega), upd_n (by omega), upd_n (by omega), upd_s]
  have o16 : ∀ j, j < n → entF s n (nI e) (16 + j) = s (16 + j) := fun j hj => ent_o (by omega) (by omega) (by omega) (by omega) (by omega)
  have o32 : ∀ j, j < n → entF s n (nI e) (32 + j) = s (32 + j) := fun j hj => ent_o (by omega) (by omega) (by omega) (by omega) (by omega)
  have f0 : foN (entF s n (nI e)) n = 0 := by unfold foN; rw [e16]; decide
  have fo : ∀ j, j < n → foN (entF s n (nI e)) j = foN s j := fun j hj => by unfold foN; rw [o16 j hj]
  have bd : bdN (entF s n (nI e)) (n + 1) = bdN s n := by
    unfold bdN
    rw [smN, smN_cong n (G := fun j => 9 * foN s j + deN s j) (fun j hj => by rw [fo j hj]; unfold deN; rw [o32 j hj]), f0]
    unfold deN
    rw [e32, if_neg (by decide)]
    omega
  refine ⟨fun j hj => ?_, ?_, fun j hj => ?_⟩
  · by_cases c : j = n
    · subst c
      rw [f0, e16, e32]
      exact ⟨rfl, by omega, fun _ => by omega, Or.inl rfl⟩
    · rw [fo j (by omega), o16 j (by omega), o32 j (by omega)]
      exact pi.1 j (by omega)
  · rw [bd]
    exact PPu_o pi.2.1 (fun o ho => ent_o (by omega) (by omega) (by omega) (by omega) (by omega)) (ent_o (by omega) (by omega) (by omega) (by omega) (by omega))
  · by_cases c : j = n
    · subst c; exact ⟨e, he, e0⟩
    · rw [ent_o (by omega) (by omega) (by omega) (by omega) (by omega)]
      exact pi.2.2 j (by omega)
theorem St_nt {D n : Nat} {s : Sta} {R : Nat → Nat → Int32} (st : St D n s) : ∀ t, n + t ≤ 8 → (∀ i, i < t → ∃ e, e ≤ 99 ∧ R 4 (n + i) = nI e) → St D (n + t) (ntS s R n t)
  | 0, _, _ => st
  | t + 1, ht, h => by
    obtain ⟨pi, d0, k1, k2⟩ := St_nt st t (by omega) (fun i hi => h i (by omega))
    obtain ⟨e, he, ee⟩ := h t (by omega)
    rw [ntS, ee]
    exact ⟨PI_ent (n := n + t) (by omega) he pi, d0, k1, by rw [ent_o (by omega) (by omega) (by omega) (by omega) (by omega)]; exact k2⟩
theorem WaK_mo {n m : Nat} {A : Nat → Int32} (h : WaK n A) (hm : n ≤ m) : WaK m A := by
  intro f hf
  obtain ⟨u, hu, eu, ku⟩ := h f hf
  exact ⟨u, hu, eu, fun o ho => ⟨by have := (ku o ho).1; omega, by have := (ku o ho).2.1; omega, (ku o ho).2.2⟩⟩
theorem ok_Fighters {D : Nat} {g : GS} {R' : Nat → Nat → Int32} (o : Ok D g) (ra : RAg (gR g) R' (gN g) (lnG g 0).2) : Ok D (nFighters g R') := by
  have hn := o.1.1
  have r0 : ∀ j, j < gN g → (∃ a, a < 4 ∧ R' 0 j = nI a) ∧ (∃ a, 1 ≤ a ∧ a < 10 ∧ R' 1 j = nI a) ∧ (∃ a, 1 ≤ a ∧ a < 10 ∧ R' 2 j = nI a) ∧ ∃ a, a < 4 ∧ R' 3 j = nI a := fun j hj => by
    rw [ra.1 0 (by omega) j hj, ra.1 1 (by omega) j hj, ra.1 2 (by omega) j hj, ra.1 3 (by omega) j hj]
    exact o.1.r j hj
  unfold nFighters
  split
  · exact o
  next c =>
    cases hl : (lnG g 0).2 with
    | none =>
      exact ⟨⟨o.1.1, o.1.2.1, Nat.zero_le _, o.1.2.2.2.1, o.1.2.2.2.2.1, o.1.2.2.2.2.2.1, o.1.2.2.2.2.2.2.1, r0, o.1.2.2.2.2.2.2.2.2⟩, o.2⟩
    | some ls =>
      have hl' : (rdLs (gT g) (gTn g) 62 0 (8 - gN g) 0).2 = some ls := hl
      have len := (rdLs_len _ _ ls hl').2
      have al := rdLs_al (fun p l h => ln0_ok h) _ _ ls hl'
      have n8 : gN g + ls.length ≤ 8 := by omega
      have rn : ∀ i, i < ls.length → ∃ a b c d e, a < 4 ∧ (1 ≤ b ∧ b < 10) ∧ (1 ≤ c ∧ c < 10) ∧ d < 4 ∧ e < 100 ∧ R' 0 (gN g + i) = nI a ∧ R' 1 (gN g + i) = nI b ∧ R' 2 (gN g + i) = nI c ∧ R' 3 (gN g + i) = nI d ∧ R' 4 (gN g + i) = nI e := by
        intro i hi
        have hx : ls[i]? = some ls[i] := List.getElem?_eq_getElem hi
        obtain ⟨a, b, c, d, e, q1, q2, q3, q4, q5, q6⟩ := al ls[i] (List.getElem_mem hi)
        have r := fun p hp => ra.2 ls hl p hp i ls[i] hx
        rw [q6] at r
        exact ⟨a, b, c, d, e, q1, q2, q3, q4, q5, r 0 (by omega), r 1 (by omega), r 2 (by omega), r 3 (by omega), r 4 (by omega)⟩
      have rk : RoK R' (gN g + ls.length) := by
        intro j hj
        by_cases w : j < gN g
        · exact r0 j w
        · obtain ⟨i, rfl⟩ : ∃ i, j = gN g + i := ⟨j - gN g, by omega⟩
          obtain ⟨a, b, c, d, e, q1, q2, q3, q4, q5, s0, s1, s2, s3, s4⟩ := rn i (by omega)
          exact ⟨⟨a, q1, s0⟩, ⟨b, q2.1, q2.2, s1⟩, ⟨c, q3.1, q3.2, s2⟩, d, q4, s3⟩
      have st : St D (gN g + ls.length) (ntS (gS g) R' (gN g) ls.length) := St_nt o.2.2.2.1 _ n8 (fun i hi => by
        obtain ⟨a, b, c, d, e, q1, q2, q3, q4, q5, s0, s1, s2, s3, s4⟩ := rn i hi
        exact ⟨e, by omega, s4⟩)
      exact ⟨⟨n8, o.1.2.1, Nat.zero_le _, o.1.2.2.2.1, Nat.zero_le _, o.1.2.2.2.2.2.1, o.1.2.2.2.2.2.2.1, rk, o.1.2.2.2.2.2.2.2.2⟩, o.2.1, o.2.2.1, st, fun s hs => (by simp [gP] at hs), fun i s hs => (by simp [gK, noK] at hs), WaK_mo o.2.2.2.2.2.2 (by show gN g ≤ gN g + ls.length; omega)⟩
theorem ok_Seats {D : Nat} {g : GS} {R' E' : Nat → Nat → Int32} (o : Ok D g) (hR : ∀ p, p < 5 → R' p = gR g p) (ra : RAg (gE g) E' (gM g) (lnG g 1).2) : Ok D (nSeats g R' E') := by
  have hm := o.1.2.1
  have rk : RoK R' (gN g) := fun j hj => by
    rw [hR 0 (by omega), hR 1 (by omega), hR 2 (by omega), hR 3 (by omega)]
    exact o.1.r j hj
  have e0 : ∀ j, j < gM g → (∃ a, 1 ≤ a ∧ a < 100 ∧ E' 0 j = nI a) ∧ (∃ a, a < 100 ∧ E' 2 j = nI a) ∧ ∃ a, a < 10 ∧ E' 4 j = nI a := fun j hj => by
    rw [ra.1 0 (by omega) j hj, ra.1 2 (by omega) j hj, ra.1 4 (by omega) j hj]
    exact o.2.1 j hj
  unfold nSeats
  split
  · exact o
  next c =>
    cases hl : (lnG g 1).2 with
    | none =>
      exact ⟨⟨o.1.1, o.1.2.1, Nat.zero_le _, o.1.2.2.2.1, o.1.2.2.2.2.1, o.1.2.2.2.2.2.1, o.1.2.2.2.2.2.2.1, rk, o.1.2.2.2.2.2.2.2.2⟩, e0, o.2.2⟩
    | some ls =>
      have hl' : (rdLs (gT g) (gTn g) 76 1 (8 - gM g) 0).2 = some ls := hl
      have len := (rdLs_len _ _ ls hl').2
      have al := rdLs_al (fun p l h => ln1_ok h) _ _ ls hl'
      have m8 : gM g + ls.length ≤ 8 := by omega
      have sk : SeK E' (gM g + ls.length) := by
        intro j hj
        by_cases w : j < gM g
        · exact e0 j w
        · obtain ⟨i, rfl⟩ : ∃ i, j = gM g + i := ⟨j - gM g, by omega⟩
          have hi : i < ls.length := by omega
          have hx : ls[i]? = some ls[i] := List.getElem?_eq_getElem hi
          obtain ⟨a, b, c, q1, q2, q3, q4, q5, q6⟩ := al ls[i] (List.getElem_mem hi)
          have r := fun p hp => ra.2 ls hl p hp i ls[i] hx
          exact ⟨⟨a, q1.1, q1.2, by rw [r 0 (by omega)]; exact q4⟩, ⟨b, q2, by rw [r 2 (by omega)]; exact q5⟩, c, q3, by rw [r 4 (by omega)]; exact q6⟩
      exact ⟨⟨o.1.1, m8, Nat.zero_le _, o.1.2.2.2.1, Nat.zero_le _, o.1.2.2.2.2.2.1, o.1.2.2.2.2.2.2.1, rk, o.1.2.2.2.2.2.2.2.2⟩, sk, o.2.2.1, o.2.2.2.1, fun s hs => (by simp [gP] at hs), fun i s hs => (by simp [gK, noK] at hs), o.2.2.2.2.2.2⟩
