/-! what every call keeps -/
def Ok (D : Nat) (g : GS) : Prop := Sz g ∧ Inv D g
theorem St.mo {D D' n : Nat} {s : Sta} (h : St D n s) (hd : D ≤ D') : St D' n s := ⟨h.1, by obtain ⟨d, h1, h2⟩ := h.2; exact ⟨d, by omega, h2⟩⟩
theorem Inv.mo {D D' : Nat} {g : GS} (y : Inv D g) (hd : D ≤ D') : Inv D' g := ⟨y.1, y.2.1, y.2.2.1.mo hd, fun s hs => (y.2.2.2.1 s hs).mo hd, fun i s hs => (y.2.2.2.2.1 i s hs).mo hd, y.2.2.2.2.2⟩
theorem Ok.mo {D D' : Nat} {g : GS} (o : Ok D g) (hd : D ≤ D') : Ok D' g := ⟨o.1, o.2.mo hd⟩
theorem Ok.l {D : Nat} {g : GS} {l : List Int64} (o : Ok D g) (h : l.length ≤ 8) : Ok D (uL g l) := ⟨⟨o.1.1, o.1.2.1, o.1.2.2.1, h, o.1.2.2.2.2⟩, o.2⟩
theorem Ok.s {D : Nat} {g : GS} {s : Sta} (o : Ok D g) (h : St D (gN g) s) : Ok D (uS g s) := ⟨o.1, o.2.1, o.2.2.1, h, o.2.2.2.2⟩
theorem Ok.t {D : Nat} {g : GS} {w : Nat × (Nat → Int32)} (o : Ok D g) (h : w.1 ≤ 80) : Ok D (uT g w) := ⟨⟨o.1.1, o.1.2.1, h, o.1.2.2.2⟩, o.2⟩
theorem Ok.p {D : Nat} {g : GS} (o : Ok D g) : Ok D (uP g (pushP (gP g) (gS g))) := by
  refine ⟨o.1.u (pushP_len o.1.2.2.2.2.1).1, o.2.1, o.2.2.1, o.2.2.2.1, fun s hs => ?_, o.2.2.2.2.2⟩
  have hs' : s ∈ pushP (gP g) (gS g) := hs
  unfold pushP at hs'
  split at hs'
  · rw [List.mem_append] at hs'
    rcases hs' with w | w
    · exact o.2.2.2.2.1 s (List.mem_of_mem_tail w)
    · simp at w; rw [w]; exact o.2.2.2.1
  · rw [List.mem_append] at hs'
    rcases hs' with w | w
    · exact o.2.2.2.2.1 s w
    · simp at w; rw [w]; exact o.2.2.2.1
theorem Ok.d {D : Nat} {g : GS} {s : Sta} (o : Ok D g) (h : St D (gN g) s) : Ok D (doG g s) := (o.p).s h
theorem Ok.a {D : Nat} {g : GS} {w : Nat × (Nat → Int32)} (o : Ok D g) (h : w.1 ≤ 20) (hk : WaK (gN g) w.2) : Ok D (uA g w) := ⟨⟨o.1.1, o.1.2.1, o.1.2.2.1, o.1.2.2.2.1, o.1.2.2.2.2.1, h, o.1.2.2.2.2.2.2⟩, o.2.1, o.2.2.1, o.2.2.2.1, o.2.2.2.2.1, o.2.2.2.2.2.1, hk⟩
theorem Ok.pi {D : Nat} {g : GS} (o : Ok D g) : PI (gN g) (gS g) := o.2.pi
theorem Ok.day {D : Nat} {g : GS} (o : Ok D g) : ∃ d, d ≤ D ∧ gS g 46 = nI d := o.2.2.2.1.2
theorem ok_Days {D : Nat} {g : GS} {d : Int32} (o : Ok D g) : Ok (D + 300) (nDays g d) := by
  unfold nDays
  split
  next c =>
    obtain ⟨h1, h2⟩ := and3 c
    have h1 := of_decide_eq_true h1
    have h2 := of_decide_eq_true h2
    obtain ⟨v, hv, rfl⟩ := nI_of (show ¬ d < 0 from Int32.not_lt.mpr (Int32.le_trans (by decide) h1))
    have hv30 : v ≤ 30 := (nI_leI hv (by omega)).mp h2
    refine (o.mo (Nat.le_add_right _ _)).d ⟨PI_ps o.1.1 o.pi, ?_⟩
    obtain ⟨d0, k1, k2⟩ := o.day
    exact ⟨d0 + v, by omega, by rw [ps_46 o.1.1, k2, nI_add]⟩
  next => exact o.mo (Nat.le_add_right _ _)
theorem ok_Song {D : Nat} {g : GS} {x p : Int32} (o : Ok D g) : Ok D (nSong g x p) := by
  unfold nSong
  split
  next c =>
    obtain ⟨q1, ⟨q2, q3⟩, q4, q5⟩ := sgA_yes c
    obtain ⟨j, hj, rfl⟩ := hasN_get q1 (by have := o.1.1; omega)
    obtain ⟨v, hv, rfl⟩ := nI_of (show ¬ p < 0 from Int32.not_lt.mpr (Int32.le_trans (by decide) q2))
    have := o.1.1
    rw [nI_clamp (by omega)]
    refine o.d ⟨PI_sg o.1.1 hj ((nI_leI hv (by omega)).mp q3) q5 o.pi, ?_⟩
    obtain ⟨d0, k1, k2⟩ := o.day
    refine ⟨d0, k1, ?_⟩
    unfold sgF likF
    rw [upd_n (by omega), upd_n (by omega)]
    exact k2
  next => exact o
theorem ok_Frees {D : Nat} {g : GS} {x : Int32} (o : Ok D g) : Ok D (nFrees g x) := by
  unfold nFrees
  split
  next c =>
    obtain ⟨q1, q2, q3⟩ := bfA_yes c
    obtain ⟨j, hj, rfl⟩ := hasN_get q1 (by have := o.1.1; omega)
    have := o.1.1
    rw [nI_clamp (by omega)] at q2 q3 ⊢
    have o4 := (own4 o.1.r hj).1
    refine o.d ⟨PI_bf o.1.1 o.1.r hj q2 q3 o.pi, ?_⟩
    obtain ⟨d0, k1, k2⟩ := o.day
    refine ⟨d0, k1, ?_⟩
    unfold bfF
    rw [upd_n (by omega), upd_n (by omega)]
    exact k2
  next => exact o
theorem ok_Fight {D : Nat} {g : GS} {x y : Int32} (o : Ok D g) : Ok D (nFight g x y) := by
  unfold nFight
  split
  next c =>
    have hn := o.1.1
    obtain ⟨p, q, hp, hq, hpq, rfl, rfl⟩ := hnF_in hn c
    obtain ⟨-, -, -, f1, f2⟩ := hnF_yes hn c (by omega) (by omega)
    rw [nI_clamp (by omega), nI_clamp (by omega)]
    obtain ⟨m1, m2, m3⟩ := PI_mt hn o.1.r o.2.sw hp hq hpq o.pi f1 f2
    obtain ⟨d0, k1, k2⟩ := o.day
    exact (o.d ⟨m1, d0, k1, by rw [m2]; exact k2⟩).l (by show 4 ≤ 8; omega)
  next => exact o
theorem ok_Sign {D : Nat} {g : GS} {v : Int32} (o : Ok D g) : Ok D (nSign g v) := by
  unfold nSign
  split
  next c => exact o.t c
  next => exact o
