/-! the calls that only write the ROW: the rest -/
theorem ok_Thumbs {D : Nat} {g : GS} {x : Int32} (o : Ok D g) : Ok D (nThumbs g x) := ok_if o (by show 2 ≤ 8; omega)
theorem ok_Claque {D : Nat} {g : GS} {x : Int32} (o : Ok D g) : Ok D (nClaque g x) := ok_if o (by show 1 ≤ 8; omega)
theorem ok_Tips {D : Nat} {g : GS} {x : Int32} (o : Ok D g) : Ok D (nTips g x) := ok_if o (by show 1 ≤ 8; omega)
theorem ok_Would {D : Nat} {g : GS} {x y : Int32} (o : Ok D g) : Ok D (nWould g x y) := ok_if o (by show 2 ≤ 8; omega)
theorem ok_Beats {D : Nat} {g : GS} {x : Int32} (o : Ok D g) : Ok D (nBeats g x) := by
  unfold nBeats
  split
  · exact ok_if o (by show 1 ≤ 8; omega)
  · exact o
theorem ok_Worth {D : Nat} {g : GS} {x : Int32} (o : Ok D g) : Ok D (nWorth g x) := ok_if o (by show 2 ≤ 8; omega)
theorem ok_Hires {D : Nat} {g : GS} {x : Int32} (o : Ok D g) : Ok D (nHires g x) := ok_if o (by show 2 ≤ 8; omega)
theorem ok_Fits {D : Nat} {g : GS} (o : Ok D g) : Ok D (nFits g) := o.l (by show 1 ≤ 8; omega)
theorem ok_Ask {D : Nat} {g : GS} (o : Ok D g) : Ok D (nAsk g) := by
  unfold nAsk
  split
  · exact o
  · exact o.l (by show 1 ≤ 8; omega)
theorem ok_Odds {D : Nat} {g : GS} {n k p : Int32} (o : Ok D g) : Ok D (nOdds g n k p) := ok_if o (by show 2 ≤ 8; omega)
theorem ok_Till {D : Nat} {g : GS} {n k p : Int32} (o : Ok D g) : Ok D (nTill g n k p) := ok_if o (by show 2 ≤ 8; omega)
theorem ok_Years {D : Nat} {g : GS} {x n : Int32} (o : Ok D g) : Ok D (nYears g x n) := by
  unfold nYears
  split
  · exact o
  · exact ok_if o (by show 3 ≤ 8; omega)
theorem ok_Stands {D : Nat} {g : GS} {x p : Int32} (o : Ok D g) : Ok D (nStands g x p) := ok_if o (by show 2 ≤ 8; omega)
theorem ok_Watch {D : Nat} {g : GS} (o : Ok D g) : Ok D (nWatch g) := by
  unfold nWatch
  split
  · exact o
  · exact o.l (by show 2 ≤ 8; omega)
/-- the premises of the class's days, songs, freeings -/
theorem nn_Days {D : Nat} {g : GS} {d : Int32} (o : Ok D g) (hD : D ≤ 900000000) (hd : okD d = true) : ¬ psF (gN g) (gS g) d 46 < 0 := by
  have h : pl1 g (gS g) (nI 100, d, nI 0) = some (psF (gN g) (gS g) d) := by unfold pl1; rw [if_neg (show ¬ nI 100 = nI 102 by decide), if_pos rfl, if_pos hd]
  have := (pl1_ok o.1.1 o.1.r o.2.sw o.2.2.2.1 (by omega) h).2
  unfold pv1 at this
  rw [if_neg (show ¬ nI 100 = nI 102 by decide), if_pos rfl] at this
  exact this
theorem nn_Song {D : Nat} {g : GS} {x p : Int32} (o : Ok D g) (h : sgA (gN g) (gS g) x p = 0) : ¬ sgF (gS g) x.toNatClampNeg p 45 < 0 := by
  have hn := o.1.1
  obtain ⟨q1, ⟨q2, q3⟩, q4, q5⟩ := sgA_yes h
  obtain ⟨j, hj, rfl⟩ := hasN_get q1 (by omega)
  obtain ⟨v, hv, rfl⟩ := nI_of (show ¬ p < 0 from Int32.not_lt.mpr (Int32.le_trans (by decide) q2))
  obtain ⟨m, hm, em⟩ := o.pi.2.1.2
  rw [em] at q5
  have q6 := (nI_leI hv (by omega)).mp q5
  rw [nI_clamp (by omega)]
  unfold sgF likF
  rw [upd_n (by omega), upd_s, em, pk_sub q6]
  exact nI_pos (by omega)
theorem nn_Frees {D : Nat} {g : GS} {x : Int32} (o : Ok D g) (h : bfA (gR g) (gN g) (gS g) x = 0) : ¬ aFrees g x < 0 := by
  have hn := o.1.1
  unfold aFrees
  rw [if_pos h]
  obtain ⟨q1, q2, q3⟩ := bfA_yes h
  obtain ⟨j, hj, rfl⟩ := hasN_get q1 (by omega)
  rw [nI_clamp (by omega)] at q2 q3 ⊢
  have o4 := (own4 o.1.r hj).1
  obtain ⟨hh, h1, h2, h3⟩ := hire9 o.1.r hj
  obtain ⟨pp, hpp, epp⟩ := o.pi.2.1.1 _ o4
  have hbd := bd_le hn o.pi.1
  unfold bfF
  rw [upd_n (by omega), upd_s]
  rw [h3, nI_mul, epp] at q3 ⊢
  have q5 := (nI_leI (by omega) (by omega)).mp q3
  rw [pk_sub q5]
  exact nI_pos (by omega)
