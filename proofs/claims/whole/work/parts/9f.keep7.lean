/-! the calls that only write the ROW -/
theorem lpG_inv {σ : Type} {F : Nat → σ → σ} {Q : σ → Prop} (h : ∀ i q, Q q → Q (F i q)) : ∀ f i q, Q q → Q (lpG F f i q)
  | 0, _, _, hq => hq
  | f + 1, i, q, hq => lpG_inv h f (i + 1) _ (h i q hq)
theorem lpF_inv {F : Nat → Qs → Qs} {Q : Qs → Prop} (h : ∀ i q, Q q → Q (F i q)) : ∀ f i q, Q q → Q (lpF F f i q)
  | 0, _, _, hq => hq
  | f + 1, i, q, hq => by rw [lpF]; exact lpF_inv h f (i + 1) _ (h i q hq)
theorem lwR_len {g : GS} {c : List Int32} : (lwR g c).2.length ≤ 2 := by
  unfold lwR
  refine lpG_inv (Q := fun q : Rs => q.2.length ≤ 2) (fun i q hq => ?_) _ _ _ (Nat.zero_le _)
  unfold lwO
  refine lpG_inv (Q := fun q : Rs => q.2.length ≤ 2) (fun j q hq => ?_) _ _ _ hq
  unfold lw1
  split
  · show (if q.1 = 0 then [(nI i).toInt64, (nI j).toInt64] else q.2).length ≤ 2
    split
    · exact Nat.le_refl _
    · exact hq
  · exact hq
theorem rsR_len {v : Int32} : (rsR v).2.length ≤ 2 := by
  unfold rsR
  refine lpG_inv (Q := fun q : Rs => q.2.length ≤ 2) (fun i q hq => ?_) _ _ _ (Nat.zero_le _)
  unfold rsO
  refine lpG_inv (Q := fun q : Rs => q.2.length ≤ 2) (fun j q hq => ?_) _ _ _ hq
  unfold rsS
  split
  · show (if q.1 = 0 then [(nI i).toInt64, (nI j).toInt64] else q.2).length ≤ 2
    split
    · exact Nat.le_refl _
    · exact hq
  · exact hq
def QL (w : Nat) (q : Qs) : Prop := ∀ b g p, q = some (b, g, p) → p.length = w
theorem cmp_QL {w : Nat} {q : Qs} {v x : Int32} {p : List Int32} (h : QL w q) (hp : p.length = w) : QL w (cmpQ q v x p) := by
  intro b g r e
  match q with
  | none => cases e; exact hp
  | some (a, c, d) =>
    unfold cmpQ at e
    dsimp only at e
    split at e
    · exact h b g r e
    · cases e; exact hp
theorem cdN_QL {dd gg : Nat → Nat → Int32} {w : Nat} : ∀ (r frm : Nat) (free : Nat → Bool) (d gn : Int32) (p : List Int32) (q : Qs), p.length + r = w → QL w q → QL w (cdN dd gg r frm free d gn p q)
  | 0, _, _, _, _, _, _, hp, hq => cmp_QL hq (by omega)
  | r + 1, frm, free, d, gn, p, q, hp, hq => by
    rw [cdN]
    refine lpF_inv (fun i q hq => lpF_inv (fun j q hq => ?_) _ _ _ hq) _ _ _ hq
    split
    · exact cdN_QL r _ _ _ _ _ _ (by rw [List.length_append]; show p.length + 1 + r = w; omega) hq
    · exact hq
theorem adC_QL {c : List Int32} {R : Nat → Nat → Int32} {lsp sw : Int32} {n f w : Nat} : ∀ (r : Nat) (s : Sta) (p : List Int32) (q : Qs), p.length + r = w → QL w q → QL w (adC c R lsp sw n f r s p q)
  | 0, _, _, _, hp, hq => cmp_QL hq (by omega)
  | r + 1, s, p, q, hp, hq => by
    rw [adC]
    split
    · exact hq
    · refine lpF_inv (fun i q hq => ?_) _ _ _ hq
      split
      · exact adC_QL r _ _ _ (by rw [List.length_append]; show p.length + 1 + r = w; omega) hq
      · exact hq
theorem QL_0 {w : Nat} : QL w none := fun _ _ _ e => by cases e
theorem ok_Law {D : Nat} {g : GS} (o : Ok D g) : Ok D (nLaw g) := by
  unfold nLaw
  cases hO : rdO (gT g) (gTn g) with
  | none => exact o.t (Nat.zero_le _)
  | some c => exact (o.t (Nat.zero_le _)).l (Nat.le_trans lwR_len (by omega))
theorem ok_Rests {D : Nat} {g : GS} {v : Int32} (o : Ok D g) : Ok D (nRests g v) := by
  unfold nRests
  split
  · exact o.l (Nat.le_trans rsR_len (by omega))
  · exact o
theorem ok_Card {D : Nat} {g : GS} {x : Int32} (o : Ok D g) : Ok D (nCard g x) := by
  unfold nCard
  split
  next c =>
    obtain ⟨w, hw1, hw2, rfl⟩ := inB_get c (by omega) (by omega)
    rw [nI_clamp (by omega)]
    cases hq : cdQ g w with
    | none => exact o
    | some bp =>
      obtain ⟨b, bg, p⟩ := bp
      have := cdN_QL (dd := cdD g) (gg := cdG g) (w := w) w 0 _ (nI 0) (nI 0) [] none (by show 0 + w = w; omega) QL_0 b bg p hq
      refine o.l ?_
      rw [flP_len]; omega
  next => exact o
theorem ok_Career {D : Nat} {g : GS} {x n : Int32} (o : Ok D g) : Ok D (nCareer g x n) := by
  unfold nCareer
  split
  next c =>
    obtain ⟨w, hw1, hw2, rfl⟩ := inB_get (and3 c).2 (by omega) (by omega)
    rw [nI_clamp (show w < 2 ^ 31 by omega)]
    split
    · exact o
    · refine o.l ?_
      rw [List.length_map]
      cases hq : cqG g x.toNatClampNeg w with
      | none => exact Nat.zero_le _
      | some bp =>
        obtain ⟨b, bg, p⟩ := bp
        have := adC_QL (w := w) w (gS g) [] none (by show 0 + w = w; omega) QL_0 b bg p hq
        show p.length ≤ 8
        omega
  next => exact o
theorem ok_Ranks {D : Nat} {g : GS} (o : Ok D g) : Ok D (nRanks g) := o.l (by rw [rkS_len]; exact o.1.1)
theorem ok_Even {D : Nat} {g : GS} (o : Ok D g) : Ok D (nEven g) := by
  unfold nEven
  cases evR g with
  | none => exact o
  | some q => exact o.l (show 2 ≤ 8 by omega)
theorem ok_if {D : Nat} {g : GS} {c : Prop} [Decidable c] {l : List Int64} (o : Ok D g) (h : l.length ≤ 8) : Ok D (if c then uL g l else g) := by
  split
  · exact o.l h
  · exact o
