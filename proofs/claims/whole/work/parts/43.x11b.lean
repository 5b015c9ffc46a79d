/-! the class's calls: doings, undone, kept -/
theorem c_remG {k : Nat} {h : Hp} {g : GS} {x : Int32} (a : CI h g) (z : Sz g) : Ct alC mX11_remembered (k + 3) [vR 11 0, vI x] h (fun v h' => v = vI x ∧ CI h' (if x < 0 then g else uP g (pushP (gP g) (h.1 33 1)))) := by
  refine ct_vc tX11_remembered [] 30 okC kX11_remembered rfl ?_
  refine ⟨fun c => ?_, fun c => ⟨_, c_pushG a z, ?_⟩⟩
  · rw [if_pos c]; exact ⟨rfl, a⟩
  · rw [if_neg c]
    rintro v h' ci
    exact ⟨rfl, ci⟩
theorem Sz.s {g : GS} {s : Sta} (z : Sz g) : Sz (uS g s) := z
theorem Sz.p {g : GS} {p : List Sta} (z : Sz g) (h : p.length ≤ 12) : Sz (uP g p) := ⟨z.1, z.2.1, z.2.2.1, z.2.2.2.1, h, z.2.2.2.2.2⟩
/-- something is done to now, and remembered -/
def doG (g : GS) (s : Sta) : GS := uP (uS g s) (pushP (gP g) (gS g))
def aDays (g : GS) (d : Int32) : Int32 := if okD d = true then psF (gN g) (gS g) d 46 else -(nI 1)
def nDays (g : GS) (d : Int32) : GS := if okD d = true then doG g (psF (gN g) (gS g) d) else g
theorem c_Days {k : Nat} {h : Hp} {g : GS} {d : Int32} (a : CI h g) (z : Sz g) (hd : okD d = true → ¬ psF (gN g) (gS g) d 46 < 0) : Ct alC mX11_days (k + 4) [vR 11 0, vI d] h (fun v h' => v = vI (aDays g d) ∧ CI h' (nDays g d)) := by
  refine ct_vc tX11_days [] 40 okC kX11_days rfl ?_
  refine ⟨_, c_take, ?_⟩
  rintro v h' rfl
  have b := a.bef
  refine ⟨_, c_pass b.2.1.2.1 z.1, ?_⟩
  rintro v h' ⟨rfl, rfl⟩
  rw [b.1.1]
  unfold aDays nDays
  by_cases c : okD d = true
  · simp only [if_pos c]
    have b2 := b.now (s := psF (gN g) (gS g) d)
    refine ⟨_, c_remG b2 z.s, ?_⟩
    rintro v h' ⟨rfl, ci⟩
    rw [if_neg (hd c)] at ci
    rw [rdV, if_neg (by simp), sV_same, a.1.1] at ci
    exact ⟨rfl, ci⟩
  · simp only [if_neg c]
    refine ⟨_, c_remG b z, ?_⟩
    rintro v h' ⟨rfl, ci⟩
    rw [if_pos (by decide)] at ci
    exact ⟨rfl, ci⟩
def aSong (g : GS) (x p : Int32) : Int32 := if sgA (gN g) (gS g) x p = 0 then sgF (gS g) x.toNatClampNeg p 45 else sgA (gN g) (gS g) x p
def nSong (g : GS) (x p : Int32) : GS := if sgA (gN g) (gS g) x p = 0 then doG g (sgF (gS g) x.toNatClampNeg p) else g
theorem sgA_neg {n : Nat} {s : Sta} {x p : Int32} (h : ¬ sgA n s x p = 0) : sgA n s x p < 0 := by
  unfold sgA at h ⊢
  split
  next c1 =>
    rw [if_pos c1] at h
    split
    next c2 =>
      rw [if_pos c2] at h
      split
      next c3 => rw [if_pos c3] at h; exact absurd rfl h
      · decide
    · decide
  · decide
theorem c_Song {k : Nat} {h : Hp} {g : GS} {x p : Int32} (a : CI h g) (z : Sz g) (hd : sgA (gN g) (gS g) x p = 0 → ¬ sgF (gS g) x.toNatClampNeg p 45 < 0) : Ct alC mX11_song (k + 4) [vR 11 0, vI x, vI p] h (fun v h' => v = vI (aSong g x p) ∧ CI h' (nSong g x p)) := by
  refine ct_vc tX11_song [] 40 okC kX11_song rfl ?_
  refine ⟨_, c_take, ?_⟩
  rintro v h' rfl
  have b := a.bef
  refine ⟨_, c_sing b.2.1.2.1 z.1, ?_⟩
  rintro v h' ⟨rfl, rfl⟩
  rw [b.1.1]
  unfold aSong nSong
  by_cases c : sgA (gN g) (gS g) x p = 0
  · simp only [if_pos c]
    have b2 := b.now (s := sgF (gS g) x.toNatClampNeg p)
    refine ⟨_, c_remG b2 z.s, ?_⟩
    rintro v h' ⟨rfl, ci⟩
    rw [if_neg (hd c)] at ci
    rw [rdV, if_neg (by simp), sV_same, a.1.1] at ci
    exact ⟨rfl, ci⟩
  · simp only [if_neg c]
    refine ⟨_, c_remG b z, ?_⟩
    rintro v h' ⟨rfl, ci⟩
    rw [if_pos (sgA_neg c)] at ci
    exact ⟨rfl, ci⟩
def aFrees (g : GS) (x : Int32) : Int32 := if bfA (gR g) (gN g) (gS g) x = 0 then bfF (gR g) (gS g) x.toNatClampNeg (40 + (gR g 3 x.toNatClampNeg).toNatClampNeg) else bfA (gR g) (gN g) (gS g) x
def nFrees (g : GS) (x : Int32) : GS := if bfA (gR g) (gN g) (gS g) x = 0 then doG g (bfF (gR g) (gS g) x.toNatClampNeg) else g
theorem bfA_neg {R : Nat → Nat → Int32} {n : Nat} {s : Sta} {x : Int32} (h : ¬ bfA R n s x = 0) : bfA R n s x < 0 := by
  unfold bfA at h ⊢
  split
  next c1 =>
    rw [if_pos c1] at h
    split
    next c2 =>
      rw [if_pos c2] at h
      split
      next c3 => rw [if_pos c3] at h; exact absurd rfl h
      · decide
    · decide
  · decide
theorem c_Frees {k : Nat} {h : Hp} {g : GS} {x : Int32} (a : CI h g) (z : Sz g) (hd : bfA (gR g) (gN g) (gS g) x = 0 → ¬ aFrees g x < 0) : Ct alC mX11_frees (k + 4) [vR 11 0, vI x] h (fun v h' => v = vI (aFrees g x) ∧ CI h' (nFrees g x)) := by
  refine ct_vc tX11_frees [] 40 okC kX11_frees rfl ?_
  refine ⟨_, c_take, ?_⟩
  rintro v h' rfl
  have b := a.bef
  have br : ro (sV h 33 1 (h.1 33 0)) 0 = gR g := b.2.1.2.2
  refine ⟨_, c_buyFree b.2.1.2.1 z.1 (by rw [br]; exact z.2.2.2.2.2.2.2.1), ?_⟩
  rintro v h' ⟨rfl, rfl⟩
  rw [b.1.1, br]
  unfold aFrees at hd ⊢
  unfold nFrees
  by_cases c : bfA (gR g) (gN g) (gS g) x = 0
  · have hd2 := hd c
    rw [if_pos c] at hd2
    simp only [if_pos c]
    have b2 := b.now (s := bfF (gR g) (gS g) x.toNatClampNeg)
    refine ⟨_, c_remG b2 z.s, ?_⟩
    rintro v h' ⟨rfl, ci⟩
    rw [if_neg hd2] at ci
    rw [rdV, if_neg (by simp), sV_same, a.1.1] at ci
    exact ⟨rfl, ci⟩
  · simp only [if_neg c]
    refine ⟨_, c_remG b z, ?_⟩
    rintro v h' ⟨rfl, ci⟩
    rw [if_pos (bfA_neg c)] at ci
    exact ⟨rfl, ci⟩
/-- what a FIGHT makes of a state, who wins -/
def mtG (g : GS) (s : Sta) (a d : Nat) : Sta := mtF (gC g) (gR g) (nI (lsG g)) (gW g) s a d
def wnG (g : GS) (s : Sta) (a d : Nat) : Nat := wnF (gC g) (gR g) s a d
def aFight (g : GS) (x y : Int32) : Int32 := if hnF (gN g) (gS g) x y = 0 then nI (wnG g (gS g) x.toNatClampNeg y.toNatClampNeg) else hnF (gN g) (gS g) x y
def rFight (g : GS) (s' : Sta) (a d w : Nat) : List Int64 := [if s' (32 + (a + d - w)) = nI 1 then lN 1 else lN 0, (s' a).toInt64, (s' d).toInt64, (s' 45).toInt64]
def nFight (g : GS) (x y : Int32) : GS := if hnF (gN g) (gS g) x y = 0 then uL (doG g (mtG g (gS g) x.toNatClampNeg y.toNatClampNeg)) (rFight g (mtG g (gS g) x.toNatClampNeg y.toNatClampNeg) x.toNatClampNeg y.toNatClampNeg (wnG g (gS g) x.toNatClampNeg y.toNatClampNeg)) else g
theorem c_addG {k : Nat} {h : Hp} {g : GS} {x : Int64} (a : CI h g) (hl : (gL g).length < 8) : Ct alC mX5_add k [vR 5 0, vL x] h (fun _ h' => CI h' (uL g (gL g ++ [x])) ∧ h'.1 33 = h.1 33) := by
  refine ct_post (c_radd a.2.2.2.2.1.1 hl) ?_
  rintro v h' rfl
  refine ⟨a.add, ?_⟩
  funext i
  unfold rAdd
  rw [sX_row, if_neg (by simp)]
  rfl
theorem c_clrG {k : Nat} {h : Hp} {g : GS} (a : CI h g) : Ct alC mX5_clear k [vR 5 0] h (fun _ h' => CI h' (uL g []) ∧ h'.1 33 = h.1 33) := by
  refine ct_post c_rclear ?_
  rintro v h' rfl
  refine ⟨a.clr, ?_⟩
  funext i
  rw [sX_row, if_neg (by simp)]
def aUndo (g : GS) : Int32 := if (gP g).length = 0 then -(nI 1) else nI ((gP g).length - 1)
def nUndo (g : GS) : GS := match (gP g).getLast? with
  | some s => uP (uS g s) (gP g).dropLast
  | none => g
theorem c_Undo {k : Nat} {h : Hp} {g : GS} (a : CI h g) (z : Sz g) : Ct alC mX11_undo (k + 3) [vR 11 0] h (fun v h' => v = vI (aUndo g) ∧ CI h' (nUndo g)) := by
  obtain ⟨f, hf, k2, k3, k4⟩ := a.2.2.2.2.2.2.1
  have hl := z.2.2.2.2.1
  refine ct_vc tX11_undo [] 40 okC kX11_undo rfl ?_
  unfold aUndo nUndo
  rcases List.eq_nil_or_concat (gP g) with hp | ⟨l, s, hp⟩
  · have c' : (gP g).length = 0 := by rw [hp]; rfl
    refine ⟨fun c => absurd (by rw [k3, c']; rfl) c, fun c => ?_⟩
    rw [if_pos c', hp]
    exact ⟨rfl, a⟩
  · have hp : gP g = l ++ [s] := by rw [hp]; exact List.concat_eq_append
    have hm : (gP g).length = l.length + 1 := by rw [hp, List.length_append]; rfl
    have hlast : (gP g).getLast? = some s := by rw [hp]; exact List.getLast?_concat
    have hdrop : (gP g).dropLast = l := by rw [hp]; exact List.dropLast_concat
    have e33 : h.1 33 (3 + (f + l.length) % 12) = s := k4 l.length s (by rw [hp, List.getElem?_append_right (Nat.le_refl _), Nat.sub_self]; rfl)
    refine ⟨fun c => ?_, fun c => absurd (k3.symm.trans (nn c)) (fun q => by have := (nI_eq (by omega) (by omega)).mp (show nI (gP g).length = nI 0 from q); omega)⟩
    rw [if_neg (by omega), hlast]
    dsimp only
    refine ⟨_, c_pop k2 (by rw [k3, hm]) hf (by omega), ?_⟩
    rintro v h' rfl
    refine ⟨?_, ?_⟩
    · show vI ((sV (sX h 4 0 3 (nI l.length)) 33 0 _).1 4 0 3) = _
      rw [rdVj, if_neg (by simp), rdX, if_pos (by simp), hm, Nat.add_sub_cancel]
    · rw [e33, hdrop]
      refine a.with (S := [(4, 0), (33, 0)]) (fun k i n => by rw [rdV, if_neg (fun z => n (by rw [z.1, z.2]; simp)), sX_row, if_neg (fun z => n (by rw [z.1, z.2]; simp))]) rfl (Or.inr ⟨sV_same, ?_⟩) (Or.inl ⟨by simp, by simp, rfl⟩) (Or.inl ⟨by simp, by simp, by simp, rfl⟩) (Or.inl ⟨by simp, by simp, rfl⟩) (Or.inl ⟨by simp, rfl⟩) (Or.inl ⟨by simp, by simp, rfl⟩) (Or.inr ⟨f, hf, ?_, ?_, fun j st hj => ?_⟩) (Or.inr ⟨?_, fun j hj st e => ?_⟩) (Or.inl ⟨by simp, by simp, rfl⟩) (Or.inl ⟨by simp, by simp, by simp, rfl⟩)
      · rw [rdV, if_neg (by simp), sX_row, if_neg (by simp)]; exact a.1.2
      · rw [rdV, if_neg (by simp), rdX, if_neg (by simp), k2]
      · rw [rdV, if_neg (by simp), rdX, if_pos (by simp)]
      · have hj' : l[j]? = some st := hj
        have hjl := (List.getElem?_eq_some_iff.mp hj').1
        rw [rdV, if_neg (by omega), sX_row, if_neg (by simp)]
        exact k4 j st (by rw [hp, List.getElem?_append_left hjl]; exact hj')
      · rw [rdV, if_neg (by simp), rdX, if_neg (by simp)]; exact a.2.2.2.2.2.2.2.1.1
      · rw [rdV, if_neg (by omega), sX_row, if_neg (by simp)]
        exact a.2.2.2.2.2.2.2.1.2 j hj st e
def nKeep (g : GS) (x : Int32) : GS := if okS x = true then uK g (fun j => if j = x.toNatClampNeg then some (gS g) else gK g j) else g
theorem klF_or {K : Nat → Option Sta} {s : Sta} : ∀ j, j < 2 → nI (klF K) ||| nI 1 <<< (nI j &&& 31) = nI (klF (fun i => if i = j then some s else K i)) := by
  intro j hj
  have : j = 0 ∨ j = 1 := by omega
  rcases this with rfl | rfl
  · unfold klF
    show nI ((if (K 0).isSome = true then 1 else 0) + if (K 1).isSome = true then 2 else 0) ||| nI 1 <<< (nI 0 &&& 31) = nI ((if true = true then 1 else 0) + if (K 1).isSome = true then 2 else 0)
    cases (K 0).isSome <;> cases (K 1).isSome <;> decide
  · unfold klF
    show nI ((if (K 0).isSome = true then 1 else 0) + if (K 1).isSome = true then 2 else 0) ||| nI 1 <<< (nI 1 &&& 31) = nI ((if (K 0).isSome = true then 1 else 0) + if true = true then 2 else 0)
    cases (K 0).isSome <;> cases (K 1).isSome <;> decide
theorem c_Keep {k : Nat} {h : Hp} {g : GS} {x : Int32} (a : CI h g) : Ct alC mX11_keep (k + 3) [vR 11 0, vI x] h (fun v h' => v = vI (b2 (okS x)) ∧ CI h' (nKeep g x)) := by
  refine ct_vc tX11_keep [] 30 okC kX11_keep rfl ?_
  refine ⟨_, c_shelve, ?_⟩
  rintro v h' ⟨rfl, rfl⟩
  refine ⟨b2_01 _, rfl, ?_⟩
  unfold nKeep
  split
  next c =>
    obtain ⟨j, hj, rfl⟩ := okS_get c
    rw [nI_clamp (by omega), a.1.1, a.2.2.2.2.2.2.2.1.1, klF_or (s := gS g) j hj]
    refine a.with (S := [(4, 0), (33, 15 + j)]) (fun k i n => by rw [sX_row, if_neg (fun z => n (by rw [z.1, z.2]; simp)), rdV, if_neg (fun z => n (by rw [z.1, z.2]; simp))]) rfl (Or.inl ⟨by simp; omega, by simp, rfl, rfl⟩) (Or.inl ⟨by simp, by simp, rfl⟩) (Or.inl ⟨by simp, by simp, by simp, rfl⟩) (Or.inl ⟨by simp, by simp, rfl⟩) (Or.inl ⟨by simp, rfl⟩) (Or.inl ⟨by simp, by simp, rfl⟩) (Or.inr ?_) (Or.inr ⟨?_, fun i hi st e => ?_⟩) (Or.inl ⟨by simp, by simp, rfl⟩) (Or.inl ⟨by simp, by simp, by simp, rfl⟩)
    · obtain ⟨f, hf, k2, k3, k4⟩ := a.2.2.2.2.2.2.1
      refine ⟨f, hf, ?_, ?_, fun i st hi => ?_⟩
      · rw [rdX, if_neg (by simp), rdV, if_neg (by simp), k2]
      · rw [rdX, if_neg (by simp), rdV, if_neg (by simp), k3]
      · rw [sX_row, if_neg (by simp), rdV, if_neg (by omega)]
        exact k4 i st hi
    · rw [rdX, if_pos (by simp)]
    · have e' : (if i = j then some (gS g) else gK g i) = some st := e
      rw [sX_row, if_neg (by simp), rdV]
      by_cases ci : i = j
      · rw [if_pos ci] at e'
        cases e'
        rw [if_pos ⟨rfl, by omega⟩]
      · rw [if_neg ci] at e'
        rw [if_neg (by omega)]
        exact a.2.2.2.2.2.2.2.1.2 i hi st e'
  next => exact a
def agB (g : GS) (x : Int32) : Bool := okS x && (gK g x.toNatClampNeg).isSome
def nAgain (g : GS) (x : Int32) : GS := if okS x = true then (match gK g x.toNatClampNeg with
  | some s => uP (uS g s) []
  | none => g) else g
theorem klF_bit {K : Nat → Option Sta} : ∀ j, j < 2 → (decide (nI (klF K) >>> (nI j &&& 31) &&& nI 1 = 0)) = !(K j).isSome := by
  intro j hj
  have : j = 0 ∨ j = 1 := by omega
  unfold klF
  rcases this with rfl | rfl <;> cases (K 0).isSome <;> cases (K 1).isSome <;> decide
theorem c_Again {k : Nat} {h : Hp} {g : GS} {x : Int32} (a : CI h g) : Ct alC mX11_again (k + 3) [vR 11 0, vI x] h (fun v h' => v = vI (b2 (agB g x)) ∧ CI h' (nAgain g x)) := by
  refine ct_vc tX11_again [] 30 okC kX11_again rfl ?_
  refine ⟨_, c_fetch, ?_⟩
  have e4 : h.1 4 0 4 = nI (klF (gK g)) := a.2.2.2.2.2.2.2.1.1
  rw [e4]
  have eB : (okS x && !decide ((nI (klF (gK g)) >>> (x &&& 31)) &&& nI 1 = 0)) = agB g x := by
    unfold agB
    cases c : okS x with
    | false => rfl
    | true =>
      obtain ⟨j, hj, rfl⟩ := okS_get c
      rw [klF_bit j hj, nI_clamp (by omega), Bool.not_not]
  rw [eB]
  rintro v h' ⟨rfl, rfl⟩
  refine ⟨b2_01 _, rfl, ?_⟩
  unfold nAgain
  split
  next c =>
    unfold agB at c
    obtain ⟨c1, c2⟩ := and3 c
    rw [if_pos c1]
    obtain ⟨j, hj, rfl⟩ := okS_get c1
    rw [nI_clamp (by omega)] at c2 ⊢
    obtain ⟨s, hs⟩ := Option.isSome_iff_exists.mp c2
    rw [hs]
    dsimp only
    rw [a.2.2.2.2.2.2.2.1.2 j hj s hs]
    refine a.with (S := [(4, 0), (33, 0)]) (fun k i n => by rw [sX_row, if_neg (fun z => n (by rw [z.1, z.2]; simp)), rdV, if_neg (fun z => n (by rw [z.1, z.2]; simp))]) rfl (Or.inr ⟨?_, ?_⟩) (Or.inl ⟨by simp, by simp, rfl⟩) (Or.inl ⟨by simp, by simp, by simp, rfl⟩) (Or.inl ⟨by simp, by simp, rfl⟩) (Or.inl ⟨by simp, rfl⟩) (Or.inl ⟨by simp, by simp, rfl⟩) (Or.inr ?_) (Or.inr ⟨?_, fun i hi st e => ?_⟩) (Or.inl ⟨by simp, by simp, rfl⟩) (Or.inl ⟨by simp, by simp, by simp, rfl⟩)
    · rw [sX_row, if_neg (by simp), sV_same]
    · rw [sX_row, if_neg (by simp), rdV, if_neg (by simp)]; exact a.1.2
    · obtain ⟨f, hf, k2, k3, k4⟩ := a.2.2.2.2.2.2.1
      refine ⟨f, hf, ?_, ?_, fun i st hi => ?_⟩
      · rw [rdX, if_neg (by simp), rdV, if_neg (by simp), k2]
      · rw [rdX, if_pos (by simp)]; rfl
      · have hi' : ([] : List Sta)[i]? = some st := hi
        simp at hi'
    · rw [rdX, if_neg (by simp), rdV, if_neg (by simp)]; exact a.2.2.2.2.2.2.2.1.1
    · rw [sX_row, if_neg (by simp), rdV, if_neg (by omega)]
      exact a.2.2.2.2.2.2.2.1.2 i hi st e
  next c =>
    split
    next c1 =>
      obtain ⟨j, hj, rfl⟩ := okS_get c1
      unfold agB at c
      rw [c1, Bool.true_and] at c
      rw [nI_clamp (by omega)] at c ⊢
      cases hs : gK g j with
      | none => exact a
      | some s => rw [hs] at c; exact absurd rfl c
    next => exact a
def aCount (g : GS) (x : Int32) : Int32 := if x = nI 0 then nI (gN g) else if x = nI 1 then nI (gM g) else if x = nI 2 then gW g else if x = nI 3 then gS g 45 else if x = nI 4 then gS g 46 else if x = nI 5 then btF (gS g) (nI 0) (gN g) else if x = nI 6 then btF (gS g) (nI 1) (gN g) else if x = nI 7 then btF (gS g) (nI 2) (gN g) else if x = nI 8 then bcF (gS g 44) else if x = nI 9 then nI (gV g) else if x = nI 10 then nI (gH g) else if x = nI 11 then nI (gP g).length else if x = nI 12 then nI (gL g).length else if x = nI 13 then nI (gTn g) else -(nI 1)
theorem c_Count {k : Nat} {h : Hp} {g : GS} {x : Int32} (a : CI h g) (z : Sz g) : Ct alC mX11_count (k + 2) [vR 11 0, vI x] h (Rd h (aCount g x)) := by
  obtain ⟨a1, a2, a3, a4, a5, a6, ⟨f, hf, k2, k3, k4⟩, a8, a9, a10⟩ := a
  refine ct_vc tX11_count [] 30 okC kX11_count rfl ?_
  refine swP_of _ (fun q hq e => ?_) (fun hn => ?_)
  · simp only [prs, List.tail_cons, List.mem_cons, List.not_mem_nil, or_false] at hq
    subst e
    unfold aCount
    rcases hq with rfl | rfl | rfl | rfl | rfl | rfl | rfl | rfl | rfl | rfl | rfl | rfl | rfl | rfl
    · rw [if_pos rfl]; exact ⟨congrArg vI a2.2.1, rfl⟩
    · rw [if_neg (by decide), if_pos rfl]; exact ⟨congrArg vI a3.2.1, rfl⟩
    · rw [if_neg (by decide), if_neg (by decide), if_pos rfl]; exact ⟨congrArg vI a1.2, rfl⟩
    · rw [if_neg (by decide), if_neg (by decide), if_neg (by decide), if_pos rfl, ← a1.1]
      refine ⟨_, c_means, ?_⟩; rintro v h' ⟨rfl, rfl⟩; exact ⟨rfl, rfl⟩
    · rw [if_neg (by decide), if_neg (by decide), if_neg (by decide), if_neg (by decide), if_pos rfl, ← a1.1]
      refine ⟨ix1 47 (by omega), ?_, rfl⟩
      rw [nI_clamp (by omega)]
    · rw [if_neg (by decide), if_neg (by decide), if_neg (by decide), if_neg (by decide), if_neg (by decide), if_pos rfl, ← a1.1]
      refine ⟨_, ct_cv (c_bits z.1) (congrArg (fun x => [vR 8 0, vI (nI 0), vI x]) a2.2.1) rfl, ?_⟩; rintro v h' ⟨rfl, rfl⟩; exact ⟨rfl, rfl⟩
    · rw [if_neg (by decide), if_neg (by decide), if_neg (by decide), if_neg (by decide), if_neg (by decide), if_neg (by decide), if_pos rfl, ← a1.1]
      refine ⟨_, ct_cv (c_bits z.1) (congrArg (fun x => [vR 8 0, vI (nI 1), vI x]) a2.2.1) rfl, ?_⟩; rintro v h' ⟨rfl, rfl⟩; exact ⟨rfl, rfl⟩
    · rw [if_neg (by decide), if_neg (by decide), if_neg (by decide), if_neg (by decide), if_neg (by decide), if_neg (by decide), if_neg (by decide), if_pos rfl, ← a1.1]
      refine ⟨_, ct_cv (c_bits z.1) (congrArg (fun x => [vR 8 0, vI (nI 2), vI x]) a2.2.1) rfl, ?_⟩; rintro v h' ⟨rfl, rfl⟩; exact ⟨rfl, rfl⟩
    · rw [if_neg (by decide), if_neg (by decide), if_neg (by decide), if_neg (by decide), if_neg (by decide), if_neg (by decide), if_neg (by decide), if_neg (by decide), if_pos rfl, ← a1.1]
      refine ⟨ix1 47 (by omega), ?_⟩
      rw [nI_clamp (by omega)]
      refine ⟨_, c_bitCount okC, ?_⟩; rintro v h' ⟨rfl, rfl⟩; exact ⟨rfl, rfl⟩
    · rw [if_neg (by decide), if_neg (by decide), if_neg (by decide), if_neg (by decide), if_neg (by decide), if_neg (by decide), if_neg (by decide), if_neg (by decide), if_neg (by decide), if_pos rfl]; exact ⟨congrArg vI a9.1, rfl⟩
    · rw [if_neg (by decide), if_neg (by decide), if_neg (by decide), if_neg (by decide), if_neg (by decide), if_neg (by decide), if_neg (by decide), if_neg (by decide), if_neg (by decide), if_neg (by decide), if_pos rfl]; exact ⟨congrArg vI a10.1, rfl⟩
    · rw [if_neg (by decide), if_neg (by decide), if_neg (by decide), if_neg (by decide), if_neg (by decide), if_neg (by decide), if_neg (by decide), if_neg (by decide), if_neg (by decide), if_neg (by decide), if_neg (by decide), if_pos rfl]; exact ⟨congrArg vI k3, rfl⟩
    · rw [if_neg (by decide), if_neg (by decide), if_neg (by decide), if_neg (by decide), if_neg (by decide), if_neg (by decide), if_neg (by decide), if_neg (by decide), if_neg (by decide), if_neg (by decide), if_neg (by decide), if_neg (by decide), if_pos rfl]; exact ⟨congrArg vI a5.1, rfl⟩
    · rw [if_neg (by decide), if_neg (by decide), if_neg (by decide), if_neg (by decide), if_neg (by decide), if_neg (by decide), if_neg (by decide), if_neg (by decide), if_neg (by decide), if_neg (by decide), if_neg (by decide), if_neg (by decide), if_neg (by decide), if_pos rfl]; exact ⟨congrArg vI a4.1, rfl⟩
  · refine ⟨?_, rfl⟩
    unfold aCount
    rw [if_neg (hn (0, 72) (by decide)), if_neg (hn (1, 80) (by decide)), if_neg (hn (2, 91) (by decide)), if_neg (hn (3, 99) (by decide)), if_neg (hn (4, 107) (by decide)), if_neg (hn (5, 118) (by decide)), if_neg (hn (6, 134) (by decide)), if_neg (hn (7, 150) (by decide)), if_neg (hn (8, 166) (by decide)), if_neg (hn (9, 180) (by decide)), if_neg (hn (10, 188) (by decide)), if_neg (hn (11, 196) (by decide)), if_neg (hn (12, 204) (by decide)), if_neg (hn (13, 212) (by decide))]
