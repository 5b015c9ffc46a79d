/-! how the class's heap holds what changes -/
theorem CI.text {h h' : Hp} {g : GS} {n : Nat} {T : Nat → Int32} (a : CI h g) (f : Fr [(9, 0), (34, 0)] h h') (e1 : h'.1 9 0 1 = nI n) (e2 : h'.1 34 0 = T) : CI h' (uT g (n, T)) :=
  a.with f.2 f.1 (Or.inl ⟨by simp, by simp, rfl, rfl⟩) (Or.inl ⟨by simp, by simp, rfl⟩) (Or.inl ⟨by simp, by simp, by simp, rfl⟩) (Or.inr ⟨e1, e2⟩) (Or.inl ⟨by simp, rfl⟩) (Or.inl ⟨by simp, by simp, rfl⟩) (Or.inl ⟨by simp, fun j _ _ => by simp, rfl⟩) (Or.inl ⟨by simp, fun j _ _ => by simp, rfl⟩) (Or.inl ⟨by simp, by simp, rfl⟩) (Or.inl ⟨by simp, by simp, by simp, rfl⟩)
/-- the reading place is nothing that shows -/
theorem CI.rd {h h' : Hp} {g : GS} (a : CI h g) (f : Fr [(9, 0)] h h') (e1 : h'.1 9 0 1 = h.1 9 0 1) : CI h' g :=
  a.with f.2 f.1 (Or.inl ⟨by simp, by simp, rfl, rfl⟩) (Or.inl ⟨by simp, by simp, rfl⟩) (Or.inl ⟨by simp, by simp, by simp, rfl⟩) (Or.inr ⟨by rw [e1]; exact a.2.2.2.1.1, by rw [f.2 34 0 (by simp)]; exact a.2.2.2.1.2⟩) (Or.inl ⟨by simp, rfl⟩) (Or.inl ⟨by simp, by simp, rfl⟩) (Or.inl ⟨by simp, fun j _ _ => by simp, rfl⟩) (Or.inl ⟨by simp, fun j _ _ => by simp, rfl⟩) (Or.inl ⟨by simp, by simp, rfl⟩) (Or.inl ⟨by simp, by simp, by simp, rfl⟩)
theorem CI.swo {h : Hp} {g : GS} {x : Int32} (a : CI h g) : CI (sX h 0 0 4 x) (uW g x) :=
  a.with (S := [(0, 0)]) (fun k i n => by rw [sX_row, if_neg (fun z => n (by rw [z.1, z.2]; simp))]) rfl (Or.inr ⟨by rw [sX_row, if_neg (by simp)]; exact a.1.1, by rw [rdX, if_pos (by simp)]⟩) (Or.inl ⟨by simp, by simp, rfl⟩) (Or.inl ⟨by simp, by simp, by simp, rfl⟩) (Or.inl ⟨by simp, by simp, rfl⟩) (Or.inl ⟨by simp, rfl⟩) (Or.inl ⟨by simp, by simp, rfl⟩) (Or.inl ⟨by simp, fun j _ _ => by simp, rfl⟩) (Or.inl ⟨by simp, fun j _ _ => by simp, rfl⟩) (Or.inl ⟨by simp, by simp, rfl⟩) (Or.inl ⟨by simp, by simp, by simp, rfl⟩)
theorem CI.wal {h h' : Hp} {g : GS} {n : Nat} {A : Nat → Int32} (a : CI h g) (f : Fr [(10, 0), (35, 0), (36, 0), (37, 0)] h h') (e1 : h'.1 10 0 4 = nI n) (e2 : h'.1 35 0 = A) : CI h' (uA g (n, A)) :=
  a.with f.2 f.1 (Or.inl ⟨by simp, by simp, rfl, rfl⟩) (Or.inl ⟨by simp, by simp, rfl⟩) (Or.inl ⟨by simp, by simp, by simp, rfl⟩) (Or.inl ⟨by simp, by simp, rfl⟩) (Or.inl ⟨by simp, rfl⟩) (Or.inl ⟨by simp, by simp, rfl⟩) (Or.inl ⟨by simp, fun j _ _ => by simp, rfl⟩) (Or.inl ⟨by simp, fun j _ _ => by simp, rfl⟩) (Or.inr ⟨e1, e2⟩) (Or.inl ⟨by simp, by simp, by simp, rfl⟩)
theorem CI.hea {h h' : Hp} {g : GS} {n : Nat} {K V : Nat → Int32} (a : CI h g) (f : Fr [(2, 0), (20, 0), (21, 0)] h h') (e1 : h'.1 2 0 2 = nI n) (e2 : h'.1 20 0 = K) (e3 : h'.1 21 0 = V) : CI h' (uH g (n, K, V)) :=
  a.with f.2 f.1 (Or.inl ⟨by simp, by simp, rfl, rfl⟩) (Or.inl ⟨by simp, by simp, rfl⟩) (Or.inl ⟨by simp, by simp, by simp, rfl⟩) (Or.inl ⟨by simp, by simp, rfl⟩) (Or.inl ⟨by simp, rfl⟩) (Or.inl ⟨by simp, by simp, rfl⟩) (Or.inl ⟨by simp, fun j _ _ => by simp, rfl⟩) (Or.inl ⟨by simp, fun j _ _ => by simp, rfl⟩) (Or.inl ⟨by simp, by simp, rfl⟩) (Or.inr ⟨e1, e2, e3⟩)
/-- the latest twelve -/
def pushP (p : List Sta) (s : Sta) : List Sta := if p.length = 12 then p.tail ++ [s] else p ++ [s]
theorem pushP_len {p : List Sta} {s : Sta} (h : p.length ≤ 12) : (pushP p s).length ≤ 12 ∧ 1 ≤ (pushP p s).length := by
  unfold pushP
  split
  · rw [List.length_append, List.length_tail]; simp; omega
  · rw [List.length_append]; simp; omega
theorem c_pushG1 {k : Nat} {h : Hp} {g : GS} (a : CI h g) (z : Sz g) : Ct alC mX4_push (k + 2) [vR 4 0, vR 8 1] h (fun _ h' => CI h' (uP g (pushP (gP g) (h.1 33 1))) ∧ h'.1 33 1 = h.1 33 1) := by
  obtain ⟨f, hf, k2, k3, k4⟩ := a.2.2.2.2.2.2.1
  have hl := z.2.2.2.2.1
  have key : ∀ f' m', ((gP g).length = 12 ∧ f' = (f + 1) % 12 ∧ m' = 11) ∨ ((gP g).length < 12 ∧ f' = f ∧ m' = (gP g).length) → CI (hPa (sV h 33 (3 + (f' + m') % 12) (h.1 33 1)) f' (m' + 1)) (uP g (pushP (gP g) (h.1 33 1))) := by
    intro f' m' e
    have hf' : f' < 12 := by rcases e with e | e <;> omega
    have hm' : m' < 12 := by rcases e with e | e <;> omega
    have row : ∀ i, (hPa (sV h 33 (3 + (f' + m') % 12) (h.1 33 1)) f' (m' + 1)).1 33 i = if i = 3 + (f' + m') % 12 then h.1 33 1 else h.1 33 i := by
      intro i
      rw [hPa_s, rdV]
      by_cases c : i = 3 + (f' + m') % 12
      · rw [if_pos ⟨rfl, c⟩, if_pos c]
      · rw [if_neg (fun z => c z.2), if_neg c]
    refine a.with (S := [(4, 0), (33, 3 + (f' + m') % 12)]) (fun k i n => ?_) rfl (Or.inl ⟨by simp; omega, by simp, rfl, rfl⟩) (Or.inl ⟨by simp, by simp, rfl⟩) (Or.inl ⟨by simp, by simp, by simp, rfl⟩) (Or.inl ⟨by simp, by simp, rfl⟩) (Or.inl ⟨by simp, rfl⟩) (Or.inl ⟨by simp, by simp, rfl⟩) (Or.inr ⟨f', hf', hPa_f, ?_, fun j st hj => ?_⟩) (Or.inr ⟨?_, fun j hj st e => ?_⟩) (Or.inl ⟨by simp, by simp, rfl⟩) (Or.inl ⟨by simp, by simp, by simp, rfl⟩)
    · unfold hPa
      rw [sX_row, if_neg (fun z => n (by rw [z.1, z.2]; simp)), sX_row, if_neg (fun z => n (by rw [z.1, z.2]; simp)), rdV, if_neg (fun z => n (by rw [z.1, z.2]; simp))]
    · rw [hPa_m]
      show _ = nI (pushP (gP g) (h.1 33 1)).length
      unfold pushP
      rcases e with e | e
      · rw [if_pos e.1, List.length_append, List.length_tail, e.1, e.2.2]; rfl
      · rw [if_neg (by omega), List.length_append, e.2.2]; rfl
    · have hj' : (pushP (gP g) (h.1 33 1))[j]? = some st := hj
      unfold pushP at hj'
      rw [row]
      rcases e with e | e
      · rw [if_pos e.1] at hj'
        by_cases c : j < 11
        · rw [List.getElem?_append_left (by rw [List.length_tail]; omega), List.getElem?_tail] at hj'
          rw [if_neg (by rw [e.2.1, e.2.2]; omega)]
          have := k4 (j + 1) st hj'
          rw [e.2.1, show ((f + 1) % 12 + j) % 12 = (f + (j + 1)) % 12 by omega]
          exact this
        · have hj11 : j = 11 := by
            have := (List.getElem?_eq_some_iff.mp hj').1
            rw [List.length_append, List.length_tail] at this
            simp at this
            omega
          subst hj11
          rw [List.getElem?_append_right (by rw [List.length_tail]; omega), List.length_tail, e.1] at hj'
          cases hj'
          rw [if_pos (by rw [e.2.2])]
      · rw [if_neg (by omega)] at hj'
        by_cases c : j < (gP g).length
        · rw [List.getElem?_append_left c] at hj'
          rw [if_neg (by rw [e.2.1, e.2.2]; omega), e.2.1]
          exact k4 j st hj'
        · have hjl : j = (gP g).length := by
            have := (List.getElem?_eq_some_iff.mp hj').1
            rw [List.length_append] at this
            simp at this
            omega
          rw [List.getElem?_append_right (by omega), hjl, Nat.sub_self] at hj'
          cases hj'
          rw [if_pos (by rw [e.2.2, hjl])]
    · unfold hPa
      rw [rdX, if_neg (by simp), rdX, if_neg (by simp), rdV, if_neg (by simp)]
      exact a.2.2.2.2.2.2.2.1.1
    · rw [row, if_neg (by omega)]
      exact a.2.2.2.2.2.2.2.1.2 j hj st e
  rcases Nat.lt_or_ge (gP g).length 12 with c | c
  · refine ct_post (c_push k2 k3 hf hl f (gP g).length (Or.inr ⟨c, rfl, rfl⟩)) ?_
    rintro v h' rfl
    exact ⟨key f (gP g).length (Or.inr ⟨c, rfl, rfl⟩), by rw [hPa_s, rdV, if_neg (by omega)]⟩
  · have c' : (gP g).length = 12 := by omega
    refine ct_post (c_push k2 k3 hf hl ((f + 1) % 12) 11 (Or.inl ⟨c', rfl, rfl⟩)) ?_
    rintro v h' rfl
    exact ⟨key ((f + 1) % 12) 11 (Or.inl ⟨c', rfl, rfl⟩), by rw [hPa_s, rdV, if_neg (by omega)]⟩
theorem c_pushG {k : Nat} {h : Hp} {g : GS} (a : CI h g) (z : Sz g) : Ct alC mX4_push (k + 2) [vR 4 0, vR 8 1] h (fun _ h' => CI h' (uP g (pushP (gP g) (h.1 33 1)))) := ct_post (c_pushG1 a z) (fun _ _ w => w.1)
/-- before.take(now), then what is done to now -/
theorem CI.bef {h : Hp} {g : GS} (a : CI h g) : CI (sV h 33 1 (h.1 33 0)) g := a.scr (fr_one (k := 33) (i := 1)) (by simp [scrL])
theorem CI.tri {h : Hp} {g : GS} {s : Sta} (a : CI h g) : CI (sV h 33 2 s) g := a.scr (fr_one (k := 33) (i := 2)) (by simp [scrL])
/-- now is what a call left there, and a stack -/
theorem CI.nowF {h h' : Hp} {g : GS} {b : Nat} {s : Sta} (a : CI h g) (hb : b < 2) (f : Fr [(33, 0), (27, b)] h h') (e : h'.1 33 0 = s) : CI h' (uS g s) :=
  a.with f.2 f.1 (Or.inr ⟨e, by rw [f.2 0 0 (by simp)]; exact a.1.2⟩) (Or.inl ⟨by simp, by simp, rfl⟩) (Or.inl ⟨by simp, by simp, by simp, rfl⟩) (Or.inl ⟨by simp, by simp, rfl⟩) (Or.inl ⟨by simp, rfl⟩) (Or.inl ⟨by simp, by simp, rfl⟩) (Or.inl ⟨by simp, fun j _ _ => by simp; omega, rfl⟩) (Or.inl ⟨by simp, fun j _ _ => by simp; omega, rfl⟩) (Or.inl ⟨by simp, by simp, rfl⟩) (Or.inl ⟨by simp, by simp, by simp, rfl⟩)
