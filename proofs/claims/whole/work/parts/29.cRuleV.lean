/-! class Rule: what a rule says (value) -/
theorem swP_of {x : Int32} {d : Nat} {K : Nat → Prop} : ∀ (cs : List (Nat × Nat)), (∀ q, q ∈ cs → x = nI q.1 → K q.2) → ((∀ q, q ∈ cs → ¬ x = nI q.1) → K d) → swP x d cs K
  | [], _, h2 => h2 (fun _ h => by cases h)
  | (v, t) :: r, h1, h2 => ⟨fun e => h1 (v, t) List.mem_cons_self e, fun e => swP_of r (fun q hq => h1 q (List.mem_cons_of_mem _ hq)) (fun h3 => h2 (fun q hq => (List.mem_cons.mp hq).elim (fun z => by subst z; exact e) (h3 q)))⟩
/-- a letter of a rule -/
def isLt (x : Int32) : Bool := decide (x = nI 97) || decide (x = nI 100) || decide (x = nI 101) || decide (x = nI 102) || decide (x = nI 104) || decide (x = nI 108) || decide (x = nI 115) || decide (x = nI 119)
theorem c_isLetter {k : Nat} {h : Hp} {x : Int32} : Ct alC mX6_isLetter k [vI x] h (Rd h (b2 (isLt x))) := by
  refine ct_vc tX6_isLetter [] 30 okC kX6_isLetter rfl ?_
  refine swP_of _ (fun q hq e => ?_) (fun hn => ?_)
  · simp only [prs, List.tail_cons, List.mem_cons, List.not_mem_nil, or_false] at hq
    subst e
    rcases hq with rfl | rfl | rfl | rfl | rfl | rfl | rfl | rfl | rfl | rfl | rfl | rfl | rfl | rfl | rfl | rfl | rfl | rfl | rfl | rfl | rfl | rfl | rfl <;> first | exact ⟨Or.inr rfl, bT (by decide), rfl⟩ | exact ⟨Or.inl rfl, bF (by decide), rfl⟩
  · have hf : isLt x = false := by
      unfold isLt
      rw [dF (hn (97, 108) (by decide)), dF (hn (100, 108) (by decide)), dF (hn (101, 108) (by decide)), dF (hn (102, 108) (by decide)), dF (hn (104, 108) (by decide)), dF (hn (108, 108) (by decide)), dF (hn (115, 108) (by decide)), dF (hn (119, 108) (by decide))]
      rfl
    exact ⟨Or.inl rfl, bF hf, rfl⟩
/-- what a letter says -/
def ltF (R : Nat → Nat → Int32) (s : Nat → Int32) (one oth : Nat) (x : Int32) : Int32 := if x = nI 97 then R 0 one else if x = nI 101 then R 0 oth else if x = nI 102 then s (16 + one) else if x = nI 104 then s (8 + one) else if x = nI 108 then s one / nI 10 else if x = nI 115 then R 1 one else if x = nI 119 then s (24 + one) else s 46 - s 46 / nI 8 * nI 8
theorem c_letter {k q i one oth : Nat} {h : Hp} {x : Int32} (h1 : one < 8) (h2 : oth < 8) : Ct alC mX6_letter (k + 1) [vI x, vR 3 q, vR 8 i, vI (nI one), vI (nI oth)] h (Rd h (ltF (ro h q) (h.1 33 i) one oth x)) := by
  have dflt : (¬ x = nI 97) → (¬ x = nI 101) → (¬ x = nI 102) → (¬ x = nI 104) → (¬ x = nI 108) → (¬ x = nI 115) → (¬ x = nI 119) → WP alC mX6_letter (k + 1) (Rd h (ltF (ro h q) (h.1 33 i) one oth x)) 157 [none, none, some (vR 8 i), none, none] [] h := by
    intro a1 a2 a3 a4 a5 a6 a7
    refine wp_at tX6_letter [] 20 157 okC kX6_letter ⟨ix1 47 (by omega), by decide, ?_, rfl⟩
    unfold ltF
    rw [if_neg a1, if_neg a2, if_neg a3, if_neg a4, if_neg a5, if_neg a6, if_neg a7]
    rfl
  refine ct_vc tX6_letter [(157, [false, false, true, false, false])] 30 okC kX6_letter rfl ?_
  refine swP_of _ (fun q hq e => ?_) (fun hn => ?_)
  · simp only [prs, List.tail_cons, List.mem_cons, List.not_mem_nil, or_false] at hq
    subst e
    rcases hq with rfl | rfl | rfl | rfl | rfl | rfl | rfl | rfl | rfl | rfl | rfl | rfl | rfl | rfl | rfl | rfl | rfl | rfl | rfl | rfl | rfl | rfl | rfl <;> first
      | exact dflt (by decide) (by decide) (by decide) (by decide) (by decide) (by decide) (by decide)
      | (refine ⟨_, c_of (by omega) (by omega), ?_⟩; rintro v h' ⟨rfl, rfl⟩; exact ⟨rfl, rfl⟩)
      | (refine ⟨_, c_hurt (by omega), ?_⟩; rintro v h' ⟨rfl, rfl⟩; exact ⟨rfl, rfl⟩)
      | (refine ⟨_, c_won (by omega), ?_⟩; rintro v h' ⟨rfl, rfl⟩; exact ⟨rfl, rfl⟩)
      | (refine ⟨_, c_fought (by omega), ?_⟩; rintro v h' ⟨rfl, rfl⟩; exact ⟨rfl, rfl⟩)
      | (refine ⟨_, c_favour (by omega), ?_⟩; rintro v h' ⟨rfl, rfl⟩; exact ⟨by decide, rfl, rfl⟩)
  · exact dflt (hn (97, 142) (by decide)) (hn (101, 149) (by decide)) (hn (102, 127) (by decide)) (hn (104, 115) (by decide)) (hn (108, 133) (by decide)) (hn (115, 108) (by decide)) (hn (119, 121) (by decide))
/-- an operator -/
def jnF (o a b : Int32) : Int32 := if o = nI 42 then a * b else if o = nI 43 then a + b else if o = nI 45 then a - b else if o = nI 60 then b2 (decide (a < b)) else if o = nI 61 then b2 (decide (a = b)) else if o = nI 62 then b2 (decide (b < a)) else if b = 0 then nI 0 else a / b
theorem c_joined {k : Nat} {h : Hp} {o a b : Int32} : Ct alC mX6_joined k [vI o, vI a, vI b] h (Rd h (jnF o a b)) := by
  refine ct_vc tX6_joined [] 30 okC kX6_joined rfl ?_
  unfold jnF
  refine ⟨fun e => ?_, fun e0 => ⟨fun e => ?_, fun e1 => ⟨fun e => ?_, fun e2 => ⟨fun e => ?_, fun e3 => ⟨fun e => ?_, fun e4 => ⟨fun e => ?_, fun e5 => ?_⟩⟩⟩⟩⟩⟩
  · rw [if_pos e]; exact ⟨rfl, rfl⟩
  · rw [if_neg e0, if_pos e]; exact ⟨rfl, rfl⟩
  · rw [if_neg e0, if_neg e1, if_pos e]; exact ⟨rfl, rfl⟩
  · rw [if_neg e0, if_neg e1, if_neg e2, if_pos e]
    exact ⟨fun c => ⟨bF (dF (i_ltn c)), rfl⟩, fun c => ⟨bT (dT (i_nle c)), rfl⟩⟩
  · rw [if_neg e0, if_neg e1, if_neg e2, if_neg e3, if_pos e]
    exact ⟨fun c => ⟨bF (dF c), rfl⟩, fun c => ⟨bT (dT (nn c)), rfl⟩⟩
  · rw [if_neg e0, if_neg e1, if_neg e2, if_neg e3, if_neg e4, if_pos e]
    exact ⟨fun c => ⟨bF (dF (i_ltn c)), rfl⟩, fun c => ⟨bT (dT (i_nle c)), rfl⟩⟩
  · rw [if_neg e0, if_neg e1, if_neg e2, if_neg e3, if_neg e4, if_neg e5]
    refine ⟨fun c => ⟨c, ?_, rfl⟩, fun c => ⟨?_, rfl⟩⟩
    · rw [if_neg c]
    · rw [if_pos (nn c)]
/-- one step on a stack (its top first) -/
def ev1 (lf : Int32 → Int32) (x : Int32) (st : List Int32) : Option (List Int32) := if 0 ≤ x then some (x :: st) else if isLt (-x) = true then some (lf (-x) :: st) else if x = -(nI 126) then (match st with
  | a :: t => some (-a :: t)
  | [] => none) else (match st with
  | b :: a :: t => some (jnF (-x) a b :: t)
  | _ => none)
def evN (lf : Int32 → Int32) (sp : Nat → Int32) : Nat → Option (List Int32)
  | 0 => some []
  | n + 1 => (evN lf sp n).bind (ev1 lf (sp n))
theorem ev1_len {lf : Int32 → Int32} {x : Int32} {st st' : List Int32} (h : ev1 lf x st = some st') : st'.length ≤ st.length + 1 ∧ 1 ≤ st'.length := by
  unfold ev1 at h
  split at h
  · cases h; simp
  · split at h
    · cases h; simp
    · split at h
      · split at h
        · cases h; simp
        · cases h
      · split at h
        · cases h; simp
        · cases h
theorem evN_len {lf : Int32 → Int32} {sp : Nat → Int32} : ∀ {n : Nat} {st : List Int32}, evN lf sp n = some st → st.length ≤ n
  | 0, st, h => by cases h; simp
  | n + 1, st, h => by
    rw [evN] at h
    obtain ⟨s0, h1, h2⟩ := Option.bind_eq_some_iff.mp h
    have := evN_len h1
    have := (ev1_len h2).1
    omega
theorem evN_some {lf : Int32 → Int32} {sp : Nat → Int32} {n : Nat} {st : List Int32} (h : evN lf sp (n + 1) = some st) : ∃ s0, evN lf sp n = some s0 ∧ ev1 lf (sp n) s0 = some st := Option.bind_eq_some_iff.mp h
theorem evN_dn {lf : Int32 → Int32} {sp : Nat → Int32} {n m : Nat} (h : n ≤ m) {st : List Int32} (e : evN lf sp m = some st) : ∃ s0, evN lf sp n = some s0 := by
  obtain ⟨d, rfl⟩ : ∃ d, m = n + d := ⟨m - n, by omega⟩
  induction d generalizing st with
  | zero => exact ⟨st, e⟩
  | succ d ih =>
    obtain ⟨s0, h1, -⟩ := evN_some (show evN lf sp (n + d + 1) = some st from e)
    exact ih (by omega) h1
/-- the array g holds the stack, its bottom first -/
def hld (g : Nat → Int32) (st : List Int32) : Prop := ∀ j, j < st.length → st.reverse[j]? = some (g j)
theorem hld_push {g : Nat → Int32} {st : List Int32} {x : Int32} (h : hld g st) : hld (upd g st.length x) (x :: st) := by
  intro j hj
  rw [List.reverse_cons]
  by_cases c : j = st.length
  · subst c
    rw [upd_s, List.getElem?_append_right (by simp)]
    simp
  · rw [upd_n c, List.getElem?_append_left (by simp at hj ⊢; omega)]
    exact h j (by simp at hj; omega)
theorem hld_top {g : Nat → Int32} {st : List Int32} {a : Int32} (h : hld g (a :: st)) : g st.length = a ∧ hld g st := by
  refine ⟨?_, fun j hj => ?_⟩
  · have := h st.length (by simp)
    rw [List.reverse_cons, List.getElem?_append_right (by simp)] at this
    simpa using this.symm
  · have := h j (by simp; omega)
    rw [List.reverse_cons, List.getElem?_append_left (by simpa using hj)] at this
    exact this
theorem sV_id {h : Hp} {k i : Nat} : sV h k i (h.1 k i) = h := by
  refine hp_eq (fun k' i' => ?_) rfl
  rw [rdV]
  split
  next c => obtain ⟨rfl, rfl⟩ := c; rfl
  next => rfl
theorem c_value {k b q i one oth m : Nat} {h : Hp} {v : Int32} (h1 : one < 8) (h2 : oth < 8) (hm : h.1 6 b 2 = nI m) (hm1 : 1 ≤ m) (hm2 : m ≤ 40) (hev : evN (ltF (ro h q) (h.1 33 i) one oth) (h.1 26 b) m = some [v]) : Ct alC mX6_value (k + 2) [vR 6 b, vR 3 q, vR 8 i, vI (nI one), vI (nI oth)] h (fun x h' => x = vI v ∧ ∃ g, h' = sV h 27 b g) := by
  have L : ∀ t, t ≤ m → ∀ (g : Nat → Int32) (st : List Int32), evN (ltF (ro h q) (h.1 33 i) one oth) (h.1 26 b) t = some st → hld g st → WP alC mX6_value (k + 2) (fun x h' => x = vI v ∧ ∃ g, h' = sV h 27 b g) 6 [some (vR 6 b), some (vR 3 q), some (vR 8 i), some (vI (nI one)), some (vI (nI oth)), some (vI (nI st.length)), some (vI (nI t)), none] [] (sV h 27 b g) := by
    refine loop_up m ?_ (fun t ht ih => ?_)
    · intro g st e hg
      rw [hev] at e
      cases e
      refine wp_at tX6_value [] 20 6 okC kX6_value ⟨fun _ => ⟨ix1 40 (by omega), ?_, g, rfl⟩, fun c => ?_⟩
      · have := hg 0 (by simp)
        rw [nI_clamp (by omega), sV_same]
        have e2 : some v = some (g 0) := this
        cases e2
        rfl
      · exfalso
        have c' : ¬ (sV h 27 b g).1 6 b 2 ≤ nI m := c
        rw [rdVj, if_neg (by simp), hm] at c'
        exact c' (nI_le (Nat.le_refl _) (by omega))
    · intro g st e hg
      have hlen := evN_len e
      obtain ⟨st2, e2⟩ := evN_dn (show t + 1 ≤ m by omega) hev
      obtain ⟨s0, e3, e4⟩ := evN_some e2
      rw [e] at e3
      cases e3
      have ih := ih
      rw [← nI_add t 1] at ih
      have r1 : (sV h 27 b g).1 6 b 2 = nI m := by rw [rdVj, if_neg (by simp), hm]
      have r2 : (sV h 27 b g).1 26 b = h.1 26 b := by rw [rdV, if_neg (by simp)]
      have r3 : ro (sV h 27 b g) q = ro h q := by funext p; show (sV h 27 b g).1 38 (5 * q + p) = _; rw [rdV, if_neg (by simp)]
      have r4 : (sV h 27 b g).1 33 i = h.1 33 i := by rw [rdV, if_neg (by simp)]
      refine wp_at tX6_value [(6, [true, true, true, true, true, true, true, false])] 70 6 okC kX6_value ⟨fun c => absurd c (by rw [r1]; exact nI_ge ht (by omega)), fun _ => ⟨fun c => absurd c (nI_ge (by omega) (by omega)), fun c40 => ⟨ix1 40 (by omega), ?_⟩⟩⟩
      clear c40
      rw [nI_clamp (by omega), r2]
      unfold ev1 at e4
      refine ⟨fun c => ⟨_, c_isLetter, ?_⟩, fun c => ⟨ix1 40 (by omega), ?_⟩⟩
      · rintro x h' ⟨rfl, rfl⟩
        rw [if_neg (i_len c)] at e4
        refine ⟨fun c2 => ⟨fun c3 => ?_, fun c3 => ?_⟩, fun c2 => ⟨_, c_letter h1 h2, ?_⟩⟩
        · rw [if_neg (by rw [b2_0.mp c2]; decide), if_neg c3] at e4
          split at e4
          next b0 a0 st0 =>
            cases e4
            obtain ⟨g1, g2⟩ := hld_top hg
            obtain ⟨g3, g4⟩ := hld_top g2
            have hl3 : st0.length + 2 ≤ t := hlen
            have m1 : nI (b0 :: a0 :: st0).length + -(nI 1) = nI (st0.length + 1) := pk_m1 _
            have m2 : nI (st0.length + 1) - nI 1 = nI st0.length := pk_sub (by omega)
            refine ⟨fun c => absurd c (nI_ge (show 1 < st0.length + 1 + 1 by omega) (by omega)), fun _ => ⟨?_, ?_, ?_⟩⟩
            · rw [m1, m2]; exact ix1 40 (by omega)
            · rw [m1]; exact ix1 40 (by omega)
            · rw [m1, m2, nI_clamp (by omega), nI_clamp (by omega), sV_same]
              refine ⟨_, c_joined, ?_⟩
              rintro x h' ⟨rfl, rfl⟩
              refine ⟨ix1 40 (by omega), ?_⟩
              have hg1 : g (st0.length + 1) = b0 := g1
              rw [nI_clamp (by omega), hg1, g3, sV_sX]
              have := ih _ _ e2 (hld_push g4)
              exact this
          next => cases e4
        · rw [if_neg (by rw [b2_0.mp c2]; decide), if_pos (nn c3)] at e4
          split at e4
          next a0 st0 =>
            cases e4
            obtain ⟨g1, g2⟩ := hld_top hg
            have hl3 : st0.length + 1 ≤ t := hlen
            have m2 : nI (a0 :: st0).length - nI 1 = nI st0.length := (pk_sub (by omega) : nI (st0.length + 1) - nI 1 = nI st0.length)
            refine ⟨fun c => absurd c (nI_ge (show 0 < st0.length + 1 by omega) (by omega)), fun _ => ⟨?_, ?_, ?_⟩⟩
            · rw [m2]; exact ix1 40 (by omega)
            · rw [m2]; exact ix1 40 (by omega)
            · rw [m2, nI_clamp (by omega), sV_same, g1, sV_sX]
              have := ih _ _ e2 (hld_push g2)
              exact this
          next => cases e4
        · rintro x h' ⟨rfl, rfl⟩
          rw [if_pos (b2_n0.mp c2)] at e4
          cases e4
          refine ⟨ix1 40 (by omega), ?_⟩
          rw [nI_clamp (by omega), r3, r4, sV_sX]
          have := ih _ _ e2 (hld_push hg)
          rw [List.length_cons, ← nI_add st.length 1] at this
          exact this
      · rw [if_pos (i_nlt c)] at e4
        cases e4
        rw [nI_clamp (by omega), sV_sX]
        have := ih _ _ e2 (hld_push hg)
        rw [List.length_cons, ← nI_add st.length 1] at this
        exact this
  refine ct_vc tX6_value [(6, [true, true, true, true, true, true, true, false])] 20 okC kX6_value rfl ?_
  have := L 0 (by omega) (h.1 27 b) [] rfl (fun j hj => by simp at hj)
  rw [sV_id] at this
  exact this
